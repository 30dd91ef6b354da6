section
/-! the tree as of an earlier time -/
def zAt (τ : Int32) (P : Nat) (pg : Nat → zP) : Nat → Prop := fun x => x < P ∧ (pg x).2.1 ≤ τ ∧ ((pg x).2.2.1 = -2 ∨ τ < (pg x).2.2.1)
def zLt (τ : Int32) (pg : Nat → zP) : Nat → List zE := fun x => (pg x).2.2.2.filter (zlv τ)
def zkv (e : zE) : Int32 × Int32 := (e.1, e.2.2.2)
theorem zkv_mem {l l' : List zE} (h : l'.map zkv = l.map zkv) {e : zE} (he : e ∈ l') : ∃ e' ∈ l, e'.1 = e.1 ∧ e'.2.2.2 = e.2.2.2 := by
  have : zkv e ∈ l.map zkv := by rw [← h]; exact List.mem_map.mpr ⟨e, he, rfl⟩
  obtain ⟨e', h1, h2⟩ := List.mem_map.mp this
  unfold zkv at h2
  have h3 := Prod.mk.inj h2
  exact ⟨e', h1, h3.1, h3.2⟩
theorem zkv_kn {l l' : List zE} (h : l'.map zkv = l.map zkv) (hn : zkn l) : zkn l' := by
  have e : ∀ x : List zE, x.map (fun e => e.1) = (x.map zkv).map (fun q => q.1) := fun x => by rw [List.map_map]; rfl
  unfold zkn at *
  rw [e, h, ← e]
  exact hn
theorem zWf_kv {A A' : Nat → Prop} {L L' : Nat → List zE} {kd kd' : Nat → Int32} {R : Nat} {lo hi : Nat → Int} {lev : Nat → Nat} (h : zWf A L kd R lo hi lev) (hA : ∀ x, A' x ↔ A x) (hx : ∀ x, A x → (L' x).map zkv = (L x).map zkv ∧ kd' x = kd x) : zWf A' L' kd' R lo hi lev := by
  obtain ⟨h1, h2, h3, h4, h5, h6⟩ := h
  refine ⟨(hA R).mpr h1, h2, h3, fun x hx' => h4 x ((hA x).mp hx'), fun x y hx' hy' => h5 x y ((hA x).mp hx') ((hA y).mp hy'), fun x hx' => ?_⟩
  have xa := (hA x).mp hx'
  obtain ⟨k1, k2⟩ := hx x xa
  obtain ⟨a1, a2, a3, a4, a5, a6, a7, a8⟩ := h6 x xa
  have dn : ∀ e ∈ L' x, ∃ e' ∈ L x, ke e' = ke e ∧ e'.2.2.2 = e.2.2.2 := fun e he => by
    obtain ⟨e', m1, m2, m3⟩ := zkv_mem k1 he
    exact ⟨e', m1, by unfold ke; rw [m2], m3⟩
  have up : ∀ e ∈ L x, ∃ e' ∈ L' x, ke e' = ke e ∧ e'.2.2.2 = e.2.2.2 := fun e he => by
    obtain ⟨e', m1, m2, m3⟩ := zkv_mem k1.symm he
    exact ⟨e', m1, by unfold ke; rw [m2], m3⟩
  refine ⟨a1, a2, a3, by rw [k2]; exact a4, a5, zkv_kn k1 a6, fun e he => ?_, fun l0 => ?_⟩
  · obtain ⟨e', m1, m2, _⟩ := dn e he
    rw [← m2]; exact a7 e' m1
  · obtain ⟨⟨em, g1, g2⟩, g3⟩ := a8 l0
    refine ⟨?_, fun e he => ?_⟩
    · obtain ⟨e', m1, m2, _⟩ := up em g1
      exact ⟨e', m1, m2.trans g2⟩
    · obtain ⟨e', m1, m2, m3⟩ := dn e he
      obtain ⟨c, c1, c2, c3, c4, c5, c6⟩ := g3 e' m1
      refine ⟨c, (hA c).mpr c1, by rw [← m3]; exact c2, c3, by rw [← m2]; exact c4, ?_, fun e2 he2 hk => ?_⟩
      · rcases c5 with z | ⟨e2, z1, z2⟩
        · exact Or.inl z
        · obtain ⟨e3, n1, n2, _⟩ := up e2 z1
          exact Or.inr ⟨e3, n1, n2.trans z2⟩
      · obtain ⟨e3, n1, n2, _⟩ := dn e2 he2
        rw [← m2, ← n2] at hk
        rw [← n2]
        exact c6 e3 n1 hk
theorem zmo_fil {t τ : Int32} (ht : τ < t) (t2 : t ≠ -2) : ∀ (l l' : List zE), (∀ (i : Nat) (e : zE), l[i]? = some e → ∃ e', l'[i]? = some e' ∧ e'.1 = e.1 ∧ e'.2.1 = e.2.1 ∧ e'.2.2.2 = e.2.2.2 ∧ (e'.2.2.1 = e.2.2.1 ∨ (e.2.2.1 = -2 ∧ e'.2.2.1 = t))) → (∀ (i : Nat) (e' : zE), l'[i]? = some e' → l.length ≤ i → e'.2.1 = t) → (l'.filter (zlv τ)).map zkv = (l.filter (zlv τ)).map zkv := by
  intro l
  induction l with
  | nil =>
    intro l' _ h2
    have : l'.filter (zlv τ) = [] := List.filter_eq_nil_iff.mpr (fun e he => by
      obtain ⟨i, hi⟩ := List.mem_iff_getElem?.mp he
      have := h2 i e hi (Nat.zero_le _)
      unfold zlv
      rw [this, if_pos ht]
      decide)
    rw [this]
    rfl
  | cons e l ih =>
    intro l' h1 h2
    cases l' with
    | nil =>
      obtain ⟨e', z, _⟩ := h1 0 e rfl
      simp at z
    | cons e' l' =>
      obtain ⟨e2, z1, z2, z3, z4, z5⟩ := h1 0 e rfl
      rw [List.getElem?_cons_zero] at z1
      cases z1
      have tl := ih l' (fun i x hi => by
        obtain ⟨y, y1, y2⟩ := h1 (i + 1) x (by simpa using hi)
        exact ⟨y, by simpa using y1, y2⟩) (fun i x hi hl => h2 (i + 1) x (by simpa using hi) (by simp; omega))
      have same : zlv τ e' = zlv τ e := by
        unfold zlv
        rw [z3]
        by_cases c : τ < e.2.1
        · rw [if_pos c, if_pos c]
        · rw [if_neg c, if_neg c]
          rcases z5 with y | ⟨y1, y2⟩
          · rw [y]
          · rw [if_pos y1, y2, if_neg t2, if_neg (Int32.not_le.mpr ht)]
      have kk : zkv e' = zkv e := by unfold zkv; rw [z2, z4]
      by_cases c : zlv τ e = true
      · rw [List.filter_cons_of_pos (by rw [same]; exact c), List.filter_cons_of_pos c, List.map_cons, List.map_cons, kk, tl]
      · rw [List.filter_cons_of_neg (by rw [same]; exact c), List.filter_cons_of_neg c, tl]
theorem zmo_frz {t τ : Int32} {P P' R : Nat} {pg pg' : Nat → zP} {lo hi : Nat → Int} {lev : Nat → Nat} (ht : τ < t) (t2 : t ≠ -2) (hm : zmo t P pg P' pg') (h : zWf (zAt τ P pg) (zLt τ pg) (zKd pg) R lo hi lev) : zWf (zAt τ P' pg') (zLt τ pg') (zKd pg') R lo hi lev := by
  obtain ⟨m1, m2, m3⟩ := hm
  refine zWf_kv h (fun x => ?_) (fun x hx => ?_)
  · unfold zAt
    by_cases c : x < P
    · obtain ⟨b1, b2, b3, _⟩ := m3 x c
      rw [b2]
      rcases b3 with z | ⟨z1, z2⟩
      · rw [z]
        exact ⟨fun y => ⟨c, y.2⟩, fun y => ⟨by omega, y.2⟩⟩
      · rw [z1, z2]
        exact ⟨fun y => ⟨c, y.2.1, Or.inl rfl⟩, fun y => ⟨by omega, y.2.1, Or.inr ht⟩⟩
    · constructor
      · intro y
        have := (m2 x (by omega) y.1).1
        rw [this] at y
        exact absurd y.2.1 (Int32.not_le.mpr ht)
      · intro y
        exact absurd y.1 c
  · obtain ⟨b1, b2, b3, b4, b5⟩ := m3 x hx.1
    exact ⟨zmo_fil ht t2 _ _ b4 b5, b1⟩
/-- the tree as it lives, as of the time as it is -/
theorem z_now {B P R : Nat} {t : Int32} {pg : Nat → zP} {lo hi : Nat → Int} {lev : Nat → Nat} (hG : zGl B t P pg) (h : zWf (zal P pg) (zLv pg) (zKd pg) R lo hi lev) : zWf (zAt t P pg) (zLt t pg) (zKd pg) R lo hi lev := by
  refine zWf_cg h (fun x => ?_) (fun x hx => ⟨?_, rfl⟩)
  · unfold zAt zal
    constructor
    · rintro ⟨y1, y2, y3⟩
      refine ⟨y1, ?_⟩
      rcases y3 with z | z
      · exact z
      · rcases (hG x y1).2.2.2 with u | u
        · exact u
        · exact absurd z (Int32.not_lt.mpr u)
    · rintro ⟨y1, y2⟩
      exact ⟨y1, (hG x y1).2.2.1, Or.inl y2⟩
  · unfold zLv zLt
    rw [List.filter_congr (fun e he => (zlv_nw ((hG x hx.1).2.1 e he).1).symm)]
theorem z_nowI {B P R : Nat} {t : Int32} {pg : Nat → zP} {lo hi : Nat → Int} {lev : Nat → Nat} (hG : zGl B t P pg) (h : zWf (zAt t P pg) (zLt t pg) (zKd pg) R lo hi lev) : zWf (zal P pg) (zLv pg) (zKd pg) R lo hi lev := by
  refine zWf_cg h (fun x => ?_) (fun x hx => ⟨?_, rfl⟩)
  · unfold zAt zal
    constructor
    · rintro ⟨y1, y2⟩
      exact ⟨y1, (hG x y1).2.2.1, Or.inl y2⟩
    · rintro ⟨y1, y2, y3⟩
      refine ⟨y1, ?_⟩
      rcases y3 with z | z
      · exact z
      · rcases (hG x y1).2.2.2 with u | u
        · exact u
        · exact absurd z (Int32.not_lt.mpr u)
  · unfold zLv zLt
    rw [List.filter_congr (fun e he => (zlv_nw ((hG x hx.1).2.1 e he).1).symm)]
/-! roots by time -/
def zrf : List (Int32 × Int32) → Int32 → Int32
  | [], _ => 0
  | q :: rest, τ => if rest = [] then q.2 else if q.1 ≤ τ then q.2 else zrf rest τ
def zrt (ro : List (Int32 × Int32)) (τ : Int32) : Int32 := zrf ro.reverse τ
theorem zrt_snoc {ro : List (Int32 × Int32)} {t x τ : Int32} (h : ro ≠ []) (ht : τ < t) : zrt (ro ++ [(t, x)]) τ = zrt ro τ := by
  unfold zrt
  rw [List.reverse_append]
  show zrf ((t, x) :: ro.reverse) τ = _
  unfold zrf
  rw [if_neg (fun z => h (List.reverse_eq_nil_iff.mp z)), if_neg (Int32.not_le.mpr ht)]
  cases ro.reverse <;> rfl
theorem zrt_last {ro : List (Int32 × Int32)} {t x : Int32} : zrt (ro ++ [(t, x)]) t = x := by
  unfold zrt
  rw [List.reverse_append]
  show zrf ((t, x) :: ro.reverse) t = _
  unfold zrf
  split
  · rfl
  · rw [if_pos (Int32.le_refl t)]
/-! the way down -/
def zcd (pg : Nat → zP) (key τ : Int32) (x : Nat) : Nat := match zbs (ztw key τ) zgt (pg x).2.2.2 0 none with
  | some q => ((pg x).2.2.2.getD q.1 zdf).2.2.2.toNatClampNeg
  | none => 0
def zpth (pg : Nat → zP) (key τ : Int32) : Nat → Nat → List Nat
  | 0, x => [x]
  | n + 1, x => x :: zpth pg key τ n (zcd pg key τ x)
theorem zbs_ex {ok : zE → Bool} {bt : Int32 → Int32 → Bool} : ∀ (es : List zE) (i : Nat) (b : Option (Nat × Int32)), (b ≠ none ∨ ∃ e ∈ es, ok e = true) → zbs ok bt es i b ≠ none := by
  intro es
  induction es with
  | nil =>
    intro i b h
    rcases h with h | ⟨e, h, _⟩
    · exact h
    · cases h
  | cons e es ih =>
    intro i b h
    rw [zbs_cons]
    refine ih _ _ ?_
    by_cases c : ok e = true
    · refine Or.inl ?_
      unfold zbst
      rw [if_pos c]
      cases b with
      | none => simp
      | some q => simp only []; split <;> simp
    · unfold zbst
      rw [if_neg c]
      rcases h with h | ⟨x, h1, h2⟩
      · exact Or.inl h
      · rcases List.mem_cons.mp h1 with z | z
        · rw [z] at h2; exact absurd h2 c
        · exact Or.inr ⟨x, z, h2⟩
/-- one step down -/
theorem z_down {P R x : Nat} {key τ : Int32} {pg : Nat → zP} {lo hi : Nat → Int} {lev : Nat → Nat} (h : zWf (zAt τ P pg) (zLt τ pg) (zKd pg) R lo hi lev) (hx : zAt τ P pg x) (lx : lev x ≠ 0) (k1 : lo x ≤ key.toInt) (k2 : key.toInt < hi x) :
    ∃ q e, zbs (ztw key τ) zgt (pg x).2.2.2 0 none = some q ∧ (pg x).2.2.2[q.1]? = some e ∧ e ∈ zLt τ pg x ∧ e.2.2.2 = nI (zcd pg key τ x) ∧ zAt τ P pg (zcd pg key τ x) ∧ lev (zcd pg key τ x) + 1 = lev x ∧ lo (zcd pg key τ x) ≤ key.toInt ∧ key.toInt < hi (zcd pg key τ x) := by
  obtain ⟨_, _, _, _, _, nx, sx, x8⟩ := h.2.2.2.2.2 x hx
  obtain ⟨⟨em, m1, m2⟩, kids⟩ := x8 lx
  obtain ⟨mm1, mm2⟩ := List.mem_filter.mp m1
  have okm : ztw key τ em = true := by
    have : em.1 ≤ key := Int32.le_iff_toInt_le.mpr (by show ke em ≤ _; omega)
    simp [ztw, mm2, this]
  cases hz : zbs (ztw key τ) zgt (pg x).2.2.2 0 none with
  | none => exact absurd hz (zbs_ex _ _ _ (Or.inr ⟨em, mm1, okm⟩))
  | some q =>
    obtain ⟨e, g1, g2, g3⟩ := zbs_0 hz
    have mx := (zbs_max _ _ _ _ hz).1
    have g2' : zlv τ e = true ∧ e.1 ≤ key := by simpa [ztw] using g2
    have eL : e ∈ zLt τ pg x := List.mem_filter.mpr ⟨List.mem_of_getElem? g1, g2'.1⟩
    obtain ⟨c, c1, c2, c3, c4, c5, c6⟩ := kids e eL
    have c4' := (h.2.2.2.2.2 c c1).2.2.2.2.1
    have ec : zcd pg key τ x = c := by
      unfold zcd
      rw [hz]
      simp only [zgetD g1, c2]
      exact nI_clamp (by omega)
    rw [ec]
    have lc := (h.2.2.2.2.2 c c1).2.1
    have ke1 : ke e ≤ key.toInt := Int32.le_iff_toInt_le.mp g2'.2
    refine ⟨q, e, rfl, g1, eL, c2, c1, c3, by omega, ?_⟩
    rcases c5 with z | ⟨e', z1, z2⟩
    · omega
    · obtain ⟨zz1, zz2⟩ := List.mem_filter.mp z1
      by_cases y : ke e' ≤ key.toInt
      · have ok' : ztw key τ e' = true := by
          have : e'.1 ≤ key := Int32.le_iff_toInt_le.mpr y
          simp [ztw, zz2, this]
        have := mx e' zz1 ok'
        rw [g3] at this
        have : ke e' ≤ ke e := Int32.le_iff_toInt_le.mp this
        omega
      · omega
end
