section
/-! the tree as it lives: A the pages that live, L what lives in them, spans, levels -/
def ke (e : zE) : Int := e.1.toInt
def zkn (l : List zE) : Prop := (l.map (fun e => e.1)).Nodup
def zpw (A : Nat → Prop) (L : Nat → List zE) (kd : Nat → Int32) (lo hi : Nat → Int) (lev : Nat → Nat) (x : Nat) : Prop :=
  0 ≤ lo x ∧ lo x < hi x ∧ hi x ≤ 1000 ∧ kd x = (if lev x = 0 then 1 else 0) ∧ x < 4000 ∧ zkn (L x) ∧ (∀ e ∈ L x, lo x ≤ ke e ∧ ke e < hi x) ∧
  (lev x ≠ 0 → (∃ e ∈ L x, ke e = lo x) ∧ ∀ e ∈ L x, ∃ c, A c ∧ e.2.2.2 = nI c ∧ lev c + 1 = lev x ∧ lo c = ke e ∧ (hi c = hi x ∨ ∃ e' ∈ L x, ke e' = hi c) ∧ ∀ e' ∈ L x, ke e < ke e' → hi c ≤ ke e')
def zWf (A : Nat → Prop) (L : Nat → List zE) (kd : Nat → Int32) (R : Nat) (lo hi : Nat → Int) (lev : Nat → Nat) : Prop :=
  A R ∧ lo R = 0 ∧ hi R = 1000 ∧ (∀ x, A x → lev x < lev R ∨ x = R) ∧ (∀ x y, A x → A y → lev x = lev y → x = y ∨ hi x ≤ lo y ∨ hi y ≤ lo x) ∧ ∀ x, A x → zpw A L kd lo hi lev x
theorem ke_inj {e e' : zE} (h : ke e = ke e') : e.1 = e'.1 := Int32.toInt_inj.mp h
theorem zkn_in {l : List zE} {e e' : zE} (h : zkn l) (h1 : e ∈ l) (h2 : e' ∈ l) (hk : e.1 = e'.1) : e = e' := by
  induction l with
  | nil => cases h1
  | cons x l ih =>
    unfold zkn at h
    rw [List.map_cons, List.nodup_cons] at h
    rcases List.mem_cons.mp h1 with a | a
    · rcases List.mem_cons.mp h2 with b | b
      · rw [a, b]
      · exact absurd (List.mem_map.mpr ⟨e', b, by rw [← hk, a]⟩) h.1
    · rcases List.mem_cons.mp h2 with b | b
      · exact absurd (List.mem_map.mpr ⟨e, a, by rw [hk, b]⟩) h.1
      · exact ih h.2 a b
theorem zkn_fil {l : List zE} (f : zE → Bool) (h : zkn l) : zkn (l.filter f) := by
  unfold zkn at *
  exact List.Nodup.sublist (List.Sublist.map _ List.filter_sublist) h
theorem zkn_snoc {l : List zE} {e : zE} (h : zkn l) (hn : ∀ x ∈ l, x.1 ≠ e.1) : zkn (l ++ [e]) := by
  unfold zkn at *
  rw [List.map_append, List.nodup_append]
  refine ⟨h, by simp, fun a ha b hb => ?_⟩
  simp only [List.map_cons, List.map_nil, List.mem_cons, List.not_mem_nil, or_false] at hb
  obtain ⟨x, hx, hxa⟩ := List.mem_map.mp ha
  rw [hb, ← hxa]
  exact hn x hx
theorem zkn_perm {l l' : List zE} (h : zkn l) (p : l.Perm l') : zkn l' := by
  unfold zkn at *
  exact (List.Perm.map _ p).nodup_iff.mp h
theorem zkn_app {l l' : List zE} (h : zkn l) (h' : zkn l') (hn : ∀ x ∈ l, ∀ y ∈ l', x.1 ≠ y.1) : zkn (l ++ l') := by
  unfold zkn at *
  rw [List.map_append, List.nodup_append]
  refine ⟨h, h', fun a ha b hb => ?_⟩
  obtain ⟨x, hx, hxa⟩ := List.mem_map.mp ha
  obtain ⟨y, hy, hyb⟩ := List.mem_map.mp hb
  rw [← hxa, ← hyb]
  exact hn x hx y hy
section
variable {A : Nat → Prop} {L : Nat → List zE} {kd : Nat → Int32} {R : Nat} {lo hi : Nat → Int} {lev : Nat → Nat}
/-- a page has one entry above it -/
theorem zWf_one (h : zWf A L kd R lo hi lev) {x y : Nat} {e e' : zE} {c : Nat} (hx : A x) (hy : A y) (lx : lev x ≠ 0) (ly : lev y ≠ 0) (he : e ∈ L x) (he' : e' ∈ L y) (hc : e.2.2.2 = nI c) (hc' : e'.2.2.2 = nI c) (c4 : c < 4000) : x = y ∧ e = e' := by
  obtain ⟨h1, h2, h3, h4, h5, h6⟩ := h
  obtain ⟨_, _, _, _, _, n1, s1, q1⟩ := h6 x hx
  obtain ⟨_, _, _, _, _, n2, s2, q2⟩ := h6 y hy
  obtain ⟨_, g⟩ := q1 lx
  obtain ⟨_, g'⟩ := q2 ly
  obtain ⟨d, d1, d2, d3, d4, _⟩ := g e he
  obtain ⟨d', b1, b2, b3, b4, _⟩ := g' e' he'
  have x4 := (h6 d d1).2.2.2.2.1
  have y4 := (h6 d' b1).2.2.2.2.1
  have e1 : d = c := (nI_eq (by omega) (by omega)).mp (d2.symm.trans hc)
  have e2 : d' = c := (nI_eq (by omega) (by omega)).mp (b2.symm.trans hc')
  subst e1
  subst e2
  have k : ke e = ke e' := by rw [← d4, ← b4]
  have r1 := s1 e he
  have r2 := s2 e' he'
  have xy : x = y := by
    rcases h5 x y hx hy (by omega) with z | z | z
    · exact z
    · omega
    · omega
  subst xy
  exact ⟨rfl, zkn_in n1 he he' (ke_inj k)⟩
/-- the child of an entry -/
theorem zWf_ch (h : zWf A L kd R lo hi lev) {q p : Nat} {e : zE} (hq : A q) (lq : lev q ≠ 0) (he : e ∈ L q) (hv : e.2.2.2 = nI p) (p4 : p < 4000) : A p ∧ lev p + 1 = lev q ∧ lo p = ke e ∧ (hi p = hi q ∨ ∃ e' ∈ L q, ke e' = hi p) ∧ ∀ e' ∈ L q, ke e < ke e' → hi p ≤ ke e' := by
  obtain ⟨h1, h2, h3, h4, h5, h6⟩ := h
  obtain ⟨_, _, _, _, _, n1, s1, q1⟩ := h6 q hq
  obtain ⟨d, d1, d2, d3⟩ := (q1 lq).2 e he
  have x4 := (h6 d d1).2.2.2.2.1
  have e1 : d = p := (nI_eq (by omega) (by omega)).mp (d2.symm.trans hv)
  subst e1
  exact ⟨d1, d3⟩
theorem zWf_perm (h : zWf A L kd R lo hi lev) {L' : Nat → List zE} (hp : ∀ x, A x → (L x).Perm (L' x)) : zWf A L' kd R lo hi lev := by
  obtain ⟨h1, h2, h3, h4, h5, h6⟩ := h
  refine ⟨h1, h2, h3, h4, h5, fun x hx => ?_⟩
  obtain ⟨a1, a2, a3, a4, a5, a6, a7, a8⟩ := h6 x hx
  have m : ∀ e, e ∈ L' x ↔ e ∈ L x := fun e => (hp x hx).mem_iff.symm
  refine ⟨a1, a2, a3, a4, a5, zkn_perm a6 (hp x hx), fun e he => a7 e ((m e).mp he), fun l0 => ?_⟩
  obtain ⟨⟨e, g1, g2⟩, g3⟩ := a8 l0
  refine ⟨⟨e, (m e).mpr g1, g2⟩, fun e he => ?_⟩
  obtain ⟨c, c1, c2, c3, c4, c5, c6⟩ := g3 e ((m e).mp he)
  refine ⟨c, c1, c2, c3, c4, ?_, fun e' he' => c6 e' ((m e').mp he')⟩
  rcases c5 with z | ⟨e', z1, z2⟩
  · exact Or.inl z
  · exact Or.inr ⟨e', (m e').mpr z1, z2⟩
/-- what lives in a leaf changes -/
theorem zWf_leaf (h : zWf A L kd R lo hi lev) {p : Nat} {l : List zE} (hp : A p) (l0 : lev p = 0) (hn : zkn l) (hs : ∀ e ∈ l, lo p ≤ ke e ∧ ke e < hi p) : zWf A (zup L p l) kd R lo hi lev := by
  obtain ⟨h1, h2, h3, h4, h5, h6⟩ := h
  refine ⟨h1, h2, h3, h4, h5, fun x hx => ?_⟩
  obtain ⟨a1, a2, a3, a4, a5, a6, a7, a8⟩ := h6 x hx
  by_cases c : x = p
  · subst c
    refine ⟨a1, a2, a3, a4, a5, by rw [zup_eq]; exact hn, by rw [zup_eq]; exact hs, fun z => absurd l0 z⟩
  · unfold zpw
    rw [zup_ne c]
    exact ⟨a1, a2, a3, a4, a5, a6, a7, a8⟩
/-- a page gets a new number -/
theorem zWf_N (h : zWf A L kd R lo hi lev) {p q n : Nat} {e0 : zE} {f : Int32} (hp : A p) (hq : A q) (lq : lev q ≠ 0) (he : e0 ∈ L q) (hv : e0.2.2.2 = nI p) (hn : ¬ A n) (n4 : n < 4000) :
    zWf (fun x => (A x ∧ x ≠ p) ∨ x = n) (zup (zup L q ((L q).filter (fun e => decide (e.1 ≠ e0.1)) ++ [(e0.1, f, -2, nI n)])) n (L p)) (zup kd n (kd p)) R (zup lo n (lo p)) (zup hi n (hi p)) (zup lev n (lev p)) := by
  have hW := h
  have p4 := (h.2.2.2.2.2 p hp).2.2.2.2.1
  obtain ⟨_, c1, c2, c3, c4⟩ := zWf_ch h hq lq he hv p4
  obtain ⟨h1, h2, h3, h4, h5, h6⟩ := h
  have ne : ∀ x, A x → x ≠ n := fun x hx e => hn (e ▸ hx)
  have pq : p ≠ q := fun e => by rw [e] at c1; omega
  have pR : p ≠ R := fun e => by
    rcases h4 q hq with z | z
    · rw [← e] at z; omega
    · rw [← e] at z; exact pq z.symm
  have U : ∀ {α : Type} (g : Nat → α) (v : α) (x : Nat), A x → zup g n v x = g x := fun g v x hx => zup_ne (ne x hx)
  have mq : ∀ e, e ∈ (L q).filter (fun e => decide (e.1 ≠ e0.1)) ++ [(e0.1, f, -2, nI n)] ↔ (e ∈ L q ∧ e.1 ≠ e0.1) ∨ e = (e0.1, f, -2, nI n) := fun e => by
    simp [List.mem_append, List.mem_filter]
  have kk : ke (e0.1, f, -2, nI n) = ke e0 := rfl
  refine ⟨Or.inl ⟨h1, fun e => pR e.symm⟩, by rw [U _ _ R h1]; exact h2, by rw [U _ _ R h1]; exact h3, fun x hx => ?_, fun x y hx hy hl => ?_, fun x hx => ?_⟩
  · rw [U _ _ R h1]
    rcases hx with ⟨z, _⟩ | z
    · rw [U _ _ x z]; exact h4 x z
    · subst z
      rw [zup_eq]
      rcases h4 p hp with y | y
      · exact Or.inl y
      · exact absurd y pR
  · rcases hx with ⟨x1, x2⟩ | x1
    · rw [U _ _ x x1] at hl
      rw [U lo _ x x1, U hi _ x x1]
      rcases hy with ⟨y1, y2⟩ | y1
      · rw [U _ _ y y1] at hl
        rw [U lo _ y y1, U hi _ y y1]
        exact h5 x y x1 y1 hl
      · subst y1
        rw [zup_eq] at hl ⊢
        rw [zup_eq]
        rcases h5 x p x1 hp hl with z | z
        · exact absurd z x2
        · exact Or.inr z
    · subst x1
      rw [zup_eq] at hl
      rcases hy with ⟨y1, y2⟩ | y1
      · rw [U _ _ y y1] at hl
        rw [U lo _ y y1, U hi _ y y1, zup_eq, zup_eq]
        rcases h5 p y hp y1 hl with z | z
        · exact absurd z.symm y2
        · exact Or.inr z
      · exact Or.inl y1.symm
  · have old : ∀ c, A c → c ≠ p → (A c ∧ c ≠ p) ∨ c = n := fun c c1 c2 => Or.inl ⟨c1, c2⟩
    have copy : ∀ x, A x → x ≠ q → ∀ e ∈ L x, lev x ≠ 0 → ∀ c, A c → e.2.2.2 = nI c → c ≠ p := fun z hz xq e hex lx c hc hcv cp => xq (zWf_one hW hz hq lx lq hex he (by rw [hcv, cp]) hv p4).1
    rcases hx with ⟨x1, x2⟩ | x1
    · obtain ⟨a1, a2, a3, a4, a5, a6, a7, a8⟩ := h6 x x1
      by_cases xq : x = q
      · subst xq
        unfold zpw
        have eL : zup (zup L x ((L x).filter (fun e => decide (e.1 ≠ e0.1)) ++ [(e0.1, f, -2, nI n)])) n (L p) x = (L x).filter (fun e => decide (e.1 ≠ e0.1)) ++ [(e0.1, f, -2, nI n)] := by rw [zup_ne (ne x x1), zup_eq]
        rw [eL, U lo _ x x1, U hi _ x x1, U lev _ x x1, U kd _ x x1]
        refine ⟨a1, a2, a3, a4, a5, zkn_snoc (zkn_fil _ a6) (fun y hy => ?_), fun e hm => ?_, fun l0 => ?_⟩
        · have := (List.mem_filter.mp hy).2
          exact of_decide_eq_true this
        · rcases (mq e).mp hm with z | z
          · exact a7 e z.1
          · rw [z]; exact a7 e0 he
        · obtain ⟨⟨em, g1, g2⟩, g3⟩ := a8 l0
          have up : ∀ e' ∈ L x, ∃ e'' ∈ (L x).filter (fun e => decide (e.1 ≠ e0.1)) ++ [(e0.1, f, -2, nI n)], ke e'' = ke e' := fun e' he' => by
            by_cases z : e'.1 = e0.1
            · exact ⟨_, (mq _).mpr (Or.inr rfl), by rw [kk]; unfold ke; rw [z]⟩
            · exact ⟨e', (mq e').mpr (Or.inl ⟨he', z⟩), rfl⟩
          have dn : ∀ e' ∈ (L x).filter (fun e => decide (e.1 ≠ e0.1)) ++ [(e0.1, f, -2, nI n)], ∃ e'' ∈ L x, ke e'' = ke e' := fun e' he' => by
            rcases (mq e').mp he' with z | z
            · exact ⟨e', z.1, rfl⟩
            · exact ⟨e0, he, by rw [z]; rfl⟩
          refine ⟨?_, fun e hm => ?_⟩
          · obtain ⟨e'', u1, u2⟩ := up em g1
            exact ⟨e'', u1, u2.trans g2⟩
          · rcases (mq e).mp hm with z | z
            · obtain ⟨c, b1, b2, b3, b4, b5, b6⟩ := g3 e z.1
              have cp : c ≠ p := fun cp => by
                subst cp
                exact z.2 (by rw [(zWf_one hW x1 x1 l0 l0 z.1 he b2 hv p4).2])
              refine ⟨c, old c b1 cp, b2, by rw [U lev _ c b1]; exact b3, by rw [U lo _ c b1]; exact b4, ?_, fun e' he' hk => ?_⟩
              · rw [U hi _ c b1]
                rcases b5 with y | ⟨e', y1, y2⟩
                · exact Or.inl y
                · obtain ⟨e'', u1, u2⟩ := up e' y1
                  exact Or.inr ⟨e'', u1, u2.trans y2⟩
              · rw [U hi _ c b1]
                obtain ⟨e'', u1, u2⟩ := dn e' he'
                rw [← u2] at hk ⊢
                exact b6 e'' u1 hk
            · subst z
              refine ⟨n, Or.inr rfl, rfl, by rw [zup_eq]; exact c1, by rw [zup_eq]; exact c2, ?_, fun e' he' hk => ?_⟩
              · rw [zup_eq]
                rcases c3 with y | ⟨e', y1, y2⟩
                · exact Or.inl y
                · obtain ⟨e'', u1, u2⟩ := up e' y1
                  exact Or.inr ⟨e'', u1, u2.trans y2⟩
              · rw [zup_eq]
                obtain ⟨e'', u1, u2⟩ := dn e' he'
                rw [← u2] at hk ⊢
                exact c4 e'' u1 hk
      · unfold zpw
        have eL : zup (zup L q ((L q).filter (fun e => decide (e.1 ≠ e0.1)) ++ [(e0.1, f, -2, nI n)])) n (L p) x = L x := by rw [zup_ne (ne x x1), zup_ne xq]
        rw [eL, U lo _ x x1, U hi _ x x1, U lev _ x x1, U kd _ x x1]
        refine ⟨a1, a2, a3, a4, a5, a6, a7, fun l0 => ?_⟩
        obtain ⟨g1, g3⟩ := a8 l0
        refine ⟨g1, fun e hm => ?_⟩
        obtain ⟨c, b1, b2, b3, b4, b5, b6⟩ := g3 e hm
        have cp := copy x x1 xq e hm l0 c b1 b2
        exact ⟨c, old c b1 cp, b2, by rw [U lev _ c b1]; exact b3, by rw [U lo _ c b1]; exact b4, by rw [U hi _ c b1]; exact b5, by rw [U hi _ c b1]; exact b6⟩
    · subst x1
      obtain ⟨a1, a2, a3, a4, a5, a6, a7, a8⟩ := h6 p hp
      unfold zpw
      rw [zup_eq, zup_eq, zup_eq, zup_eq, zup_eq]
      refine ⟨a1, a2, a3, a4, n4, a6, a7, fun l0 => ?_⟩
      obtain ⟨g1, g3⟩ := a8 l0
      refine ⟨g1, fun e hm => ?_⟩
      obtain ⟨c, b1, b2, b3, b4, b5, b6⟩ := g3 e hm
      have cp : c ≠ p := fun e => by rw [e] at b3; omega
      exact ⟨c, old c b1 cp, b2, by rw [U lev _ c b1]; exact b3, by rw [U lo _ c b1]; exact b4, by rw [U hi _ c b1]; exact b5, by rw [U hi _ c b1]; exact b6⟩
end
end
