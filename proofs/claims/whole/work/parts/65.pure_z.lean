section
/-! the way, from its leaf up -/
theorem zchn_snoc {pg : Nat → zP} {c x : Nat} (he : ∃ e ∈ zLv pg x, e.2.2.2 = nI c) (hk : (pg x).1 ≠ 1) : ∀ (l : List Nat), zchn pg c l → zchn pg x (l ++ [x]) := by
  intro l
  induction l with
  | nil => intro h; exact h.elim
  | cons p up ih =>
    intro h
    cases up with
    | nil =>
      have h' : p = c := h
      rw [h']
      exact ⟨he, hk, rfl⟩
    | cons q up =>
      obtain ⟨h1, h2, h3⟩ := h
      exact ⟨h1, h2, ih h3⟩
theorem z_route {B P R : Nat} {key t : Int32} {pg : Nat → zP} {lo hi : Nat → Int} {lev : Nat → Nat} (hW : zWf (zAt t P pg) (zLt t pg) (zKd pg) R lo hi lev) (hG : zGl B t P pg) : ∀ (m x : Nat), zAt t P pg x → lev x = m → lo x ≤ key.toInt → key.toInt < hi x →
    ∃ p up, (zpth pg key t m x).reverse = p :: up ∧ zchn pg x (p :: up) ∧ (∀ y ∈ p :: up, zAt t P pg y ∧ lev y ≤ m) ∧ ((p :: up).map lev).Pairwise (fun a b => a < b) ∧ lev p = 0 ∧ lo p ≤ key.toInt ∧ key.toInt < hi p ∧ (p :: up).length = m + 1 := by
  intro m
  induction m with
  | zero =>
    intro x hx lx k1 k2
    refine ⟨x, [], rfl, rfl, fun y hy => ?_, List.pairwise_singleton _ _, lx, k1, k2, rfl⟩
    rw [List.mem_singleton] at hy
    rw [hy]
    exact ⟨hx, by omega⟩
  | succ m ih =>
    intro x hx lx k1 k2
    obtain ⟨q, e, g1, g2, g3, g4, g5, g6, g7, g8⟩ := z_down hW hx (by omega) k1 k2
    obtain ⟨p, up, r1, r2, r3, r4, r5, r6, r7, r8⟩ := ih _ g5 (by omega) g7 g8
    have kx : (pg x).1 ≠ 1 := by
      have := (hW.2.2.2.2.2 x hx).2.2.2.1
      rw [if_neg (by omega)] at this
      rw [show (pg x).1 = 0 from this]
      decide
    have eL : e ∈ zLv pg x := by
      obtain ⟨z1, z2⟩ := List.mem_filter.mp g3
      refine List.mem_filter.mpr ⟨z1, ?_⟩
      rw [← zlv_nw ((hG x hx.1).2.1 e z1).1]
      exact z2
    refine ⟨p, up ++ [x], ?_, zchn_snoc ⟨e, eL, g4⟩ kx _ r2, fun y hy => ?_, ?_, r5, r6, r7, ?_⟩
    · show (x :: zpth pg key t m (zcd pg key t x)).reverse = _
      rw [List.reverse_cons, r1]
      rfl
    · rcases List.mem_append.mp (show y ∈ (p :: up) ++ [x] from hy) with z | z
      · have := r3 y z
        exact ⟨this.1, by omega⟩
      · rw [List.mem_singleton] at z
        rw [z]
        exact ⟨hx, by omega⟩
    · show (((p :: up) ++ [x]).map lev).Pairwise _
      rw [List.map_append, List.pairwise_append]
      refine ⟨r4, List.pairwise_singleton _ _, fun a ha b hb => ?_⟩
      obtain ⟨y, hy, hya⟩ := List.mem_map.mp ha
      simp only [List.map_cons, List.map_nil, List.mem_singleton] at hb
      have := (r3 y hy).2
      rw [hb, ← hya, lx]
      omega
    · simp only [List.length_cons, List.length_append, List.length_nil] at r8 ⊢
      omega
/-! the index: what always holds of it -/
def zIx (B T P : Nat) (pg : Nat → zP) (ro : List (Int32 × Int32)) : Prop :=
  6 ≤ B ∧ B ≤ 12 ∧ T < 100000 ∧ P ≤ 320 ∧ ro.length ≤ P ∧ (∃ q, ro[0]? = some q ∧ q.1 = 0) ∧ zGl B (nI T) P pg ∧
  (∃ R lo hi lev ro0 f, zWf (zal P pg) (zLv pg) (zKd pg) R lo hi lev ∧ zpot B P pg R lev ∧ ro = ro0 ++ [(f, nI R)] ∧ f ≤ nI T) ∧
  ∀ τ, τ ≤ T → ∃ R lo hi lev, zWf (zAt (nI τ) P pg) (zLt (nI τ) pg) (zKd pg) R lo hi lev ∧ lev R ≤ 30 ∧ zrt ro (nI τ) = nI R
theorem zrt_f {ro : List (Int32 × Int32)} {f x τ : Int32} (h : f ≤ τ) : zrt (ro ++ [(f, x)]) τ = x := by
  unfold zrt
  rw [List.reverse_append]
  show (if ro.reverse = [] then x else if f ≤ τ then x else zrf ro.reverse τ) = _
  split
  · rfl
  · rfl
theorem zpot_le {B P R : Nat} {F : Nat → zP} {lev : Nat → Nat} (h : zpot B P F R lev) (hP : P ≤ 320) : lev R ≤ 22 := by
  unfold zpot at h
  have : zba (lev R) ≤ P := by omega
  unfold zba at this
  split at this
  · omega
  · split at this
    · omega
    · omega
theorem znok_up {T : Nat} (hT : T < 100000) {e : zE} (h : znok (nI T) e) : znok (nI (T + 1)) e := by
  have le : nI T ≤ nI (T + 1) := nI_le (by omega) (by omega)
  refine ⟨Int32.le_trans h.1 le, ?_⟩
  rcases h.2 with z | z
  · exact Or.inl z
  · exact Or.inr (Int32.le_trans z le)
theorem zGl_up {B T P : Nat} {pg : Nat → zP} (hT : T < 100000) (h : zGl B (nI T) P pg) : zGl B (nI (T + 1)) P pg := fun x hx => by
  have le : nI T ≤ nI (T + 1) := nI_le (by omega) (by omega)
  obtain ⟨a1, a2, a3, a4⟩ := h x hx
  refine ⟨a1, fun e he => ⟨znok_up hT (a2 e he).1, (a2 e he).2⟩, Int32.le_trans a3 le, ?_⟩
  rcases a4 with z | z
  · exact Or.inl z
  · exact Or.inr (Int32.le_trans z le)
theorem zt2 {T : Nat} (hT : T < 100000) : nI (T + 1) ≠ -2 := fun e => nI_pos (show T + 1 < 2 ^ 31 by omega) (by rw [e]; decide)
theorem zIx_next {B T P R : Nat} {pg : Nat → zP} {ro ro0 : List (Int32 × Int32)} {f : Int32} {o : Nat × (Nat → zP) × List (Int32 × Int32)} (h : zIx B T P pg ro) (hT : T + 1 < 100000) (hro : ro = ro0 ++ [(f, nI R)]) (hf : f ≤ nI T) (hr : zres B (nI (T + 1)) P pg ro R o) : zIx B (T + 1) o.1 o.2.1 o.2.2 := by
  obtain ⟨h1, h2, h3, h4, h5, ⟨q0, h6, h6'⟩, h7, h8, h9⟩ := h
  obtain ⟨R', lo, hi, lev, r1, r2, r3, r4, r5, r6, r7⟩ := hr
  have t2 := zt2 h3
  have le : nI T ≤ nI (T + 1) := nI_le (by omega) (by omega)
  have rn : ro ≠ [] := by rw [hro]; simp
  have last : ∃ ro1 f1, o.2.2 = ro1 ++ [(f1, nI R')] ∧ f1 ≤ nI (T + 1) := by
    rcases r7 with ⟨z1, z2⟩ | z
    · exact ⟨ro0, f, by rw [z2, hro, z1], Int32.le_trans hf le⟩
    · exact ⟨ro, nI (T + 1), z, Int32.le_refl _⟩
  refine ⟨h1, h2, hT, r5, r6, ⟨q0, ?_, h6'⟩, r3, ?_, fun τ hτ => ?_⟩
  · rcases r7 with ⟨_, z2⟩ | z
    · rw [z2]; exact h6
    · rw [z, List.getElem?_append_left (List.length_pos_iff.mpr rn)]; exact h6
  · obtain ⟨ro1, f1, l1, l2⟩ := last
    exact ⟨R', lo, hi, lev, ro1, f1, r1, r2, l1, l2⟩
  · by_cases c : τ ≤ T
    · obtain ⟨R2, lo2, hi2, lev2, w1, w2, w3⟩ := h9 τ c
      have lt : nI τ < nI (T + 1) := nI_lt (by omega) (by omega)
      refine ⟨R2, lo2, hi2, lev2, zmo_frz lt t2 r4 w1, w2, ?_⟩
      rcases r7 with ⟨_, z2⟩ | z
      · rw [z2]; exact w3
      · rw [z, zrt_snoc rn lt]; exact w3
    · have : τ = T + 1 := by omega
      subst this
      obtain ⟨ro1, f1, l1, l2⟩ := last
      refine ⟨R', lo, hi, lev, z_now r3 r1, ?_, by rw [l1]; exact zrt_f l2⟩
      have := zpot_le r2 r5
      omega
/-! PUT and CUT in pages -/
def zleaf (pg : Nat → zP) (p : Nat) (key t : Int32) : Nat → zP := zup pg p ((pg p).1, (pg p).2.1, (pg p).2.2.1, (pg p).2.2.2.map (zen key t))
def zputp (B : Nat) (t key v : Int32) (P : Nat) (pg : Nat → zP) (ro : List (Int32 × Int32)) (pa : List Nat) : Nat × (Nat → zP) × List (Int32 × Int32) :=
  if (pg (pa.headD 0)).2.2.2.length < B then (P, zapp (zleaf pg (pa.headD 0) key t) (pa.headD 0) [(key, t, -2, v)], ro)
  else zrep B t pa P (zleaf pg (pa.headD 0) key t) ro (zins (key, t, -2, v) (zgat znw ((pg (pa.headD 0)).2.2.2.map (zen key t)) []))
def zcutp (B : Nat) (t key : Int32) (P : Nat) (pg : Nat → zP) (ro : List (Int32 × Int32)) (pa : List Nat) : Nat × (Nat → zP) × List (Int32 × Int32) :=
  if pa.length = 1 then (P, zleaf pg (pa.headD 0) key t, ro)
  else if B / 4 ≤ ((pg (pa.headD 0)).2.2.2.map (zen key t)).countP znw then (P, zleaf pg (pa.headD 0) key t, ro)
  else zrep B t pa P (zleaf pg (pa.headD 0) key t) ro (zgat znw ((pg (pa.headD 0)).2.2.2.map (zen key t)) [])
theorem zen_k (key t : Int32) (e : zE) : (zen key t e).1 = e.1 ∧ (zen key t e).2.1 = e.2.1 ∧ (zen key t e).2.2.2 = e.2.2.2 := by
  unfold zen
  split <;> exact ⟨rfl, rfl, rfl⟩
theorem zen_nw {key t : Int32} (t2 : t ≠ -2) (e : zE) : znw (zen key t e) = true ↔ znw e = true ∧ e.1 ≠ key := by
  unfold zen
  by_cases c : znw e = true ∧ e.1 = key
  · rw [if_pos c]
    exact ⟨fun z => absurd (znw_to z) t2, fun z => absurd c.2 z.2⟩
  · rw [if_neg c]
    exact ⟨fun z => ⟨z, fun y => c ⟨z, y⟩⟩, fun z => z.1⟩
theorem zen_fil {key t : Int32} (t2 : t ≠ -2) : ∀ es : List zE, (es.map (zen key t)).filter znw = (es.filter znw).filter (fun e => decide (e.1 ≠ key)) := by
  intro es
  induction es with
  | nil => rfl
  | cons e es ih =>
    rw [List.map_cons]
    by_cases c : znw e = true
    · rw [List.filter_cons_of_pos c]
      by_cases d : e.1 = key
      · rw [List.filter_cons_of_neg (fun z => ((zen_nw t2 e).mp z).2 d), List.filter_cons_of_neg (by simp [d]), ih]
      · have : zen key t e = e := by unfold zen; rw [if_neg (fun z => d z.2)]
        rw [List.filter_cons_of_pos ((zen_nw t2 e).mpr ⟨c, d⟩), List.filter_cons_of_pos (by simp [d]), ih, this]
    · rw [List.filter_cons_of_neg c, List.filter_cons_of_neg (fun z => c ((zen_nw t2 e).mp z).1), ih]
theorem zmo_leaf {t key : Int32} {P p : Nat} {pg : Nat → zP} : zmo t P pg P (zleaf pg p key t) := zmo_up ⟨rfl, rfl, Or.inl rfl, fun i e hi => by
    refine ⟨zen key t e, by show ((pg p).2.2.2.map (zen key t))[i]? = _; rw [List.getElem?_map, hi]; rfl, (zen_k key t e).1, (zen_k key t e).2.1, (zen_k key t e).2.2, ?_⟩
    unfold zen
    by_cases c : znw e = true ∧ e.1 = key
    · rw [if_pos c]; exact Or.inr ⟨znw_to c.1, rfl⟩
    · rw [if_neg c]; exact Or.inl rfl, fun i e h1 h2 => by
    have : i < ((pg p).2.2.2.map (zen key t)).length := zlen_lt h1
    rw [List.length_map] at this
    omega⟩
theorem zGl_leaf {B P p : Nat} {t key : Int32} {pg : Nat → zP} (h : zGl B t P pg) : zGl B t P (zleaf pg p key t) := fun x hx => by
  unfold zleaf
  by_cases c : x = p
  · subst c
    rw [zup_eq]
    obtain ⟨a1, a2, a3, a4⟩ := h x hx
    refine ⟨by show ((pg x).2.2.2.map (zen key t)).length ≤ B; rw [List.length_map]; exact a1, fun e he => ?_, a3, a4⟩
    obtain ⟨y, y1, y2⟩ := List.mem_map.mp he
    have b := a2 y y1
    obtain ⟨z1, z2, z3⟩ := zen_k key t y
    rw [← y2]
    refine ⟨⟨by rw [z2]; exact b.1.1, ?_⟩, by rw [z1]; exact b.2⟩
    unfold zen
    by_cases d : znw y = true ∧ y.1 = key
    · rw [if_pos d]; exact Or.inr (Int32.le_refl t)
    · rw [if_neg d]; exact b.1.2
  · rw [zup_ne c]; exact h x hx
theorem zLv_leaf {P p : Nat} {t key : Int32} {pg : Nat → zP} (t2 : t ≠ -2) : zLv (zleaf pg p key t) p = (zLv pg p).filter (fun e => decide (e.1 ≠ key)) := by
  unfold zLv zleaf
  rw [zup_eq]
  exact zen_fil t2 _
/-- an operation on a leaf: what holds at the leaf, ready to be replaced by a row -/
theorem z_opleaf {B T P : Nat} {key : Int32} {pg : Nat → zP} {ro : List (Int32 × Int32)} (h : zIx B T P pg ro) (hP : P < 280) (hT : T + 1 < 100000) (k1 : ¬ key < 0) (k2 : key < 1000) :
    ∃ R lo hi lev ro0 f p up, ro = ro0 ++ [(f, nI R)] ∧ f ≤ nI T ∧ lev R ≤ 19 ∧ zWf (zal P pg) (zLv pg) (zKd pg) R lo hi lev ∧ zWf (zAt (nI (T + 1)) P pg) (zLt (nI (T + 1)) pg) (zKd pg) R lo hi lev ∧ zpot B P pg R lev ∧ (zpth pg key (nI (T + 1)) (lev R) R).reverse = p :: up ∧ (p :: up).length = lev R + 1 ∧ p < P ∧ (pg p).2.2.1 = -2 ∧ lev p = 0 ∧ lo p ≤ key.toInt ∧ key.toInt < hi p ∧
      ∀ r : List zE, zso2 r → zrowok r → (∀ e ∈ r, e.2.1 ≤ nI (T + 1)) → r.length ≤ B + 1 → zkn r → (∀ e ∈ r, lo p ≤ ke e ∧ ke e < hi p) → zgood B (nI (T + 1)) (p :: up) P (zleaf pg p key (nI (T + 1))) ro r ∧ zres B (nI (T + 1)) P pg ro R (zrep B (nI (T + 1)) (p :: up) P (zleaf pg p key (nI (T + 1))) ro r) := by
  obtain ⟨h1, h2, h3, h4, h5, h6, h7, ⟨R, lo, hi, lev, ro0, f, w1, w2, w3, w4⟩, h9⟩ := h
  have t2 := zt2 h3
  have G1 := zGl_up h3 h7
  have W1 := z_now G1 w1
  have k1' := Int32.le_iff_toInt_le.mp (Int32.not_lt.mp k1)
  have k2' := Int32.lt_iff_toInt_lt.mp k2
  rw [show (0 : Int32).toInt = 0 by decide] at k1'
  rw [show (1000 : Int32).toInt = 1000 by decide] at k2'
  obtain ⟨p, up, r1, r2, r3, r4, r5, r6, r7, r8⟩ := z_route (key := key) W1 G1 (lev R) R W1.1 rfl (by rw [W1.2.1]; exact k1') (by rw [W1.2.2.1]; exact k2')
  have lR := zpot_lev w2 hP
  have toA : ∀ x, zAt (nI (T + 1)) P pg x → x < P ∧ (pg x).2.2.1 = -2 := fun x hx => by
    refine ⟨hx.1, ?_⟩
    rcases hx.2.2 with z | z
    · exact z
    · rcases (h7 x hx.1).2.2.2 with u | u
      · exact u
      · exact absurd (Int32.lt_of_lt_of_le z u) (nI_nlt (by omega) (by omega))
  have pa := toA p (r3 p List.mem_cons_self).1
  have tp : ¬ nI (T + 1) < 0 := nI_pos (by omega)
  refine ⟨R, lo, hi, lev, ro0, f, p, up, w3, w4, lR, w1, W1, w2, r1, r8, pa.1, pa.2, r5, r6, r7, fun r so ok fr hr hn hs => ?_⟩
  have lt : ∀ x ∈ up, x ≠ p := fun x hx e => by
    rw [List.map_cons, List.pairwise_cons] at r4
    have := r4.1 (lev x) (List.mem_map.mpr ⟨x, hx, rfl⟩)
    rw [e] at this
    omega
  have V : zWf (zal P (zvir (zleaf pg p key (nI (T + 1))) p r)) (zLv (zvir (zleaf pg p key (nI (T + 1))) p r)) (zKd (zvir (zleaf pg p key (nI (T + 1))) p r)) R lo hi lev := by
    refine zWf_cg (zWf_leaf (l := r) w1 ⟨pa.1, pa.2⟩ r5 hn hs) (fun x => ?_) (fun x hx => ⟨?_, ?_⟩)
    · rw [zvir_al]
      unfold zal zleaf zup
      by_cases c : x = p
      · rw [if_pos c, c]
      · rw [if_neg c]
    · by_cases c : x = p
      · subst c
        rw [zup_eq, zvir_p ok]
      · rw [zup_ne c, zvir_ne c]
        unfold zLv zleaf
        rw [zup_ne c]
    · rw [zvir_k]
      unfold zKd zleaf zup
      by_cases c : x = p
      · rw [if_pos c, c]
      · rw [if_neg c]
  have hpt : zpot B P (zvir (zleaf pg p key (nI (T + 1))) p r) R lev := zpot_cg w2 w1.1.1 (fun x hx => by
    by_cases c : x = p
    · refine ⟨?_, Or.inr (by rw [c]; exact r5)⟩
      rw [c]
      unfold zvir zleaf
      rw [zup_eq, zup_eq]
    · have e1 : zvir (zleaf pg p key (nI (T + 1))) p r x = pg x := by unfold zvir zleaf; rw [zup_ne c, zup_ne c]
      unfold zLv
      rw [e1]
      exact ⟨rfl, Or.inl rfl⟩)
  have res := z_loop h1 h2 t2 tp up p P (zleaf pg p key (nI (T + 1))) ro r R lo hi lev V hpt (zGl_leaf G1) (zchn_cg (p :: up) (fun x hx => by
      have e1 : zleaf pg p key (nI (T + 1)) x = pg x := zup_ne (lt x hx)
      unfold zLv
      rw [e1]
      exact ⟨rfl, rfl⟩) r2) (fun x hx => by
      rcases List.mem_cons.mp hx with z | z
      · rw [z]
        unfold zleaf
        rw [zup_eq]
        exact pa
      · unfold zleaf
        rw [zup_ne (lt x z)]
        exact toA x (r3 x hx).1) r4 so ok fr hr (by rw [r8]; omega) h5
  refine ⟨res.1, ?_⟩
  obtain ⟨R', lo3, hi3, lev3, q1, q2, q3, q4, q5⟩ := res.2
  exact ⟨R', lo3, hi3, lev3, q1, q2, q3, zmo_trans t2 zmo_leaf q4, q5⟩
end
