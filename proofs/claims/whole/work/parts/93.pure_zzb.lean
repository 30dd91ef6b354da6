section
/-! reads, thin, held -/
theorem z_come {S : zS} (hI : zIn S) {τ : Nat} (hτ : τ ≤ S.2.2.2.2.length - 1) {a b : Int32} (h1 : a < 1000) (h2 : ¬ b < 0) : ∃ L : List Nat, L.length ≤ 320 ∧ (∀ y ∈ L, y < S.2.1 ∧ ((S.2.2.1 y).1 = nI 0 ∨ (S.2.2.1 y).1 = nI 1)) ∧ (∀ w, zCi S w → f_X5_comeTo a b (nI τ) w = some (jsetR w 66 (L.map nI))) ∧
    ∀ (b2 : Int32) (w : jw), (b2 = 0 ∨ (b2 ≠ 0 ∧ a = 0 ∧ b = 999)) → zMi S (w.2.1 182) → ∃ w', f_X12_goesThrough (nI τ) b2 a b w = some w' ∧ zfGt w w' ∧ zLi L w' := by
  obtain ⟨i1, i2, i3, i4, i5, ⟨q0, i6, i6'⟩, i7, i8, i9⟩ := hI.1
  obtain ⟨R, lo, hi, lev, g1, g2, g3⟩ := i9 τ hτ
  have rn : S.2.2.2.1 ≠ [] := fun z => by rw [z] at i6; cases i6
  have hG : ∀ x, x < S.2.1 → ∀ e ∈ (S.2.2.1 x).2.2.2, ¬ e.1 < 0 := fun x hx e he => ((i7 x hx).2.1 e he).2
  have b0 : zBi (nI τ) S.2.1 S.2.2.1 R lev 0 [R] := ⟨by simp, by simp, fun y hy => by rw [List.mem_singleton] at hy; rw [hy]; exact g1.1, fun y hy => Or.inl (List.mem_singleton.mp hy)⟩
  have all := zBf_all (a := a) (b := b) g1 400 0 [R] b0
  refine ⟨zbf (zkid a b (nI τ) S.2.2.1) 400 0 [R], by omega, fun y hy => ?_, fun w hC => ?_, fun b2 w hb hM => ?_⟩
  · have ay := all.2 y hy
    refine ⟨ay.1, ?_⟩
    have : (S.2.2.1 y).1 = _ := (g1.2.2.2.2.2 y ay).2.2.2.1
    rw [this]
    by_cases c : lev y = 0
    · rw [if_pos c]; exact Or.inr rfl
    · rw [if_neg c]; exact Or.inl rfl
  · unfold f_X5_comeTo
    have c0 : rcut (w.2.2.2 66) 0 = [] := by unfold rcut; simp
    rw [z_jl, c0, z_rootAtC (w := jsetR w 66 []) hC.2.1 rn (by omega), z_jbd2, z_jR1, z_jg (by rfl), z_jl, z_jRR, List.nil_append, g3]
    have Q := z_ctC_l (a := a) (b := b) g1 i2 i4 hG 400 jfu 0 [R] (jsetR w 66 [nI R]) (z_66 hC.1) (z_jR1 _ _ _) b0 (by omega) (by decide)
    rw [z_jRR] at Q
    exact Q
  · unfold f_X12_goesThrough
    rw [z_rootAtM hM.2.1 rn (by omega) (fun q hq => by rw [i6] at hq; cases hq; rw [i6']; exact nI_pos' (by omega)), z_jbd2, z_jg (by decide), z_jl, z_jl, g3]
    have L0 : zLi [R] (jsetI (jsetX w 190 (Int32.toNatClampNeg 0) (nI R)) 162 45 1) := by
      refine ⟨by rw [z_jI1, zup_eq]; rfl, fun i y hy => ?_⟩
      have : i = 0 := by
        have := (List.getElem?_eq_some_iff.mp hy).1
        simp at this
        omega
      subst this
      cases hy
      show (jsetX w 190 0 (nI R)).2.1 190 0 = nI R
      rw [z_jX1, zup_eq]
    have m2 : zM S.1 S.2.1 S.2.2.1 ((jsetI (jsetX w 190 (Int32.toNatClampNeg 0) (nI R)) 162 45 1).2.1 182) := by
      rw [show (jsetI (jsetX w 190 (Int32.toNatClampNeg 0) (nI R)) 162 45 1).2.1 182 = w.2.1 182 from z_jX2 (by decide)]
      exact hM.1
    obtain ⟨w', r1, r2, r3⟩ := z_gt_l (a := a) (b := b) (b2 := b2) g1 hG h1 h2 hb 400 jfu 0 [R] _ m2 L0 b0 (by omega) (by decide)
    exact ⟨w', r1, zfGt_trans (zfGt_st w _ _ _) r2, r3⟩
theorem q_reads {S : zS} (hI : zIn S) (a b d : Int32) : zQ S (f_X11_reads a b d) (f_X12_reads a b d) := by
  have l0 := zHi_len hI.2
  have lm := hI.2.2.1
  cases h1 : (zik a && zik b) with
  | false => exact zQ_c (-1) (fun w hC => by unfold f_X11_reads; rw [z_isRangeC, z_jbd2, h1]; rfl) (fun w hM => by unfold f_X12_reads; rw [z_isRangeM, z_jbd2, h1]; rfl)
  | true =>
    cases c : zit (S.2.2.2.2.length - 1) d with
    | false => exact zQ_c (-1) (fun w hC => by unfold f_X11_reads; rw [z_isRangeC, z_jbd2, h1, if_neg (by decide), z_isTimeC d hC hI, z_jbd2, c]; rfl) (fun w hM => by unfold f_X12_reads; rw [z_isRangeM, z_jbd2, h1, if_neg (by decide), z_isTimeM d hM, z_jbd2, c]; rfl)
    | true =>
      obtain ⟨τ, t1, t2⟩ := zit_t (by omega) c
      rw [Bool.and_eq_true] at h1
      obtain ⟨k, k1, k2⟩ := zik_t h1.1
      obtain ⟨k', k1', k2'⟩ := zik_t h1.2
      subst t2 k2 k2'
      obtain ⟨L, L1, L2, L3, L4⟩ := z_come hI t1 (z_key k k1).2 (z_key k' k1').1
      intro w wm hC hM
      obtain ⟨w', e1, e2, e3⟩ := L4 0 wm (Or.inl rfl) hM
      refine ⟨nI L.length, jsetR w 66 (L.map nI), w', ?_, zfQc_R (Or.inr (Or.inr (Or.inr rfl))), ?_, zfQm_Gt e2⟩
      · unfold f_X11_reads f_X5_pagesFor
        rw [z_isRangeC, z_jbd2, h1.1, h1.2, if_neg (by decide), z_isTimeC _ hC hI, z_jbd2, c, if_neg (by decide), L3 w hC, z_jbd, z_jR1, List.length_map, z_jbd2]
      · unfold f_X12_reads
        rw [z_isRangeM, z_jbd2, h1.1, h1.2, if_neg (by decide), z_isTimeM _ hM, z_jbd2, c, if_neg (by decide), e1, z_jbd, e3.1]
def zwk (S : zS) (t : Int32) (y : Nat) : Bool := decide ((S.2.2.1 y).2.2.2.countP (zlv t) < S.1 / 4)
theorem z_thinC_l {S : zS} {t : Int32} {L : List Nat} {w : jw} (hC : zCi S w) (hB : S.1 ≤ 12) (hP : S.2.1 ≤ 4000) (h0 : w.2.2.2 66 = L.map nI) (h1 : ∀ y ∈ L, y < S.2.1) : ∀ (rest : List Nat) (n k c : Nat), L.drop k = rest → k + rest.length ≤ 1000 → rest.length < n → l_X5_weakPages n t (nI c) (nI k) w = some (nI (c + rest.countP (zwk S t)), w) := by
  have hl : (w.2.2.2 66).length = L.length := by rw [h0, List.length_map]
  intro rest
  induction rest with
  | nil =>
    intro n k c g1 g2 g3
    have hi : L.length ≤ k := by simpa using g1
    simp only [List.length_nil] at g2
    cases n with
    | zero => cases g3
    | succ n =>
      unfold l_X5_weakPages
      rw [hl, if_pos (nI_le (by omega) (by omega))]
      rfl
  | cons y rest ih =>
    intro n k c g1 g2 g3
    simp only [List.length_cons] at g2 g3
    have ge : L[k]? = some y := by
      have : (L.drop k)[0]? = some y := by rw [g1]; rfl
      rwa [List.getElem?_drop, Nat.add_zero] at this
    have kl : k < L.length := (List.getElem?_eq_some_iff.mp ge).1
    have yP := h1 y (List.mem_of_getElem? ge)
    have lL : L.length ≤ 1000 := by
      have : (L.drop k).length = rest.length + 1 := by rw [g1]; rfl
      rw [List.length_drop] at this
      omega
    have g4 : L.drop (k + 1) = rest := by
      rw [← List.drop_drop, g1]
      rfl
    cases n with
    | zero => cases g3
    | succ n =>
      have ry : rat (w.2.2.2 66) (nI k) = nI y := by
        rw [z_rat (by omega), h0, List.getD_eq_getElem?_getD, List.getElem?_map, ge]
        rfl
      unfold l_X5_weakPages
      rw [hl, if_neg (nI_ge (by omega) (by omega)), ry, z_livingIn hC.1 yP hB hP, z_jbd2, z_weak hC.1 hB, z_jbd2]
      have cl : (S.2.2.1 y).2.2.2.countP (zlv t) ≤ 12 := Nat.le_trans List.countP_le_length (Nat.le_trans (hC.1.2.2.2.2.2.2.2.2.2 y yP).2.2.2.2.1 hB)
      by_cases d : (S.2.2.1 y).2.2.2.countP (zlv t) < S.1 / 4
      · rw [if_neg (nI_ge d (by omega)), z_jl, z_jl, nI_1, nI_1, ih n (k + 1) (c + 1) g4 (by omega) (by omega), List.countP_cons_of_pos (show zwk S t y = true from decide_eq_true d), show c + 1 + rest.countP (zwk S t) = c + (rest.countP (zwk S t) + 1) by omega]
      · rw [if_pos (nI_le (by omega) (by omega)), z_jl, nI_1, ih n (k + 1) c g4 (by omega) (by omega), List.countP_cons_of_neg (show ¬ zwk S t y = true by unfold zwk; rw [decide_eq_false d]; decide)]
theorem z_thinM_l {S : zS} {t : Int32} {L : List Nat} {w : jw} (hM : zMi S (w.2.1 182)) (hB : S.1 ≤ 12) (h0 : zLi L w) (h1 : ∀ y ∈ L, y < S.2.1) (h2 : L.length ≤ 320) : ∀ (rest : List Nat) (n k c : Nat), L.drop k = rest → k + rest.length ≤ 1000 → rest.length < n → l_X12_thin n t (nI c) (nI k) w = some (nI (c + rest.countP (zwk S t)), w) := by
  intro rest
  induction rest with
  | nil =>
    intro n k c g1 g2 g3
    have hi : L.length ≤ k := by simpa using g1
    simp only [List.length_nil] at g2
    cases n with
    | zero => cases g3
    | succ n =>
      unfold l_X12_thin
      rw [h0.1, if_pos (nI_le (by omega) (by omega))]
      rfl
  | cons y rest ih =>
    intro n k c g1 g2 g3
    simp only [List.length_cons] at g2 g3
    have ge : L[k]? = some y := by
      have : (L.drop k)[0]? = some y := by rw [g1]; rfl
      rwa [List.getElem?_drop, Nat.add_zero] at this
    have kl : k < L.length := (List.getElem?_eq_some_iff.mp ge).1
    have yP := h1 y (List.mem_of_getElem? ge)
    have g4 : L.drop (k + 1) = rest := by
      rw [← List.drop_drop, g1]
      rfl
    cases n with
    | zero => cases g3
    | succ n =>
      unfold l_X12_thin
      rw [h0.1, if_neg (nI_ge (by omega) (by omega)), z_jg (z_in (by omega) (by decide)), nI_clamp (by omega), h0.2 k y ge, z_livingThen hM.1 yP, z_jbd2, z_weakM hM.1 hB, z_jbd2]
      have cl : (S.2.2.1 y).2.2.2.countP (zlv t) ≤ 12 := Nat.le_trans List.countP_le_length (hM.1.2.2.2 y yP).2.2.2.2.1
      by_cases d : (S.2.2.1 y).2.2.2.countP (zlv t) < S.1 / 4
      · rw [if_neg (nI_ge d (by omega)), z_jl, z_jl, nI_1, nI_1, ih n (k + 1) (c + 1) g4 (by omega) (by omega), List.countP_cons_of_pos (show zwk S t y = true from decide_eq_true d), show c + 1 + rest.countP (zwk S t) = c + (rest.countP (zwk S t) + 1) by omega]
      · rw [if_pos (nI_le (by omega) (by omega)), z_jl, nI_1, ih n (k + 1) c g4 (by omega) (by omega), List.countP_cons_of_neg (show ¬ zwk S t y = true by unfold zwk; rw [decide_eq_false d]; decide)]
theorem q_thin {S : zS} (hI : zIn S) (d : Int32) : zQ S (f_X11_thin d) (f_X12_thin d) := by
  have l0 := zHi_len hI.2
  have lm := hI.2.2.1
  have hB := hI.1.2.1
  have hP := hI.1.2.2.2.1
  cases c : zit (S.2.2.2.2.length - 1) d with
  | false => exact zQ_c (-1) (fun w hC => by unfold f_X11_thin; rw [z_isTimeC d hC hI, z_jbd2, c]; rfl) (fun w hM => by unfold f_X12_thin; rw [z_isTimeM d hM, z_jbd2, c]; rfl)
  | true =>
    obtain ⟨τ, t1, t2⟩ := zit_t (by omega) c
    subst t2
    obtain ⟨L, L1, L2, L3, L4⟩ := z_come hI t1 (a := 0) (b := 999) (by decide) (by decide)
    intro w wm hC hM
    obtain ⟨w', e1, e2, e3⟩ := L4 1 wm (Or.inr ⟨by decide, rfl, rfl⟩) hM
    have hM' : zMi S (w'.2.1 182) := by rw [e2.2.2.2 182 (by decide)]; exact hM
    have hC' : zCi S (jsetR w 66 (L.map nI)) := hC
    have ld : (L.drop 1).length ≤ 320 := by rw [List.length_drop]; omega
    refine ⟨nI (0 + (L.drop 1).countP (zwk S (nI τ))), jsetR w 66 (L.map nI), w', ?_, zfQc_R (Or.inr (Or.inr (Or.inr rfl))), ?_, zfQm_Gt e2⟩
    · unfold f_X11_thin f_X5_weakPages
      have Q := z_thinC_l (t := nI τ) hC' hB (by omega) (z_jR1 _ _ _) (fun y hy => (L2 y hy).1) (L.drop 1) jfu 1 0 rfl (by omega) (show _ < 40000 by omega)
      rw [z_isTimeC _ hC hI, z_jbd2, c, if_neg (by decide), L3 w hC, z_jbd]
      rw [show l_X5_weakPages jfu (nI τ) 0 1 (jsetR w 66 (L.map nI)) = _ from Q, z_jbd2]
    · unfold f_X12_thin
      have Q := z_thinM_l (t := nI τ) hM' hB e3 (fun y hy => (L2 y hy).1) L1 (L.drop 1) jfu 1 0 rfl (by omega) (show _ < 40000 by omega)
      rw [z_isTimeM _ hM, z_jbd2, c, if_neg (by decide), e1, z_jbd]
      exact Q
def zsN (f : Nat → Nat) : List Nat → Nat
  | [] => 0
  | y :: r => f y + zsN f r
def zkd1 (S : zS) (y : Nat) : Nat := if (S.2.2.1 y).1 = 1 then 1 else 0
def zlv1 (S : zS) (t : Int32) (y : Nat) : Nat := (S.2.2.1 y).2.2.2.countP (zlv t)
def zsz1 (S : zS) (y : Nat) : Nat := (S.2.2.1 y).2.2.2.length
theorem zsN_B (S : zS) : ∀ L : List Nat, (∀ y ∈ L, zsz1 S y ≤ S.1) → zsN (fun y => S.1 - zsz1 S y) L + zsN (zsz1 S) L = S.1 * L.length := by
  intro L
  induction L with
  | nil => intro _; rfl
  | cons y L ih =>
    intro h
    have h1 := ih (fun x hx => h x (List.mem_cons_of_mem _ hx))
    have h2 := h y List.mem_cons_self
    unfold zsN
    rw [List.length_cons, Nat.mul_add, Nat.mul_one, ← h1]
    omega
def zha (b2 : Int32) (n x y z : Nat) : Int32 := if b2.toInt = 0 then nI x else if b2.toInt = 1 then nI n - nI x else if b2.toInt = 2 then nI y else if b2.toInt = 3 then nI z else -1
theorem z_heldC_l {S : zS} {t b2 : Int32} {L : List Nat} {w : jw} (hC : zCi S w) (hB : S.1 ≤ 12) (hP : S.2.1 ≤ 4000) (h0 : w.2.2.2 66 = L.map nI) (h1 : ∀ y ∈ L, y < S.2.1 ∧ ((S.2.2.1 y).1 = nI 0 ∨ (S.2.2.1 y).1 = nI 1)) : ∀ (rest : List Nat) (n k x y z : Nat), L.drop k = rest → k + rest.length ≤ 1000 → rest.length < n → l_X5_heldAt n t b2 (nI x) (nI y) (nI z) (nI k) w = some (zha b2 L.length (x + zsN (zkd1 S) rest) (y + zsN (zlv1 S t) rest) (z + zsN (fun y => S.1 - zsz1 S y) rest), w) := by
  have hl : (w.2.2.2 66).length = L.length := by rw [h0, List.length_map]
  intro rest
  induction rest with
  | nil =>
    intro n k x y z g1 g2 g3
    have hi : L.length ≤ k := by simpa using g1
    simp only [List.length_nil] at g2
    cases n with
    | zero => cases g3
    | succ n =>
      unfold l_X5_heldAt zha zsN
      rw [hl, if_pos (nI_le (by omega) (by omega)), Nat.add_zero, Nat.add_zero, Nat.add_zero]
      split
      · rfl
      · split
        · rfl
        · split
          · rfl
          · split <;> rfl
  | cons v rest ih =>
    intro n k x y z g1 g2 g3
    simp only [List.length_cons] at g2 g3
    have ge : L[k]? = some v := by
      have : (L.drop k)[0]? = some v := by rw [g1]; rfl
      rwa [List.getElem?_drop, Nat.add_zero] at this
    have kl : k < L.length := (List.getElem?_eq_some_iff.mp ge).1
    obtain ⟨vP, vk⟩ := h1 v (List.mem_of_getElem? ge)
    have lL : L.length ≤ 1000 := by
      have : (L.drop k).length = rest.length + 1 := by rw [g1]; rfl
      rw [List.length_drop] at this
      omega
    have g4 : L.drop (k + 1) = rest := by
      rw [← List.drop_drop, g1]
      rfl
    cases n with
    | zero => cases g3
    | succ n =>
      have ry : rat (w.2.2.2 66) (nI k) = nI v := by
        rw [z_rat (by omega), h0, List.getD_eq_getElem?_getD, List.getElem?_map, ge]
        rfl
      obtain ⟨p1, p2, _, _, p5, _⟩ := hC.1.2.2.2.2.2.2.2.2.2 v vP
      have kk : (S.2.2.1 v).1 = nI (zkd1 S v) := by
        unfold zkd1
        rcases vk with q | q
        · rw [q, if_neg (by decide)]
        · rw [q, if_pos (by decide)]
      unfold l_X5_heldAt
      rw [hl, if_neg (nI_ge (by omega) (by omega)), ry, z_jl, z_jl, z_livingIn hC.1 vP hB hP, z_jbd2, z_jl, z_jl, z_jl, nI_1, z_rat (by omega), p1, kk, nI_add, nI_add, hC.1.1, z_rat (by omega), p2, pk_sub p5, nI_add]
      rw [ih n (k + 1) _ _ _ g4 (by omega) (by omega)]
      rw [show zsN (zkd1 S) (v :: rest) = zkd1 S v + zsN (zkd1 S) rest from rfl, show zsN (zlv1 S t) (v :: rest) = zlv1 S t v + zsN (zlv1 S t) rest from rfl, show zsN (fun y => S.1 - zsz1 S y) (v :: rest) = (S.1 - zsz1 S v) + zsN (fun y => S.1 - zsz1 S y) rest from rfl, ← Nat.add_assoc, ← Nat.add_assoc, ← Nat.add_assoc]
      rfl
theorem z_heldM_l {S : zS} {t b2 : Int32} {L : List Nat} {w : jw} (hM : zMi S (w.2.1 182)) (hB : S.1 ≤ 12) (h0 : zLi L w) (h1 : ∀ y ∈ L, y < S.2.1 ∧ ((S.2.2.1 y).1 = nI 0 ∨ (S.2.2.1 y).1 = nI 1)) (h2 : L.length ≤ 320) : ∀ (rest : List Nat) (n k x y z : Nat), L.drop k = rest → k + rest.length ≤ 1000 → rest.length < n → l_X12_held n t b2 (nI x) (nI y) (nI z) (nI k) w = some (if b2.toInt = 0 then nI (x + zsN (zkd1 S) rest) else if b2.toInt = 1 then nI L.length - nI (x + zsN (zkd1 S) rest) else if b2.toInt = 2 then nI (y + zsN (zlv1 S t) rest) else nI S.1 * nI L.length - nI (z + zsN (zsz1 S) rest), w) := by
  intro rest
  induction rest with
  | nil =>
    intro n k x y z g1 g2 g3
    have hi : L.length ≤ k := by simpa using g1
    simp only [List.length_nil] at g2
    cases n with
    | zero => cases g3
    | succ n =>
      unfold l_X12_held zsN
      rw [h0.1, if_pos (nI_le (by omega) (by omega)), Nat.add_zero, Nat.add_zero, Nat.add_zero, z_jg (show jin 1 34700 = true by decide), show w.2.1 182 (Int32.toNatClampNeg 1) = nI S.1 from hM.1.1]
      split
      · rfl
      · split
        · rfl
        · split <;> rfl
  | cons v rest ih =>
    intro n k x y z g1 g2 g3
    simp only [List.length_cons] at g2 g3
    have ge : L[k]? = some v := by
      have : (L.drop k)[0]? = some v := by rw [g1]; rfl
      rwa [List.getElem?_drop, Nat.add_zero] at this
    have kl : k < L.length := (List.getElem?_eq_some_iff.mp ge).1
    obtain ⟨vP, vk⟩ := h1 v (List.mem_of_getElem? ge)
    have g4 : L.drop (k + 1) = rest := by
      rw [← List.drop_drop, g1]
      rfl
    cases n with
    | zero => cases g3
    | succ n =>
      obtain ⟨m1, m2, m3, m4⟩ := hM.1
      obtain ⟨q1, q2, q3, q4, q5, q6⟩ := m4 v vP
      have gj : jin (nI k) 330 = true := z_in (by omega) (by decide)
      unfold l_X12_held
      rw [h0.1, if_neg (nI_ge (by omega) (by omega)), z_jg gj, nI_clamp (by omega), h0.2 k v ge, z_isLeafM w (by omega), z_jbd2, q1]
      by_cases d : (S.2.2.1 v).1 = 1
      · have kk : zkd1 S v = 1 := by unfold zkd1; rw [if_pos d]
        rw [decide_eq_true d, if_neg (show ¬ jb true = 0 by decide), z_jl, z_jg gj, h0.2 k v ge, z_livingThen hM.1 vP, z_jbd2, z_jl, z_jg gj, h0.2 k v ge, z_entriesOf w (by omega), z_jbd2, q2, z_jl, z_jl, nI_1, nI_1, nI_add, nI_add]
        rw [ih n (k + 1) _ _ _ g4 (by omega) (by omega)]
        rw [show zsN (zkd1 S) (v :: rest) = 1 + zsN (zkd1 S) rest from by rw [show zsN (zkd1 S) (v :: rest) = zkd1 S v + zsN (zkd1 S) rest from rfl, kk]]
        rw [show zsN (zlv1 S t) (v :: rest) = zlv1 S t v + zsN (zlv1 S t) rest from rfl, show zsN (zsz1 S) (v :: rest) = zsz1 S v + zsN (zsz1 S) rest from rfl, ← Nat.add_assoc, ← Nat.add_assoc, ← Nat.add_assoc]
        rfl
      · have kk : zkd1 S v = 0 := by unfold zkd1; rw [if_neg d]
        rw [decide_eq_false d, if_pos (show jb false = 0 from rfl), z_jg gj, h0.2 k v ge, z_livingThen hM.1 vP, z_jbd2, z_jl, z_jg gj, h0.2 k v ge, z_entriesOf w (by omega), z_jbd2, q2, z_jl, z_jl, nI_1, nI_add, nI_add]
        rw [ih n (k + 1) _ _ _ g4 (by omega) (by omega)]
        rw [show zsN (zkd1 S) (v :: rest) = zsN (zkd1 S) rest from by rw [show zsN (zkd1 S) (v :: rest) = zkd1 S v + zsN (zkd1 S) rest from rfl, kk, Nat.zero_add]]
        rw [show zsN (zlv1 S t) (v :: rest) = zlv1 S t v + zsN (zlv1 S t) rest from rfl, show zsN (zsz1 S) (v :: rest) = zsz1 S v + zsN (zsz1 S) rest from rfl, ← Nat.add_assoc, ← Nat.add_assoc]
        rfl
theorem z_in03 (a : Int32) (w : jw) : f_X12_in a 0 3 w = some (decide (0 ≤ a.toInt ∧ a.toInt ≤ 3), w) := by
  unfold f_X12_in
  have e0 : (0 : Int32).toInt = 0 := rfl
  have e3 : (3 : Int32).toInt = 3 := rfl
  by_cases c : a < 0
  · rw [if_pos c]
    rw [Int32.lt_iff_toInt_lt] at c
    rw [decide_eq_false (by omega)]
  · rw [if_neg c]
    rw [Int32.lt_iff_toInt_lt] at c
    by_cases d : (3 : Int32) < a
    · rw [if_pos d]
      rw [Int32.lt_iff_toInt_lt] at d
      rw [decide_eq_false (by omega)]
    · rw [if_neg d]
      rw [Int32.lt_iff_toInt_lt] at d
      rw [decide_eq_true (by omega)]
theorem q_held {S : zS} (hI : zIn S) (d b2 : Int32) : zQ S (f_X11_held d b2) (f_X12_held d b2) := by
  have l0 := zHi_len hI.2
  have lm := hI.2.2.1
  have hB := hI.1.2.1
  have hP := hI.1.2.2.2.1
  cases c : zit (S.2.2.2.2.length - 1) d with
  | false => exact zQ_c (-1) (fun w hC => by unfold f_X11_held; rw [z_isTimeC d hC hI, z_jbd2, c]; rfl) (fun w hM => by unfold f_X12_held; rw [z_isTimeM d hM, z_jbd2, c]; rfl)
  | true =>
    obtain ⟨τ, t1, t2⟩ := zit_t (by omega) c
    subst t2
    obtain ⟨L, L1, L2, L3, L4⟩ := z_come hI t1 (a := 0) (b := 999) (by decide) (by decide)
    intro w wm hC hM
    have hC' : zCi S (jsetR w 66 (L.map nI)) := hC
    have cl : f_X11_held (nI τ) b2 w = some (zha b2 L.length (0 + zsN (zkd1 S) L) (0 + zsN (zlv1 S (nI τ)) L) (0 + zsN (fun y => S.1 - zsz1 S y) L), jsetR w 66 (L.map nI)) := by
      unfold f_X11_held f_X5_heldAt
      have Q := z_heldC_l (t := nI τ) (b2 := b2) hC' hB (by omega) (z_jR1 _ _ _) L2 L jfu 0 0 0 0 rfl (by omega) (show _ < 40000 by omega)
      rw [z_isTimeC _ hC hI, z_jbd2, c, if_neg (by decide), L3 w hC, z_jbd]
      rw [show l_X5_heldAt jfu (nI τ) b2 0 0 0 0 (jsetR w 66 (L.map nI)) = _ from Q, z_jbd2]
    by_cases k : 0 ≤ b2.toInt ∧ b2.toInt ≤ 3
    · obtain ⟨w', e1, e2, e3⟩ := L4 1 wm (Or.inr ⟨by decide, rfl, rfl⟩) hM
      have hM' : zMi S (w'.2.1 182) := by rw [e2.2.2.2 182 (by decide)]; exact hM
      refine ⟨_, _, w', cl, zfQc_R (Or.inr (Or.inr (Or.inr rfl))), ?_, zfQm_Gt e2⟩
      unfold f_X12_held
      have Q := z_heldM_l (t := nI τ) (b2 := b2) hM' hB e3 L2 L1 L jfu 0 0 0 0 rfl (by omega) (show _ < 40000 by omega)
      rw [z_isTimeM _ hM, z_jbd2, c, if_neg (by decide), z_in03, z_jbd2, decide_eq_true k, if_neg (by decide), e1, z_jbd]
      rw [show l_X12_held jfu (nI τ) b2 0 0 0 0 w' = _ from Q]
      unfold zha
      by_cases k0 : b2.toInt = 0
      · rw [if_pos k0, if_pos k0]
      · rw [if_neg k0, if_neg k0]
        by_cases k1 : b2.toInt = 1
        · rw [if_pos k1, if_pos k1]
        · rw [if_neg k1, if_neg k1]
          by_cases k2 : b2.toInt = 2
          · rw [if_pos k2, if_pos k2]
          · rw [if_neg k2, if_neg k2, if_pos (show b2.toInt = 3 by omega)]
            have s := zsN_B S L (fun y hy => (hI.1.2.2.2.2.2.2.1 y (L2 y hy).1).1)
            rw [pk_mul, Nat.zero_add, Nat.zero_add, pk_sub (by omega), ← s, Nat.add_sub_cancel]
    · refine ⟨_, _, wm, cl, zfQc_R (Or.inr (Or.inr (Or.inr rfl))), ?_, zfQm_rfl wm⟩
      unfold f_X12_held zha
      rw [z_isTimeM _ hM, z_jbd2, c, if_neg (by decide), z_in03, z_jbd2, decide_eq_false k, if_pos (show jb false = 0 from rfl), if_neg (by omega), if_neg (by omega), if_neg (by omega), if_neg (by omega)]
end
