section
/-! the class's own changes of pages -/
def zCw (B P : Nat) (pg : Nat → zP) (w : jw) : Prop := w.1 18 8 = nI B ∧ zC B P pg (w.2.2.2 19) (w.2.2.2 21) (w.2.2.2 23) (w.2.2.2 25) (w.2.2.2 27) (w.2.2.2 29) (w.2.2.2 31) (w.2.2.2 33)
def zfP (w w' : jw) : Prop := w'.1 = w.1 ∧ w'.2.1 = w.2.1 ∧ w'.2.2.1 = w.2.2.1 ∧ ∀ k, (k < 19 ∨ 33 < k) → w'.2.2.2 k = w.2.2.2 k
theorem zfP_rfl (w : jw) : zfP w w := ⟨rfl, rfl, rfl, fun _ _ => rfl⟩
theorem zfP_trans {a b c : jw} (h : zfP a b) (g : zfP b c) : zfP a c := ⟨g.1.trans h.1, g.2.1.trans h.2.1, g.2.2.1.trans h.2.2.1, fun k hk => (g.2.2.2 k hk).trans (h.2.2.2 k hk)⟩
theorem z_jR1 (w : jw) (a : Nat) (l : List Int32) : (jsetR w a l).2.2.2 a = l := by
  unfold jsetR
  simp only [if_true]
theorem z_jR2 {w : jw} {a b : Nat} {l : List Int32} (h : b ≠ a) : (jsetR w a l).2.2.2 b = w.2.2.2 b := by
  unfold jsetR
  simp only [h, if_false]
theorem zfP_R {w : jw} {a : Nat} {l : List Int32} (h1 : 19 ≤ a) (h2 : a ≤ 33) : zfP w (jsetR w a l) := ⟨rfl, rfl, rfl, fun k hk => z_jR2 (by omega)⟩
theorem zCw_B {B P : Nat} {pg : Nat → zP} {w : jw} (h : zCw B P pg w) {w' : jw} (h1 : w'.1 18 8 = w.1 18 8) (h2 : ∀ k, 19 ≤ k → k ≤ 33 → w'.2.2.2 k = w.2.2.2 k) : zCw B P pg w' := by
  unfold zCw
  rw [h1, h2 19 (by decide) (by decide), h2 21 (by decide) (by decide), h2 23 (by decide) (by decide), h2 25 (by decide) (by decide), h2 27 (by decide) (by decide), h2 29 (by decide) (by decide), h2 31 (by decide) (by decide), h2 33 (by decide) (by decide)]
  exact h
theorem zCw_fB {B P : Nat} {pg : Nat → zP} {w w' : jw} (h : zCw B P pg w) (f : zfB w w') : zCw B P pg w' := zCw_B h (by rw [f.2.1 18 (by decide)]) (fun k _ _ => by rw [f.1])
def zopR (R : Nat → List Int32) (d : Nat) : Nat → List Int32 := fun k => if k = 33 then R 33 ++ List.replicate d (-2) else if k = 27 ∨ k = 29 ∨ k = 31 then R k ++ List.replicate d 0 else R k
theorem z_open_l {a1 a2 : Int32} {B : Nat} (hB : B ≤ 12) : ∀ (d n j : Nat) (w : jw), j + d = B → d < n → w.1 18 8 = nI B → (w.2.2.2 27).length + d ≤ 4096 → (w.2.2.2 29).length + d ≤ 4096 → (w.2.2.2 31).length + d ≤ 4096 → (w.2.2.2 33).length + d ≤ 4096 →
    l_X6_open n a1 a2 (nI j) w = some (nI (w.2.2.2 19).length - 1, (w.1, w.2.1, w.2.2.1, zopR w.2.2.2 d)) := by
  intro d
  induction d with
  | zero =>
    intro n j w h1 h2 h3 h4 h5 h6 h7
    cases n with
    | zero => cases h2
    | succ n =>
      unfold l_X6_open
      rw [h3, if_pos (nI_le (by omega) (by omega))]
      have : zopR w.2.2.2 0 = w.2.2.2 := by
        funext k
        unfold zopR
        by_cases c : k = 33
        · rw [if_pos c]; simp [c]
        · rw [if_neg c]; simp
      rw [this]
  | succ d ih =>
    intro n j w h1 h2 h3 h4 h5 h6 h7
    cases n with
    | zero => cases h2
    | succ n =>
      unfold l_X6_open
      rw [h3, if_neg (nI_ge (by omega) (by omega))]
      simp only [z_jl, nI_1]
      rw [z_jg (decide_eq_true (by omega)), z_jg (decide_eq_true (by rw [z_jR2 (by decide)]; omega)), z_jg (decide_eq_true (by rw [z_jR2 (by decide), z_jR2 (by decide)]; omega)), z_jg (decide_eq_true (by rw [z_jR2 (by decide), z_jR2 (by decide), z_jR2 (by decide)]; omega))]
      have e19 : (jsetR (jsetR (jsetR (jsetR w 27 (w.2.2.2 27 ++ [0])) 29 ((jsetR w 27 (w.2.2.2 27 ++ [0])).2.2.2 29 ++ [0])) 31 ((jsetR (jsetR w 27 (w.2.2.2 27 ++ [0])) 29 ((jsetR w 27 (w.2.2.2 27 ++ [0])).2.2.2 29 ++ [0])).2.2.2 31 ++ [0])) 33 ((jsetR (jsetR (jsetR w 27 (w.2.2.2 27 ++ [0])) 29 ((jsetR w 27 (w.2.2.2 27 ++ [0])).2.2.2 29 ++ [0])) 31 ((jsetR (jsetR w 27 (w.2.2.2 27 ++ [0])) 29 ((jsetR w 27 (w.2.2.2 27 ++ [0])).2.2.2 29 ++ [0])).2.2.2 31 ++ [0])).2.2.2 33 ++ [-2])) = (w.1, w.2.1, w.2.2.1, zopR w.2.2.2 1) := by
        unfold jsetR zopR
        simp only []
        congr 4
        funext k
        by_cases c : k = 33
        · subst c; simp
        · by_cases c1 : k = 31
          · subst c1; simp
          · by_cases c2 : k = 29
            · subst c2; simp
            · by_cases c3 : k = 27
              · subst c3; simp
              · simp [c, c1, c2, c3]
      rw [e19]
      have L27 : (zopR w.2.2.2 1 27).length = (w.2.2.2 27).length + 1 := by simp [zopR]
      have L29 : (zopR w.2.2.2 1 29).length = (w.2.2.2 29).length + 1 := by simp [zopR]
      have L31 : (zopR w.2.2.2 1 31).length = (w.2.2.2 31).length + 1 := by simp [zopR]
      have L33 : (zopR w.2.2.2 1 33).length = (w.2.2.2 33).length + 1 := by simp [zopR]
      rw [ih n (j + 1) (w.1, w.2.1, w.2.2.1, zopR w.2.2.2 1) (by omega) (by omega) h3 (by show (zopR w.2.2.2 1 27).length + d ≤ 4096; omega) (by show (zopR w.2.2.2 1 29).length + d ≤ 4096; omega) (by show (zopR w.2.2.2 1 31).length + d ≤ 4096; omega) (by show (zopR w.2.2.2 1 33).length + d ≤ 4096; omega)]
      have z19 : zopR w.2.2.2 1 19 = w.2.2.2 19 := by simp [zopR]
      have zz : zopR (zopR w.2.2.2 1) d = zopR w.2.2.2 (d + 1) := by
        funext k
        unfold zopR
        by_cases c : k = 33
        · subst c; simp [List.replicate_succ]
        · by_cases c1 : k = 27 ∨ k = 29 ∨ k = 31
          · simp only [if_neg c, if_pos c1, List.append_assoc]
            simp [List.replicate_succ]
          · simp only [if_neg c, if_neg c1]
      simp only [z19, zz]
theorem z_open {B P : Nat} {pg : Nat → zP} {w : jw} (k t : Int32) (h : zCw B P pg w) (hB : B ≤ 12) (hP : (P + 1) * B ≤ 4096) (hP2 : P ≤ 4000) :
    ∃ w', f_X6_open k t w = some (nI P, w') ∧ zfP w w' ∧ zCw B (P + 1) (zup pg P (k, t, -2, [])) w' := by
  obtain ⟨hb, hC⟩ := h
  obtain ⟨h1, h2, h3, h4, h5, h6, h7, h8, h9⟩ := id hC
  have e : (P + 1) * B = P * B + B := Nat.succ_mul P B
  unfold f_X6_open
  simp only [z_jl]
  rw [z_jg (decide_eq_true (by omega)), z_jg (decide_eq_true (by rw [z_jR2 (by decide)]; omega)), z_jg (decide_eq_true (by rw [z_jR2 (by decide), z_jR2 (by decide)]; omega)), z_jg (decide_eq_true (by rw [z_jR2 (by decide), z_jR2 (by decide), z_jR2 (by decide)]; omega))]
  rw [z_jR2 (show 21 ≠ 19 by decide), z_jR2 (show 23 ≠ 21 by decide), z_jR2 (show 23 ≠ 19 by decide), z_jR2 (show 25 ≠ 23 by decide), z_jR2 (show 25 ≠ 21 by decide), z_jR2 (show 25 ≠ 19 by decide)]
  generalize hw : jsetR (jsetR (jsetR (jsetR w 19 (w.2.2.2 19 ++ [k])) 21 (w.2.2.2 21 ++ [0])) 23 (w.2.2.2 23 ++ [t])) 25 (w.2.2.2 25 ++ [-2]) = w1
  have o : ∀ j, j ≠ 19 → j ≠ 21 → j ≠ 23 → j ≠ 25 → w1.2.2.2 j = w.2.2.2 j := fun j j1 j2 j3 j4 => by rw [← hw, z_jR2 j4, z_jR2 j3, z_jR2 j2, z_jR2 j1]
  have w19 : w1.2.2.2 19 = w.2.2.2 19 ++ [k] := by rw [← hw, z_jR2 (by decide), z_jR2 (by decide), z_jR2 (by decide), z_jR1]
  have w21 : w1.2.2.2 21 = w.2.2.2 21 ++ [0] := by rw [← hw, z_jR2 (by decide), z_jR2 (by decide), z_jR1]
  have w23 : w1.2.2.2 23 = w.2.2.2 23 ++ [t] := by rw [← hw, z_jR2 (by decide), z_jR1]
  have w25 : w1.2.2.2 25 = w.2.2.2 25 ++ [-2] := by rw [← hw, z_jR1]
  have i1 : w1.1 = w.1 := by rw [← hw]; rfl
  have i2 : w1.2.1 = w.2.1 := by rw [← hw]; rfl
  have i3 : w1.2.2.1 = w.2.2.1 := by rw [← hw]; rfl
  have o27 := o 27 (by decide) (by decide) (by decide) (by decide)
  have o29 := o 29 (by decide) (by decide) (by decide) (by decide)
  have o31 := o 31 (by decide) (by decide) (by decide) (by decide)
  have o33 := o 33 (by decide) (by decide) (by decide) (by decide)
  have L := z_open_l (a1 := k) (a2 := t) hB B jfu 0 w1 (by omega) (by show B < 40000; omega) (by rw [i1]; exact hb) (by rw [o27]; omega) (by rw [o29]; omega) (by rw [o31]; omega) (by rw [o33]; omega)
  rw [show l_X6_open jfu k t 0 w1 = _ from L, w19, List.length_append, h1]
  refine ⟨(w1.1, w1.2.1, w1.2.2.1, zopR w1.2.2.2 B), by rw [show P + [k].length = P + 1 from rfl, nI_pred], ⟨i1, i2, i3, fun j hj => ?_⟩, by show w1.1 18 8 = _; rw [i1]; exact hb, ?_⟩
  · show zopR w1.2.2.2 B j = _
    unfold zopR
    rw [if_neg (by omega), if_neg (by omega)]
    exact o j (by omega) (by omega) (by omega) (by omega)
  · show zC B (P + 1) _ (zopR w1.2.2.2 B 19) (zopR w1.2.2.2 B 21) (zopR w1.2.2.2 B 23) (zopR w1.2.2.2 B 25) (zopR w1.2.2.2 B 27) (zopR w1.2.2.2 B 29) (zopR w1.2.2.2 B 31) (zopR w1.2.2.2 B 33)
    have q19 : zopR w1.2.2.2 B 19 = w.2.2.2 19 ++ [k] := by simp [zopR, w19]
    have q21 : zopR w1.2.2.2 B 21 = w.2.2.2 21 ++ [0] := by simp [zopR, w21]
    have q23 : zopR w1.2.2.2 B 23 = w.2.2.2 23 ++ [t] := by simp [zopR, w23]
    have q25 : zopR w1.2.2.2 B 25 = w.2.2.2 25 ++ [-2] := by simp [zopR, w25]
    have q27 : zopR w1.2.2.2 B 27 = w.2.2.2 27 ++ List.replicate B 0 := by simp [zopR, o27]
    have q29 : zopR w1.2.2.2 B 29 = w.2.2.2 29 ++ List.replicate B 0 := by simp [zopR, o29]
    have q31 : zopR w1.2.2.2 B 31 = w.2.2.2 31 ++ List.replicate B 0 := by simp [zopR, o31]
    have q33 : zopR w1.2.2.2 B 33 = w.2.2.2 33 ++ List.replicate B (-2) := by simp [zopR, o33]
    rw [q19, q21, q23, q25, q27, q29, q31, q33]
    exact zC_open hC
theorem z_slot (p B i : Nat) : nI p * nI B + nI i = nI (p * B + i) := by rw [pk_mul, nI_add]
theorem z_append {B P p : Nat} {pg : Nat → zP} {w : jw} (k v f : Int32) (h : zCw B P pg w) (hp : p < P) (hl : (pg p).2.2.2.length < B) (hB : B ≤ 12) (hP : P ≤ 4000) :
    ∃ w', f_X6_append (nI p) k v f w = some w' ∧ zfP w w' ∧ zCw B P (zup pg p ((pg p).1, (pg p).2.1, (pg p).2.2.1, (pg p).2.2.2 ++ [(k, f, -2, v)])) w' := by
  obtain ⟨hb, hC⟩ := h
  have hp9 := (hC.2.2.2.2.2.2.2.2 p hp).2.1
  have pB : p * B ≤ 4000 * 12 := Nat.mul_le_mul (by omega) hB
  unfold f_X6_append
  simp only [z_jl, z_rat (show p < 2 ^ 31 by omega), hp9, hb]
  rw [if_pos (nI_lt hl (by omega)), z_slot]
  simp only [z_rset (show p * B + (pg p).2.2.2.length < 2 ^ 31 by omega), z_rset (show p < 2 ^ 31 by omega)]
  refine ⟨_, rfl, zfP_trans (zfP_R (by decide) (by decide)) (zfP_trans (zfP_R (by decide) (by decide)) (zfP_trans (zfP_R (by decide) (by decide)) (zfP_R (by decide) (by decide)))), hb, ?_⟩
  rw [z_jR2 (show 19 ≠ 21 by decide), z_jR2 (show 19 ≠ 31 by decide), z_jR2 (show 19 ≠ 29 by decide), z_jR2 (show 19 ≠ 27 by decide), z_jR1,
    z_jR2 (show 21 ≠ 31 by decide), z_jR2 (show 21 ≠ 29 by decide), z_jR2 (show 21 ≠ 27 by decide),
    z_jR2 (show 23 ≠ 21 by decide), z_jR2 (show 23 ≠ 31 by decide), z_jR2 (show 23 ≠ 29 by decide), z_jR2 (show 23 ≠ 27 by decide),
    z_jR2 (show 25 ≠ 21 by decide), z_jR2 (show 25 ≠ 31 by decide), z_jR2 (show 25 ≠ 29 by decide), z_jR2 (show 25 ≠ 27 by decide),
    z_jR2 (show 27 ≠ 21 by decide), z_jR2 (show 27 ≠ 31 by decide), z_jR2 (show 27 ≠ 29 by decide), z_jR1,
    z_jR2 (show 29 ≠ 21 by decide), z_jR2 (show 29 ≠ 31 by decide), z_jR1, z_jR2 (show 29 ≠ 27 by decide),
    z_jR2 (show 31 ≠ 21 by decide), z_jR1, z_jR2 (show 31 ≠ 29 by decide), z_jR2 (show 31 ≠ 27 by decide),
    z_jR2 (show 33 ≠ 21 by decide), z_jR2 (show 33 ≠ 31 by decide), z_jR2 (show 33 ≠ 29 by decide), z_jR2 (show 33 ≠ 27 by decide)]
  exact zC_app hC hp hl
theorem z_setTo {B P p i : Nat} {pg : Nat → zP} {w : jw} {e : zE} (t : Int32) (h : zCw B P pg w) (hp : p < P) (he : (pg p).2.2.2[i]? = some e) (hB : B ≤ 12) (hP : P ≤ 4000) :
    zCw B P (zup pg p ((pg p).1, (pg p).2.1, (pg p).2.2.1, (pg p).2.2.2.set i (e.1, e.2.1, t, e.2.2.2))) (jsetR w 33 (rset (w.2.2.2 33) (nI (p * B + i)) t)) := by
  have pB : p * B ≤ 4000 * 12 := Nat.mul_le_mul (by omega) hB
  have hl := (h.2.2.2.2.2.2.2.2.2 p hp).2.2.2.2.1
  have := zlen_lt he
  rw [z_rset (by omega)]
  refine ⟨h.1, ?_⟩
  rw [z_jR2 (show 19 ≠ 33 by decide), z_jR2 (show 21 ≠ 33 by decide), z_jR2 (show 23 ≠ 33 by decide), z_jR2 (show 25 ≠ 33 by decide), z_jR2 (show 27 ≠ 33 by decide), z_jR2 (show 29 ≠ 33 by decide), z_jR2 (show 31 ≠ 33 by decide), z_jR1]
  exact zC_to h.2 hp he
theorem z_setFin {B P p : Nat} {pg : Nat → zP} {w : jw} (t : Int32) (h : zCw B P pg w) (hp : p < P) (hP : P ≤ 4000) :
    zCw B P (zup pg p ((pg p).1, (pg p).2.1, t, (pg p).2.2.2)) (jsetR w 25 (rset (w.2.2.2 25) (nI p) t)) := by
  rw [z_rset (by omega)]
  refine ⟨h.1, ?_⟩
  rw [z_jR2 (show 19 ≠ 25 by decide), z_jR2 (show 21 ≠ 25 by decide), z_jR2 (show 23 ≠ 25 by decide), z_jR2 (show 33 ≠ 25 by decide), z_jR2 (show 27 ≠ 25 by decide), z_jR2 (show 29 ≠ 25 by decide), z_jR2 (show 31 ≠ 25 by decide), z_jR1]
  exact zC_fin h.2 hp
theorem zCw_seg {B P p : Nat} {pg : Nat → zP} {w : jw} (h : zCw B P pg w) (hp : p < P) : zSg (w.2.2.2 27) (w.2.2.2 29) (w.2.2.2 31) (w.2.2.2 33) (p * B) (pg p).2.2.2 := (h.2.2.2.2.2.2.2.2.2 p hp).2.2.2.2.2.1
theorem zCw_len {B P p : Nat} {pg : Nat → zP} {w : jw} (h : zCw B P pg w) (hp : p < P) : (pg p).2.2.2.length ≤ B := (h.2.2.2.2.2.2.2.2.2 p hp).2.2.2.2.1
theorem z_ends {B P p : Nat} {pg : Nat → zP} {w : jw} (h : zCw B P pg w) (hp : p < P) (hP : P ≤ 4000) : f_X6_endSlot (nI p) w = some (nI (p * B + (pg p).2.2.2.length), w) := by
  unfold f_X6_endSlot
  rw [h.1, z_rat (by omega), (h.2.2.2.2.2.2.2.2.2 p hp).2.1, z_slot]
theorem z_first {B P p : Nat} {pg : Nat → zP} {w : jw} (h : zCw B P pg w) : f_X6_firstSlot (nI p) w = some (nI (p * B), w) := by
  unfold f_X6_firstSlot
  rw [h.1, pk_mul]
theorem z_weak {B P : Nat} {pg : Nat → zP} {w : jw} (h : zCw B P pg w) (hB : B ≤ 12) : f_X6_weak w = some (nI (B / 4), w) := by
  unfold f_X6_weak
  rw [h.1, show (4 : Int32) = nI 4 from rfl, pk_div (by omega) (by decide) (by decide)]
section
variable {B P p : Nat} {pg : Nat → zP} {w : jw} {t : Int32}
theorem z_pBs (hp : p < P) (hB : B ≤ 12) (hP : P ≤ 4000) : p * B ≤ 48000 := Nat.le_trans (Nat.mul_le_mul (show p ≤ 4000 by omega) hB) (by decide)
theorem z_livingIn (h : zCw B P pg w) (hp : p < P) (hB : B ≤ 12) (hP : P ≤ 4000) : f_X6_livingIn (nI p) t w = some (nI ((pg p).2.2.2.countP (zlv t)), w) := by
  have := z_pBs hp hB hP
  have := zCw_len h hp
  unfold f_X6_livingIn
  rw [z_ends h hp hP, z_jbd2, z_first h, z_jbd2]
  have L := z_livingIn_l (a1 := nI p) (t := t) (pg p).2.2.2 jfu (p * B) 0 (zCw_seg h hp) (by omega) (by show _ < 40000; omega)
  rw [show nI 0 = 0 from rfl, Nat.zero_add] at L
  exact L
theorem z_toward (key : Int32) (h : zCw B P pg w) (hp : p < P) (hB : B ≤ 12) (hP : P ≤ 4000) : f_X6_slotToward (nI p) key t w = some (zsl (p * B) (zbs (ztw key t) zgt (pg p).2.2.2 0 none), w) := by
  have := z_pBs hp hB hP
  have := zCw_len h hp
  unfold f_X6_slotToward
  rw [z_ends h hp hP, z_jbd2, z_first h, z_jbd2]
  exact z_toward_l (a1 := nI p) (key := key) (t := t) (s0 := p * B) (pg p).2.2.2 jfu 0 none (zCw_seg h hp) (by omega) (by show _ < 40000; omega) (fun q hq => by cases hq)
theorem z_after (key : Int32) (h : zCw B P pg w) (hp : p < P) (hB : B ≤ 12) (hP : P ≤ 4000) : f_X6_slotAfter (nI p) key t w = some (zsl (p * B) (zbs (zaf key t) zlt (pg p).2.2.2 0 none), w) := by
  have := z_pBs hp hB hP
  have := zCw_len h hp
  unfold f_X6_slotAfter
  rw [z_ends h hp hP, z_jbd2, z_first h, z_jbd2]
  exact z_after_l (a1 := nI p) (key := key) (t := t) (s0 := p * B) (pg p).2.2.2 jfu 0 none (zCw_seg h hp) (by omega) (by show _ < 40000; omega) (fun q hq => by cases hq)
theorem z_gather {r : List zE} (h : zCw B P pg w) (hp : p < P) (hB : B ≤ 12) (hP : P ≤ 4000) (hb : zB w r) (hr : r.length + (pg p).2.2.2.length ≤ 32) : ∃ w', f_X1_gather (nI p) t w = some w' ∧ zfB w w' ∧ zB w' (zgat (zlv t) (pg p).2.2.2 r) := by
  have := z_pBs hp hB hP
  have := zCw_len h hp
  unfold f_X1_gather
  rw [z_ends h hp hP, z_jbd2, z_first h, z_jbd2]
  exact z_gather_l (pg p).2.2.2 r jfu (p * B) w (zCw_seg h hp) (by omega) (by show _ < 40000; omega) hb hr
end
end
