section
/-! count -/
theorem z_slot0 (w : jw) : f_X11_isSlot 0 w = some (true, w) := by
  unfold f_X11_isSlot
  rw [if_neg (by decide), if_neg (by decide), if_pos (by decide)]
theorem z_slot1 (w : jw) : f_X11_isSlot 1 w = some (true, w) := by
  unfold f_X11_isSlot
  rw [if_neg (by decide), if_neg (by decide), if_neg (by decide), if_pos (by decide)]
theorem z_slot2 (w : jw) : f_X11_isSlot 2 w = some (true, w) := by
  unfold f_X11_isSlot
  rw [if_neg (by decide), if_neg (by decide), if_neg (by decide), if_neg (by decide), if_pos (by decide)]
theorem z_fs3 (n : Nat) (c : Int32) (w : jw) : l_X11_filledSlots (n + 1) c 3 w = some (c, w) := by
  unfold l_X11_filledSlots
  rw [if_pos (by decide)]
theorem z_fs2 (n : Nat) (c : Int32) (w : jw) : l_X11_filledSlots (n + 2) c 2 w = some (if w.1 131 4 = 0 then c + 0 else c + 1, w) := by
  unfold l_X11_filledSlots
  rw [if_neg (by decide), z_slot2, z_jbd2, if_neg (by decide), if_neg (by decide), if_neg (by decide), if_pos (by decide)]
  simp only [z_jl]
  rw [show (2 : Int32) + 1 = 3 by decide, z_fs3, z_fs3, Int32.add_zero]
  split <;> rfl
theorem z_fs1 (n : Nat) (c : Int32) (w : jw) : l_X11_filledSlots (n + 3) c 1 w = some (if w.1 100 4 = 0 then (if w.1 131 4 = 0 then c + 0 + 0 else c + 0 + 1) else (if w.1 131 4 = 0 then c + 1 + 0 else c + 1 + 1), w) := by
  unfold l_X11_filledSlots
  rw [if_neg (by decide), z_slot1, z_jbd2, if_neg (by decide), if_neg (by decide), if_pos (by decide)]
  simp only [z_jl]
  rw [show (1 : Int32) + 1 = 2 by decide, z_fs2, z_fs2]
  simp only [Int32.add_zero]
  split <;> rfl
theorem z_fs0 (n : Nat) (w : jw) : l_X11_filledSlots (n + 4) 0 0 w = some (if w.1 69 4 = 0 then (if w.1 100 4 = 0 then (if w.1 131 4 = 0 then 0 + 0 + 0 else 0 + 0 + 1) else (if w.1 131 4 = 0 then 0 + 1 + 0 else 0 + 1 + 1)) else (if w.1 100 4 = 0 then (if w.1 131 4 = 0 then 1 + 0 + 0 else 1 + 0 + 1) else (if w.1 131 4 = 0 then 1 + 1 + 0 else 1 + 1 + 1)), w) := by
  unfold l_X11_filledSlots
  rw [if_neg (by decide), z_slot0, z_jbd2, if_neg (by decide), if_pos (by decide)]
  simp only [z_jl]
  rw [show (0 : Int32) + 1 = 1 by decide, z_fs1, z_fs1]
  by_cases c : w.1 69 4 = 0
  · rw [if_pos c, if_pos c]; rfl
  · rw [if_neg c, if_neg c]
theorem z_made1 {B P : Nat} {pg : Nat → zP} {w : jw} {t : Int32} (h : zCw B P pg w) (hP : P ≤ 320) : ∀ (d n p : Nat) (c : Int32), p + d = P → d < n → l_X6_madeAt n t c (nI p) w = some (c + zSu (fun p => if (pg p).2.1 = t then 1 else 0) d p, w) := by
  intro d
  induction d with
  | zero =>
    intro n p c h1 h2
    cases n with
    | zero => cases h2
    | succ n =>
      unfold l_X6_madeAt
      rw [h.2.1, if_pos (nI_le (by omega) (by omega))]
      show _ = some (c + 0, w)
      rw [Int32.add_zero]
  | succ d ih =>
    intro n p c h1 h2
    cases n with
    | zero => cases h2
    | succ n =>
      obtain ⟨q1, q2, q3, q4, q5, q6, q7⟩ := h.2.2.2.2.2.2.2.2.2 p (by omega)
      unfold l_X6_madeAt
      rw [h.2.1, if_neg (nI_ge (by omega) (by omega)), z_rat (by omega), q3]
      simp only [z_jl, nI_1]
      show _ = some (c + ((if (pg p).2.1 = t then 1 else 0) + zSu (fun p => if (pg p).2.1 = t then 1 else 0) d (p + 1)), w)
      by_cases k : (pg p).2.1 = t
      · rw [if_pos k, if_pos k, ih n (p + 1) _ (by omega) (by omega), Int32.add_assoc]
      · rw [if_neg k, if_neg k, ih n (p + 1) c (by omega) (by omega), Int32.zero_add]
theorem z_made2 {B P : Nat} {pg : Nat → zP} {w : jw} {a t : Int32} (h : zM B P pg (w.2.1 182)) (ht : w.2.1 182 0 = t) : ∀ (d n p : Nat) (c : Int32), p + d = P → d < n → l_X12_count n a c (nI p) w = some (c + zSu (fun p => if (pg p).2.1 = t then 1 else 0) d p, w) := by
  have hP := h.2.2.1
  intro d
  induction d with
  | zero =>
    intro n p c h1 h2
    cases n with
    | zero => cases h2
    | succ n =>
      unfold l_X12_count
      rw [z_jg z_j3, z_k3, h.2.1, if_pos (nI_le (by omega) (by omega))]
      show _ = some (c + 0, w)
      rw [Int32.add_zero]
  | succ d ih =>
    intro n p c h1 h2
    cases n with
    | zero => cases h2
    | succ n =>
      obtain ⟨q1, q2, q3, q4, q5, q6⟩ := h.2.2.2 p (by omega)
      unfold l_X12_count
      rw [z_jg z_j3, z_k3, h.2.1, if_neg (nI_ge (by omega) (by omega)), z_pa p 1410 1410 rfl, nI_p2, z_jg (z_in (by omega) (by decide)), z_jg j_0, k_0, ht, nI_clamp (by omega), show 1410 + 4 * p + 2 = 1412 + 4 * p by omega, q3]
      simp only [z_jl, nI_1]
      show _ = some (c + ((if (pg p).2.1 = t then 1 else 0) + zSu (fun p => if (pg p).2.1 = t then 1 else 0) d (p + 1)), w)
      by_cases k : (pg p).2.1 = t
      · rw [if_pos k, if_pos k, ih n (p + 1) _ (by omega) (by omega), Int32.add_assoc]
      · rw [if_neg k, if_neg k, ih n (p + 1) c (by omega) (by omega), Int32.zero_add]
theorem zik_k {k : Nat} (hk : k < 1000) : zik (nI k) = true := by
  unfold zik
  rw [if_neg (nI_pos (by omega)), if_neg (show ¬ (1000 : Int32) ≤ nI k from nI_ge (b := 1000) hk (by decide))]
theorem z_oi {hs : List zH} {o : Option Nat} (hl : hs.length ≤ 3000) : zoi hs o < 0 ↔ o.isSome = false := by
  cases o with
  | none => exact ⟨fun _ => rfl, fun _ => z_m1⟩
  | some f => exact ⟨fun z => absurd z (nI_pos (by have := zix_le hs f; omega)), fun z => by cases z⟩
theorem z_kUp {p : Nat → Bool} {w : jw} (h : ∀ k, k < 1000 → (w.2.1 182 (33700 + k) < 0 ↔ p k = false)) : ∀ (d n k : Nat), k + d = 1000 → d < n → (∀ j, 0 ≤ j → j < k → p j = false) → ∃ v, l_X12_keyFrom n 0 1 (nI k) w = some (v, w) ∧ zNx p 0 v := by
  intro d
  induction d with
  | zero =>
    intro n k h1 h2 h3
    cases n with
    | zero => cases h2
    | succ n =>
      unfold l_X12_keyFrom
      rw [z_isKeyM, z_jbd2, show k = 1000 by omega, if_pos (by decide)]
      exact ⟨-2, rfl, Or.inl ⟨rfl, fun j j1 j2 => h3 j j1 (by omega)⟩⟩
  | succ d ih =>
    intro n k h1 h2 h3
    cases n with
    | zero => cases h2
    | succ n =>
      unfold l_X12_keyFrom
      rw [z_isKeyM, z_jbd2, zik_k (by omega), if_neg (by decide), z_337, z_jg (z_in (by omega) (by decide)), nI_clamp (by omega)]
      cases hp : p k with
      | false =>
        rw [if_pos ((h k (by omega)).mpr hp), z_jl, nI_1]
        exact ih n (k + 1) (by omega) (by omega) (fun j j1 j2 => by
          by_cases c : j = k
          · rw [c]; exact hp
          · exact h3 j j1 (by omega))
      | true =>
        rw [if_neg (fun z => by rw [(h k (by omega)).mp z] at hp; cases hp)]
        exact ⟨nI k, rfl, Or.inr ⟨k, rfl, by omega, by omega, hp, h3⟩⟩
theorem z_kDn {p : Nat → Bool} {w : jw} (h : ∀ k, k < 1000 → (w.2.1 182 (33700 + k) < 0 ↔ p k = false)) : ∀ (k n : Nat), k ≤ 999 → k + 1 < n → (∀ j, k < j → j ≤ 999 → p j = false) → ∃ v, l_X12_keyFrom n 999 (-1) (nI k) w = some (v, w) ∧ zPr p 999 v := by
  intro k
  induction k with
  | zero =>
    intro n h1 h2 h3
    cases n with
    | zero => cases h2
    | succ n =>
      unfold l_X12_keyFrom
      rw [z_isKeyM, z_jbd2, zik_k (by omega), if_neg (by decide), z_337, z_jg (z_in (by omega) (by decide)), nI_clamp (by omega)]
      cases hp : p 0 with
      | false =>
        rw [if_pos ((h 0 (by omega)).mpr hp), z_jl, show nI 0 + -1 = -1 from rfl]
        cases n with
        | zero => omega
        | succ n =>
          unfold l_X12_keyFrom
          rw [z_isKeyM, z_jbd2, if_pos (by decide)]
          exact ⟨-2, rfl, Or.inl ⟨rfl, fun j j1 => by
            by_cases c : j = 0
            · rw [c]; exact hp
            · exact h3 j (by omega) j1⟩⟩
      | true =>
        rw [if_neg (fun z => by rw [(h 0 (by omega)).mp z] at hp; cases hp)]
        exact ⟨nI 0, rfl, Or.inr ⟨0, rfl, h1, hp, h3⟩⟩
  | succ k ih =>
    intro n h1 h2 h3
    cases n with
    | zero => cases h2
    | succ n =>
      unfold l_X12_keyFrom
      rw [z_isKeyM, z_jbd2, zik_k (by omega), if_neg (by decide), z_337, z_jg (z_in (by omega) (by decide)), nI_clamp (by omega)]
      cases hp : p (k + 1) with
      | false =>
        rw [if_pos ((h (k + 1) (by omega)).mpr hp), z_jl, show nI (k + 1) + -1 = nI k from (Int32.sub_eq_add_neg (nI (k + 1)) 1).symm.trans (nI_pred k)]
        exact ih n (by omega) (by omega) (fun j j1 j2 => by
          by_cases c : j = k + 1
          · rw [c]; exact hp
          · exact h3 j (by omega) j2)
      | true =>
        rw [if_neg (fun z => by rw [(h (k + 1) (by omega)).mp z] at hp; cases hp)]
        exact ⟨nI (k + 1), rfl, Or.inr ⟨k + 1, rfl, h1, hp, h3⟩⟩
theorem q_count {S : zS} (hI : zIn S) (hl : S.2.2.2.2.length ≤ 2900) {w wm : jw} (hC : zCi S w) (hM : zMi S (wm.2.1 182)) (h4 : w.1 0 10 = wm.2.1 182 5) (h5 : w.1 0 11 = wm.2.1 182 6) (h6 : nI (w.2.2.2 1).length = wm.1 162 2) (s0 : w.1 69 4 = wm.2.1 191 0) (s1 : w.1 100 4 = wm.2.1 191 1) (s2 : w.1 131 4 = wm.2.1 191 2) (a : Int32) : ∃ v, f_X11_count a w = some (v, w) ∧ f_X12_count a wm = some (v, wm) := by
  obtain ⟨P1, P2, B1, B2⟩ := z_P1 hI
  have l0 := zHi_len hI.2
  have hN : ∀ k, k < 1000 → (wm.2.1 182 (33700 + k) < 0 ↔ zp S.2.2.2.2 (S.2.2.2.2.length - 1) k = false) := fun k hk => by
    rw [hM.2.2.1.2.2.2 k hk]
    exact z_oi (by omega)
  unfold f_X11_count f_X12_count
  rw [z_now' hC.2.2 l0, z_jbd2]
  by_cases c0 : a.toInt = 0
  · rw [if_pos c0, if_pos c0, z_jg j_0, k_0, hM.2.2.2]; exact ⟨_, rfl, rfl⟩
  rw [if_neg c0, if_neg c0]
  by_cases c1 : a.toInt = 1
  · rw [if_pos c1, if_pos c1, z_jg (by decide), show Int32.toNatClampNeg 7 = 7 by decide, hM.2.2.1.2.2.1, hC.2.2.2.2.2.2]; exact ⟨_, rfl, rfl⟩
  rw [if_neg c1, if_neg c1]
  by_cases c2 : a.toInt = 2
  · rw [if_pos c2, if_pos c2, z_jg (by decide), show Int32.toNatClampNeg 1 = 1 by decide, hM.1.1, hC.1.1]; exact ⟨_, rfl, rfl⟩
  rw [if_neg c2, if_neg c2]
  by_cases c3 : a.toInt = 3
  · unfold f_X6_weak f_X12_weak
    rw [if_pos c3, if_pos c3, z_jg (show jin 1 34700 = true by decide), show Int32.toNatClampNeg 1 = 1 by decide, hM.1.1, hC.1.1]; exact ⟨_, rfl, rfl⟩
  rw [if_neg c3, if_neg c3]
  by_cases c4 : a.toInt = 4
  · rw [if_pos c4, if_pos c4, z_jg (by decide), show Int32.toNatClampNeg 5 = 5 by decide, h4]; exact ⟨_, rfl, rfl⟩
  rw [if_neg c4, if_neg c4]
  by_cases c5 : a.toInt = 5
  · rw [if_pos c5, if_pos c5, z_jg (by decide), show Int32.toNatClampNeg 6 = 6 by decide, h5]; exact ⟨_, rfl, rfl⟩
  rw [if_neg c5, if_neg c5]
  by_cases c6 : a.toInt = 6
  · rw [if_pos c6, if_pos c6, h6]; exact ⟨_, rfl, rfl⟩
  rw [if_neg c6, if_neg c6]
  by_cases c7 : a.toInt = 7
  · rw [if_pos c7, if_pos c7]
    have e : f_X11_filledSlots w = _ := z_fs0 39996 w
    rw [e, z_jbd2, s0, s1, s2]
    refine ⟨_, rfl, ?_⟩
    rw [z_jg (show jin 0 3 = true by decide), z_jg (show jin 1 3 = true by decide), z_jg (show jin 2 3 = true by decide), z_jg (show jin 2 3 = true by decide), z_jg (show jin 1 3 = true by decide), z_jg (show jin 2 3 = true by decide), z_jg (show jin 2 3 = true by decide), k_0, show Int32.toNatClampNeg 1 = 1 by decide, show Int32.toNatClampNeg 2 = 2 by decide]
    by_cases d0 : wm.2.1 191 0 = 0
    · by_cases d1 : wm.2.1 191 1 = 0
      · by_cases d2 : wm.2.1 191 2 = 0
        · simp only [d0, d1, d2, if_true]
        · simp only [d0, d1, d2, if_true, if_false]
      · by_cases d2 : wm.2.1 191 2 = 0
        · simp only [d0, d1, d2, if_true, if_false]
        · simp only [d0, d1, d2, if_true, if_false]
    · by_cases d1 : wm.2.1 191 1 = 0
      · by_cases d2 : wm.2.1 191 2 = 0
        · simp only [d0, d1, d2, if_true, if_false]
        · simp only [d0, d1, d2, if_true, if_false]
      · by_cases d2 : wm.2.1 191 2 = 0
        · simp only [d0, d1, d2, if_true, if_false]
        · simp only [d0, d1, d2, if_false]
  rw [if_neg c7, if_neg c7]
  by_cases c8 : a.toInt = 8
  · rw [if_pos c8, if_pos c8]
    obtain ⟨v, v1, v2⟩ := z_dnC_l (w := w) (τ := S.2.2.2.2.length - 1) (a := 999) hC.2.2 hI.2 (by omega) (by omega) (by decide) (S.2.2.2.2.length - 1) jfu 1 (-2) (by omega) (by omega) (by show _ < 40000; omega) (Or.inl ⟨rfl, fun k _ => zPf_1⟩)
    obtain ⟨u, u1, u2⟩ := z_kDn (w := wm) hN 999 jfu (by omega) (by show _ < 40000; omega) (fun j _ _ => by omega)
    have e : v = u := zPr_u (zPr_c (fun k _ => zPf_e.symm) v2) u2
    subst e
    exact ⟨v, (congrArg (fun o => jbd2 o _) v1).trans (z_jbd2 _ _ _), (congrArg (fun o => jbd2 o _) u1).trans (z_jbd2 _ _ _)⟩
  rw [if_neg c8, if_neg c8]
  by_cases c9 : a.toInt = 9
  · rw [if_pos c9, if_pos c9]
    obtain ⟨v, v1, v2⟩ := z_upC_l (w := w) (τ := S.2.2.2.2.length - 1) (a := 0) hC.2.2 hI.2 (by omega) (by omega) (by decide) (S.2.2.2.2.length - 1) jfu 1 (-2) (by omega) (by omega) (by show _ < 40000; omega) (Or.inl ⟨rfl, fun k _ _ => zPf_1⟩)
    obtain ⟨u, u1, u2⟩ := z_kUp (w := wm) hN 1000 jfu 0 rfl (by show _ < 40000; omega) (fun j _ _ => by omega)
    have e : v = u := zNx_u (zNx_c (fun k _ _ => zPf_e.symm) v2) u2
    subst e
    exact ⟨v, (congrArg (fun o => jbd2 o _) v1).trans (z_jbd2 _ _ _), (congrArg (fun o => jbd2 o _) u1).trans (z_jbd2 _ _ _)⟩
  rw [if_neg c9, if_neg c9]
  by_cases c10 : a.toInt = 10
  · rw [if_pos c10, if_pos c10]
    have r1 := z_made1 (t := nI (S.2.2.2.2.length - 1)) hC.1 P2 S.2.1 jfu 0 0 (by omega) (by show _ < 40000; omega)
    have r2 := z_made2 (a := a) hM.1 hM.2.2.2 S.2.1 jfu 0 0 (by omega) (by show _ < 40000; omega)
    exact ⟨_, (congrArg (fun o => jbd2 o _) r1).trans (z_jbd2 _ _ _), r2⟩
  rw [if_neg c10, if_neg c10]
  exact ⟨-1, rfl, rfl⟩
end
