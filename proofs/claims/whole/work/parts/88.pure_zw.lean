section
/-! hold, restore: the reference's copies -/
theorem z_sa (s i : Nat) : (34700 * nI s) + nI i = nI (34700 * s + i) := by
  rw [show (34700 : Int32) = nI 34700 from rfl, pk_mul, nI_add]
theorem z_holdM {s : Nat} (hs : s < 3) : ∀ (d n i : Nat) (w : jw), i + d = 34700 → d < n → ∃ w', l_X12_hold n (nI s) (nI i) w = some (true, w') ∧ zfA 192 w w' ∧ ∀ q, w'.2.1 192 q = if 34700 * s + i ≤ q ∧ q < 34700 * s + 34700 then w.2.1 182 (q - 34700 * s) else w.2.1 192 q := by
  intro d
  induction d with
  | zero =>
    intro n i w h1 h2
    cases n with
    | zero => cases h2
    | succ n =>
      unfold l_X12_hold
      rw [if_pos (show (34700 : Int32) ≤ nI i from nI_le (a := 34700) (by omega) (by omega))]
      exact ⟨w, rfl, zfA_rfl _ w, fun q => by rw [if_neg (by omega)]⟩
  | succ d ih =>
    intro n i w h1 h2
    cases n with
    | zero => cases h2
    | succ n =>
      unfold l_X12_hold
      rw [if_neg (show ¬ (34700 : Int32) ≤ nI i from nI_ge (b := 34700) (by omega) (by decide)), z_jg (z_in (by omega) (by decide)), z_sa, z_jg (z_in (by omega) (by decide)), nI_clamp (by omega), nI_clamp (by omega), z_jl, z_jl, nI_1]
      obtain ⟨w', r1, r2, r3⟩ := ih n (i + 1) (jsetX w 192 (34700 * s + i) (w.2.1 182 i)) (by omega) (by omega)
      refine ⟨w', r1, zfA_trans (zfA_X w 192 _ _) r2, fun q => ?_⟩
      rw [r3 q, z_jX2 (by decide), z_jX1]
      by_cases c : q = 34700 * s + i
      · rw [c, zup_eq, if_neg (by omega), if_pos (by omega), show 34700 * s + i - 34700 * s = i by omega]
      · rw [zup_ne c]
        by_cases k : 34700 * s + (i + 1) ≤ q ∧ q < 34700 * s + 34700
        · rw [if_pos k, if_pos (by omega)]
        · rw [if_neg k, if_neg (by omega)]
theorem z_restM {s : Nat} (hs : s < 3) : ∀ (d n i : Nat) (w : jw), i + d = 34700 → d < n → ∃ w', l_X12_restore n (nI s) (nI i) w = some (true, w') ∧ zfA 182 w w' ∧ ∀ q, w'.2.1 182 q = if i ≤ q ∧ q < 34700 then w.2.1 192 (34700 * s + q) else w.2.1 182 q := by
  intro d
  induction d with
  | zero =>
    intro n i w h1 h2
    cases n with
    | zero => cases h2
    | succ n =>
      unfold l_X12_restore
      rw [if_pos (show (34700 : Int32) ≤ nI i from nI_le (a := 34700) (by omega) (by omega))]
      exact ⟨w, rfl, zfA_rfl _ w, fun q => by rw [if_neg (by omega)]⟩
  | succ d ih =>
    intro n i w h1 h2
    cases n with
    | zero => cases h2
    | succ n =>
      unfold l_X12_restore
      rw [if_neg (show ¬ (34700 : Int32) ≤ nI i from nI_ge (b := 34700) (by omega) (by decide)), z_sa, z_jg (z_in (by omega) (by decide)), z_jg (z_in (by omega) (by decide)), nI_clamp (by omega), nI_clamp (by omega), z_jl, z_jl, nI_1]
      obtain ⟨w', r1, r2, r3⟩ := ih n (i + 1) (jsetX w 182 i (w.2.1 192 (34700 * s + i))) (by omega) (by omega)
      refine ⟨w', r1, zfA_trans (zfA_X w 182 _ _) r2, fun q => ?_⟩
      rw [r3 q, z_jX2 (by decide), z_jX1]
      by_cases c : q = i
      · rw [c, zup_eq, if_neg (by omega), if_pos (by omega)]
      · rw [zup_ne c]
        by_cases k : i + 1 ≤ q ∧ q < 34700
        · rw [if_pos k, if_pos (by omega)]
        · rw [if_neg k, if_neg (by omega)]
end
