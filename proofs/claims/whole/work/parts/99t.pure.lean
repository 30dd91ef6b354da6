section
/-! a put or a cut told: key, number -/
theorem z_tmnp (a : Int) (h : a ≤ 0) : a.tmod 1000 ≤ 0 := by
  have h1 := Int.tmod_nonneg (a := -a) 1000 (by omega)
  rw [Int.neg_tmod] at h1
  omega
theorem z_tdm (a : Int) : -(2 ^ 31) ≤ a → a < 2 ^ 31 → -(2 ^ 31) ≤ a.tdiv 1000 * 1000 ∧ a.tdiv 1000 * 1000 < 2 ^ 31 ∧ a - a.tdiv 1000 * 1000 = a.tmod 1000 := fun h1 h2 => by
  have h3 := Int.tmod_add_mul_tdiv a 1000
  rcases Int.lt_or_le a 0 with c | c
  · have h4 := z_tmnp a (by omega)
    have h5 : -1000 < a.tmod 1000 := by have := Int.lt_tmod_of_pos a (show (0 : Int) < 1000 by decide); omega
    omega
  · have h4 := Int.tmod_nonneg (a := a) 1000 c
    have h5 := Int.tmod_lt_of_pos a (show (0 : Int) < 1000 by decide)
    omega
theorem z_rem (x : Int32) : (x - x / 1000 * 1000).toInt = x.toInt.tmod 1000 := by
  have b1 : -(2 ^ 31) ≤ x.toInt := Int32.le_toInt x
  have b2 : x.toInt < 2 ^ 31 := Int32.toInt_lt x
  obtain ⟨c1, c2, c3⟩ := z_tdm x.toInt b1 b2
  have e0 : (1000 : Int32).toInt = 1000 := rfl
  have e1 : (x / 1000).toInt = x.toInt.tdiv 1000 := by
    rw [Int32.toInt_div_of_ne_right _ _ (by decide), e0]
  have e2 : (x / 1000 * 1000).toInt = x.toInt.tdiv 1000 * 1000 := by
    rw [Int32.toInt_mul, e1, e0]
    exact Int.bmod_eq_of_le (by omega) (by omega)
  rw [Int32.toInt_sub, e2, c3]
  have h5 : x.toInt.tmod 1000 < 1000 := Int.tmod_lt_of_pos _ (by decide)
  have h6 : -1000 < x.toInt.tmod 1000 := by have := Int.lt_tmod_of_pos x.toInt (show (0 : Int) < 1000 by decide); omega
  exact Int.bmod_eq_of_le (by omega) (by omega)
theorem z_xor (x : Int32) : (0 ≤ x ^^^ 1000) ↔ 0 ≤ x.toInt := by
  rw [Int32.le_iff_toInt_le]
  have e0 : (0 : Int32).toInt = 0 := rfl
  rw [e0]
  have h1 : (x ^^^ 1000).toBitVec.msb = x.toBitVec.msb := by
    rw [Int32.toBitVec_xor, BitVec.msb_xor]
    have : (1000 : Int32).toBitVec.msb = false := by decide
    rw [this, Bool.xor_false]
  have h2 : (x ^^^ 1000).toBitVec.msb = decide ((x ^^^ 1000).toInt < 0) := BitVec.msb_eq_toInt
  have h3 : x.toBitVec.msb = decide (x.toInt < 0) := BitVec.msb_eq_toInt
  rw [h2, h3, decide_eq_decide] at h1
  omega
theorem z_key0 (x : Int32) : ∃ k, k < 1000 ∧ fmq x = nI k ∧ ∀ w, f_X12_keyOf x w = some (nI k, w) := by
  have hr := z_rem x
  have e0 : (0 : Int32).toInt = 0 := rfl
  have h5 : x.toInt.tmod 1000 < 1000 := Int.tmod_lt_of_pos _ (by decide)
  have h6 : -1000 < x.toInt.tmod 1000 := by have := Int.lt_tmod_of_pos x.toInt (show (0 : Int) < 1000 by decide); omega
  have key : ∀ y : Int32, 0 ≤ y.toInt → y.toInt < 1000 → ∃ k, k < 1000 ∧ y = nI k := fun y h1 h2 => by
    have n0 : ¬ y < 0 := by rw [Int32.lt_iff_toInt_lt]; omega
    obtain ⟨k, k1, k2⟩ := nI_of n0
    refine ⟨k, ?_, k2⟩
    rw [k2, nI_toInt k1] at h2
    omega
  unfold fmq f_X12_keyOf
  simp only [z_jl]
  by_cases c : 0 ≤ x.toInt
  · have t0 := Int.tmod_nonneg (a := x.toInt) 1000 c
    obtain ⟨k, k1, k2⟩ := key (x - x / 1000 * 1000) (by omega) (by omega)
    refine ⟨k, k1, by rw [if_pos ((z_xor x).mpr c), k2], fun w => ?_⟩
    rw [if_pos (by rw [Int32.le_iff_toInt_le]; omega), k2]
  · have t0 := z_tmnp x.toInt (by omega)
    rw [if_neg (fun z => c ((z_xor x).mp z))]
    by_cases d : x - x / 1000 * 1000 = 0
    · rw [if_pos d, d]
      exact ⟨0, by decide, rfl, fun w => by rw [if_pos (by decide)]; rfl⟩
    · rw [if_neg d]
      have d' : x.toInt.tmod 1000 ≠ 0 := fun z => d (Int32.toInt_inj.mp (by rw [hr, z]; rfl))
      have e1 : (x - x / 1000 * 1000 + 1000).toInt = x.toInt.tmod 1000 + 1000 := by
        rw [Int32.toInt_add, hr, show (1000 : Int32).toInt = 1000 from rfl]
        exact Int.bmod_eq_of_le (by omega) (by omega)
      obtain ⟨k, k1, k2⟩ := key (x - x / 1000 * 1000 + 1000) (by omega) (by omega)
      refine ⟨k, k1, k2, fun w => ?_⟩
      rw [if_neg (by rw [Int32.le_iff_toInt_le]; omega), k2]
end
