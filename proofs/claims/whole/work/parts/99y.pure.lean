section
/-! the start: the reference -/
theorem z_bg2 {b1 : Int32} : ∀ (d n j : Nat) (w : jw), j + d = 10 → d < n → ∃ w1, l_X12_begins_2 n b1 (nI j) w = l_X12_begins_30 jfu b1 0 (jsetX w1 182 1 b1) ∧ zfA 182 w w1 ∧ ∀ q, w1.2.1 182 q = if j ≤ q ∧ q < 10 then 0 else w.2.1 182 q := by
  intro d
  induction d with
  | zero =>
    intro n j w h1 h2
    obtain ⟨n, rfl⟩ : ∃ k, n = k + 1 := ⟨n - 1, by omega⟩
    refine ⟨w, ?_, zfA_rfl 182 w, fun q => by rw [if_neg (by omega)]⟩
    rw [show l_X12_begins_2 (n + 1) b1 (nI j) w = _ from by unfold l_X12_begins_2; exact rfl]
    rw [if_pos (show (10 : Int32) ≤ nI j from nI_le (a := 10) (by omega) (by omega)), z_jg (show jin 1 34700 = true by decide), z_jl]
    rfl
  | succ d ih =>
    intro n j w h1 h2
    obtain ⟨n, rfl⟩ : ∃ k, n = k + 1 := ⟨n - 1, by omega⟩
    obtain ⟨w1, r1, r2, r3⟩ := ih n (j + 1) (jsetX w 182 j 0) (by omega) (by omega)
    refine ⟨w1, ?_, zfA_trans (zfA_X w 182 _ _) r2, fun q => ?_⟩
    · rw [show l_X12_begins_2 (n + 1) b1 (nI j) w = _ from by unfold l_X12_begins_2; exact rfl]
      rw [if_neg (show ¬ (10 : Int32) ≤ nI j from nI_ge (b := 10) (by omega) (by decide)), z_jg (z_in (by omega) (by decide)), nI_clamp (by omega), z_jl, z_jl, nI_1]
      exact r1
    · rw [r3 q, z_jX1]
      by_cases c : q = j
      · rw [c, zup_eq, if_neg (by omega), if_pos (by omega)]
      · rw [zup_ne c]
        by_cases k : j + 1 ≤ q ∧ q < 10
        · rw [if_pos k, if_pos (by omega)]
        · rw [if_neg k, if_neg (by omega)]
theorem z_bg30 {b1 : Int32} : ∀ (d n j : Nat) (w : jw), j + d = 1000 → d < n → ∃ w1, l_X12_begins_30 n b1 (nI j) w = (jbd2 (f_X12_makes 1 w1) fun x3 w4 => jbd (f_X12_becomesRoot 0 w4) fun q5 => some q5) ∧ zfA 182 w w1 ∧ ∀ q, w1.2.1 182 q = if 33700 + j ≤ q ∧ q < 34700 then -1 else w.2.1 182 q := by
  intro d
  induction d with
  | zero =>
    intro n j w h1 h2
    obtain ⟨n, rfl⟩ : ∃ k, n = k + 1 := ⟨n - 1, by omega⟩
    refine ⟨w, ?_, zfA_rfl 182 w, fun q => by rw [if_neg (by omega)]⟩
    rw [show l_X12_begins_30 (n + 1) b1 (nI j) w = _ from by unfold l_X12_begins_30; exact rfl]
    rw [if_pos (show (1000 : Int32) ≤ nI j from nI_le (a := 1000) (by omega) (by omega))]
  | succ d ih =>
    intro n j w h1 h2
    obtain ⟨n, rfl⟩ : ∃ k, n = k + 1 := ⟨n - 1, by omega⟩
    obtain ⟨w1, r1, r2, r3⟩ := ih n (j + 1) (jsetX w 182 (33700 + j) (-1)) (by omega) (by omega)
    refine ⟨w1, ?_, zfA_trans (zfA_X w 182 _ _) r2, fun q => ?_⟩
    · rw [show l_X12_begins_30 (n + 1) b1 (nI j) w = _ from by unfold l_X12_begins_30; exact rfl]
      rw [if_neg (show ¬ (1000 : Int32) ≤ nI j from nI_ge (b := 1000) (by omega) (by decide)), show (33700 : Int32) + nI j = nI (33700 + j) from nI_add 33700 j, z_jg (z_in (by omega) (by decide)), nI_clamp (by omega), z_jl, z_jl, nI_1]
      exact r1
    · rw [r3 q, z_jX1]
      by_cases c : q = 33700 + j
      · rw [c, zup_eq, if_neg (by omega), if_pos (by omega)]
      · rw [zup_ne c]
        by_cases k : 33700 + (j + 1) ≤ q ∧ q < 34700
        · rw [if_pos k, if_pos (by omega)]
        · rw [if_neg k, if_neg (by omega)]
theorem z_make0 {w : jw} (h0 : w.2.1 182 0 = 0) (h2 : w.2.1 182 2 = 0) (h3 : w.2.1 182 3 = 0) : ∃ w', (jbd2 (f_X12_makes 1 w) fun x3 w4 => jbd (f_X12_becomesRoot 0 w4) fun q5 => some q5) = some w' ∧ zfA 182 w w' ∧ ∀ q, w'.2.1 182 q = if q = 2 then 1 else if q = 710 then 0 else if q = 10 then 0 else if q = 3 then 1 else if q = 1413 then -2 else if q = 1412 then 0 else if q = 1411 then 0 else if q = 1410 then 1 else w.2.1 182 q := by
  have mk : f_X12_makes 1 w = some (0, jsetX (jsetX (jsetX (jsetX (jsetX w 182 1410 1) 182 1411 0) 182 1412 0) 182 1413 (-2)) 182 3 1) := by
    unfold f_X12_makes
    rw [z_jg (show jin 3 34700 = true by decide), show w.2.1 182 (Int32.toNatClampNeg 3) = 0 from h3, z_jl, z_jg (show jin (1410 + (4 * 0)) 34700 = true by decide), z_jl, z_jg (show jin (1410 + (4 * 0) + 1) 34700 = true by decide), z_jl, z_jg (show jin 0 34700 = true by decide), z_jg (show jin (1410 + (4 * 0) + 2) 34700 = true by decide), z_jl, z_jg (show jin (1410 + (4 * 0) + 3) 34700 = true by decide), z_jl, z_jg (show jin 3 34700 = true by decide), z_jg (show jin 3 34700 = true by decide), z_jl]
    rw [show (jsetX (jsetX w 182 (Int32.toNatClampNeg (1410 + 4 * 0)) 1) 182 (Int32.toNatClampNeg (1410 + 4 * 0 + 1)) 0).2.1 182 (Int32.toNatClampNeg 0) = 0 from by rw [z_jX1, z_jX1]; show zup (zup (w.2.1 182) 1410 1) 1411 0 0 = 0; rw [zup_ne (by decide), zup_ne (by decide)]; exact h0]
    rw [show (jsetX (jsetX (jsetX (jsetX w 182 (Int32.toNatClampNeg (1410 + 4 * 0)) 1) 182 (Int32.toNatClampNeg (1410 + 4 * 0 + 1)) 0) 182 (Int32.toNatClampNeg (1410 + 4 * 0 + 2)) 0) 182 (Int32.toNatClampNeg (1410 + 4 * 0 + 3)) (-2)).2.1 182 (Int32.toNatClampNeg 3) = 0 from by rw [z_jX1, z_jX1, z_jX1, z_jX1]; show zup (zup (zup (zup (w.2.1 182) 1410 1) 1411 0) 1412 0) 1413 (-2) 3 = 0; rw [zup_ne (by decide), zup_ne (by decide), zup_ne (by decide), zup_ne (by decide)]; exact h3]
    rfl
  rw [mk, z_jbd2]
  have g : ∀ q, (jsetX (jsetX (jsetX (jsetX (jsetX w 182 1410 1) 182 1411 0) 182 1412 0) 182 1413 (-2)) 182 3 1).2.1 182 q = if q = 3 then 1 else if q = 1413 then -2 else if q = 1412 then 0 else if q = 1411 then 0 else if q = 1410 then 1 else w.2.1 182 q := fun q => by
    rw [z_jX1, z_jX1, z_jX1, z_jX1, z_jX1]
    rfl
  have gf : zfA 182 w (jsetX (jsetX (jsetX (jsetX (jsetX w 182 1410 1) 182 1411 0) 182 1412 0) 182 1413 (-2)) 182 3 1) := zfA_trans (zfA_X _ 182 _ _) (zfA_trans (zfA_X _ 182 _ _) (zfA_trans (zfA_X _ 182 _ _) (zfA_trans (zfA_X _ 182 _ _) (zfA_X _ 182 _ _))))
  generalize hv : jsetX (jsetX (jsetX (jsetX (jsetX w 182 1410 1) 182 1411 0) 182 1412 0) 182 1413 (-2)) 182 3 1 = v at g gf ⊢
  have v2 : v.2.1 182 2 = 0 := by rw [g, if_neg (by decide), if_neg (by decide), if_neg (by decide), if_neg (by decide), if_neg (by decide)]; exact h2
  have v0 : v.2.1 182 0 = 0 := by rw [g, if_neg (by decide), if_neg (by decide), if_neg (by decide), if_neg (by decide), if_neg (by decide)]; exact h0
  refine ⟨jsetX (jsetX (jsetX v 182 10 0) 182 710 0) 182 2 1, ?_, zfA_trans gf (zfA_trans (zfA_X _ 182 _ _) (zfA_trans (zfA_X _ 182 _ _) (zfA_X _ 182 _ _))), fun q => ?_⟩
  · unfold f_X12_becomesRoot
    rw [z_jg (show jin 2 34700 = true by decide), z_jg (show jin 0 34700 = true by decide), show v.2.1 182 (Int32.toNatClampNeg 2) = 0 from v2, show v.2.1 182 (Int32.toNatClampNeg 0) = 0 from v0, z_jg (show jin (10 + 0) 34700 = true by decide), z_jl, z_jg (show jin 2 34700 = true by decide)]
    rw [show (jsetX v 182 (Int32.toNatClampNeg (10 + 0)) 0).2.1 182 (Int32.toNatClampNeg 2) = 0 from by rw [z_jX1]; show zup (v.2.1 182) 10 0 2 = 0; rw [zup_ne (by decide)]; exact v2]
    rw [z_jg (show jin (710 + 0) 34700 = true by decide), z_jl, z_jg (show jin 2 34700 = true by decide), z_jg (show jin 2 34700 = true by decide)]
    rw [show (jsetX (jsetX v 182 (Int32.toNatClampNeg (10 + 0)) 0) 182 (Int32.toNatClampNeg (710 + 0)) 0).2.1 182 (Int32.toNatClampNeg 2) = 0 from by rw [z_jX1, z_jX1]; show zup (zup (v.2.1 182) 10 0) 710 0 2 = 0; rw [zup_ne (by decide), zup_ne (by decide)]; exact v2]
    rw [z_jl, z_jbd]
    rfl
  · rw [z_jX1, z_jX1, z_jX1]
    show (if q = 2 then 1 else if q = 710 then 0 else if q = 10 then 0 else v.2.1 182 q) = _
    rw [g]
theorem z_begM {B : Nat} (h12 : B ≤ 12) (w : jw) : ∃ w', f_X12_begins (nI B) w = some w' ∧ zMi (zS0 B) (w'.2.1 182) ∧ w'.2.1 182 5 = 0 ∧ w'.2.1 182 6 = 0 ∧ zfA 182 w w' := by
  obtain ⟨w1, r1, r2, r3⟩ := z_bg2 (b1 := nI B) 10 jfu 0 w rfl (by decide)
  obtain ⟨w2, s1, s2, s3⟩ := z_bg30 (b1 := nI B) 1000 jfu 0 (jsetX w1 182 1 (nI B)) rfl (by decide)
  have e2 : ∀ q, q < 10 → w2.2.1 182 q = if q = 1 then nI B else 0 := fun q hq => by
    rw [s3 q, if_neg (by omega), z_jX1]
    by_cases c : q = 1
    · rw [c, zup_eq, if_pos rfl]
    · rw [zup_ne c, if_neg c, r3 q, if_pos (by omega)]
  obtain ⟨w', t1, t2, t3⟩ := z_make0 (w := w2) (by rw [e2 0 (by decide), if_neg (by decide)]) (by rw [e2 2 (by decide), if_neg (by decide)]) (by rw [e2 3 (by decide), if_neg (by decide)])
  have e3 : ∀ q, q ≠ 2 → q ≠ 3 → q < 10 → w'.2.1 182 q = if q = 1 then nI B else 0 := fun q q2 q3 q10 => by
    rw [t3 q, if_neg q2, if_neg (by omega), if_neg (by omega), if_neg q3, if_neg (by omega), if_neg (by omega), if_neg (by omega), if_neg (by omega), e2 q q10]
  refine ⟨w', ?_, ⟨⟨by rw [e3 1 (by decide) (by decide) (by decide), if_pos rfl]; rfl, by rw [t3 3]; rfl, by show 1 ≤ 320; decide, fun p hp => ?_⟩, ⟨by rw [t3 2]; rfl, fun i q hq => ?_⟩, ⟨(fun i e he => by cases he), by rw [e3 4 (by decide) (by decide) (by decide)]; rfl, by rw [e3 7 (by decide) (by decide) (by decide)]; rfl, fun k hk => ?_⟩, by rw [e3 0 (by decide) (by decide) (by decide)]; rfl⟩, by rw [e3 5 (by decide) (by decide) (by decide)]; rfl, by rw [e3 6 (by decide) (by decide) (by decide)]; rfl, zfA_trans r2 (zfA_trans (zfA_X _ 182 _ _) (zfA_trans s2 t2))⟩
  · show l_X12_begins_2 jfu (nI B) 0 w = _
    rw [show l_X12_begins_2 jfu (nI B) 0 w = _ from r1, show l_X12_begins_30 jfu (nI B) 0 (jsetX w1 182 1 (nI B)) = _ from s1]
    exact t1
  · have p0 : p = 0 := by
      have : p < 1 := hp
      omega
    subst p0
    refine ⟨?_, ?_, ?_, ?_, Nat.zero_le _, fun i e he => by cases he⟩
    · rw [t3]; rfl
    · rw [t3]; rfl
    · rw [t3]; rfl
    · rw [t3]; rfl
  · have i0 : i < 1 := (List.getElem?_eq_some_iff.mp hq).1
    have : i = 0 := by omega
    subst this
    cases hq
    exact ⟨by rw [t3]; rfl, by rw [t3]; rfl⟩
  · rw [t3, if_neg (by omega), if_neg (by omega), if_neg (by omega), if_neg (by omega), if_neg (by omega), if_neg (by omega), if_neg (by omega), if_neg (by omega), s3, if_pos (by omega)]
    rfl
end
