/-! the law's loop -/
theorem z_and63 (y : Int32) : ∃ t, t < 64 ∧ y &&& 63 = nI t := by
  refine ⟨(y.toBitVec &&& 63#32).toNat, ?_, ?_⟩
  · rw [BitVec.toNat_and]
    exact Nat.lt_of_le_of_lt Nat.and_le_right (by decide)
  · apply Int32.toBitVec_inj.mp
    show y.toBitVec &&& 63#32 = BitVec.ofNat 32 (y.toBitVec &&& 63#32).toNat
    simp
set_option maxRecDepth 20000 in
set_option maxHeartbeats 2000000 in
theorem l_body {E : jE} (hE : jfull E) {A : (Nat → Nat) × Option Nat} {b L : Nat} {xs : Nat → Int32} {i y : Int32} {m : Nat} {S : zS} {w : jw} (hm : m ≤ 2900) (h4 : 401 ≤ m) (h : zTop m S w) (hi : ∀ n : Int32, 0 ≤ n → n ≤ 5 → vp_in (i + n) L) (kk : ∀ (S' : zS) (w2 : jw), zTop (m + 1) S' w2 → ∃ w', jX E (m_L A b L xs) 40 1400 (lls E b i) [] w2 (some (.int 1)) w') : ∃ w', jX E (m_L A b L xs) 40 33 (lls E b i) [.int (y &&& 63)] w (some (.int 1)) w' := by
  obtain ⟨t, ht, e⟩ := z_and63 y
  rw [e]
  by_cases e0 : t = 0
  · subst e0
    obtain ⟨w', hX⟩ := lc_feed hE hm h4 h hi kk
    exact ⟨w', jx_tableIn (off := 159) (tgt := 192) dL_33 (by decide) (by decide) rfl (by decide) hX⟩
  by_cases e1 : t = 1
  · subst e1
    obtain ⟨w', hX⟩ := lc_back hE hm h4 h hi kk
    exact ⟨w', jx_tableIn (off := 222) (tgt := 255) dL_33 (by decide) (by decide) rfl (by decide) hX⟩
  by_cases e2 : t = 2
  · subst e2
    obtain ⟨w', hX⟩ := lc_read hE hm h4 h hi kk
    exact ⟨w', jx_tableIn (off := 245) (tgt := 278) dL_33 (by decide) (by decide) rfl (by decide) hX⟩
  by_cases e3 : t = 3
  · subst e3
    obtain ⟨w', hX⟩ := lc_place hE hm h4 h hi kk
    exact ⟨w', jx_tableIn (off := 258) (tgt := 291) dL_33 (by decide) (by decide) rfl (by decide) hX⟩
  by_cases e4 : t = 4
  · subst e4
    obtain ⟨w', hX⟩ := lc_put hE hm h4 h hi kk
    exact ⟨w', jx_tableIn (off := 271) (tgt := 304) dL_33 (by decide) (by decide) rfl (by decide) hX⟩
  by_cases e5 : t = 5
  · subst e5
    obtain ⟨w', hX⟩ := lc_cut hE hm h4 h hi kk
    exact ⟨w', jx_tableIn (off := 304) (tgt := 337) dL_33 (by decide) (by decide) rfl (by decide) hX⟩
  by_cases e6 : t = 6
  · subst e6
    obtain ⟨w', hX⟩ := lc_has hE hm h4 h hi kk
    exact ⟨w', jx_tableIn (off := 327) (tgt := 360) dL_33 (by decide) (by decide) rfl (by decide) hX⟩
  by_cases e7 : t = 7
  · subst e7
    obtain ⟨w', hX⟩ := lc_value hE hm h4 h hi kk
    exact ⟨w', jx_tableIn (off := 360) (tgt := 393) dL_33 (by decide) (by decide) rfl (by decide) hX⟩
  by_cases e8 : t = 8
  · subst e8
    obtain ⟨w', hX⟩ := lc_since hE hm h4 h hi kk
    exact ⟨w', jx_tableIn (off := 393) (tgt := 426) dL_33 (by decide) (by decide) rfl (by decide) hX⟩
  by_cases e9 : t = 9
  · subst e9
    obtain ⟨w', hX⟩ := lc_many hE hm h4 h hi kk
    exact ⟨w', jx_tableIn (off := 426) (tgt := 459) dL_33 (by decide) (by decide) rfl (by decide) hX⟩
  by_cases e10 : t = 10
  · subst e10
    obtain ⟨w', hX⟩ := lc_sum hE hm h4 h hi kk
    exact ⟨w', jx_tableIn (off := 469) (tgt := 502) dL_33 (by decide) (by decide) rfl (by decide) hX⟩
  by_cases e11 : t = 11
  · subst e11
    obtain ⟨w', hX⟩ := lc_nth hE hm h4 h hi kk
    exact ⟨w', jx_tableIn (off := 512) (tgt := 545) dL_33 (by decide) (by decide) rfl (by decide) hX⟩
  by_cases e12 : t = 12
  · subst e12
    obtain ⟨w', hX⟩ := lc_next hE hm h4 h hi kk
    exact ⟨w', jx_tableIn (off := 545) (tgt := 578) dL_33 (by decide) (by decide) rfl (by decide) hX⟩
  by_cases e13 : t = 13
  · subst e13
    obtain ⟨w', hX⟩ := lc_prior hE hm h4 h hi kk
    exact ⟨w', jx_tableIn (off := 578) (tgt := 611) dL_33 (by decide) (by decide) rfl (by decide) hX⟩
  by_cases e14 : t = 14
  · subst e14
    obtain ⟨w', hX⟩ := lc_differ hE hm h4 h hi kk
    exact ⟨w', jx_tableIn (off := 611) (tgt := 644) dL_33 (by decide) (by decide) rfl (by decide) hX⟩
  by_cases e15 : t = 15
  · subst e15
    obtain ⟨w', hX⟩ := lc_ever hE hm h4 h hi kk
    exact ⟨w', jx_tableIn (off := 664) (tgt := 697) dL_33 (by decide) (by decide) rfl (by decide) hX⟩
  by_cases e16 : t = 16
  · subst e16
    obtain ⟨w', hX⟩ := lc_stay hE hm h4 h hi kk
    exact ⟨w', jx_tableIn (off := 717) (tgt := 750) dL_33 (by decide) (by decide) rfl (by decide) hX⟩
  by_cases e17 : t = 17
  · subst e17
    obtain ⟨w', hX⟩ := lc_versions hE hm h4 h hi kk
    exact ⟨w', jx_tableIn (off := 760) (tgt := 793) dL_33 (by decide) (by decide) rfl (by decide) hX⟩
  by_cases e18 : t = 18
  · subst e18
    obtain ⟨w', hX⟩ := lc_version hE hm h4 h hi kk
    exact ⟨w', jx_tableIn (off := 783) (tgt := 816) dL_33 (by decide) (by decide) rfl (by decide) hX⟩
  by_cases e19 : t = 19
  · subst e19
    obtain ⟨w', hX⟩ := lc_peak hE hm h4 h hi kk
    exact ⟨w', jx_tableIn (off := 826) (tgt := 859) dL_33 (by decide) (by decide) rfl (by decide) hX⟩
  by_cases e20 : t = 20
  · subst e20
    obtain ⟨w', hX⟩ := lc_root hE hm h4 h hi kk
    exact ⟨w', jx_tableIn (off := 869) (tgt := 902) dL_33 (by decide) (by decide) rfl (by decide) hX⟩
  by_cases e21 : t = 21
  · subst e21
    obtain ⟨w', hX⟩ := lc_deep hE hm h4 h hi kk
    exact ⟨w', jx_tableIn (off := 892) (tgt := 925) dL_33 (by decide) (by decide) rfl (by decide) hX⟩
  by_cases e22 : t = 22
  · subst e22
    obtain ⟨w', hX⟩ := lc_leaf hE hm h4 h hi kk
    exact ⟨w', jx_tableIn (off := 915) (tgt := 948) dL_33 (by decide) (by decide) rfl (by decide) hX⟩
  by_cases e23 : t = 23
  · subst e23
    obtain ⟨w', hX⟩ := lc_reads hE hm h4 h hi kk
    exact ⟨w', jx_tableIn (off := 948) (tgt := 981) dL_33 (by decide) (by decide) rfl (by decide) hX⟩
  by_cases e24 : t = 24
  · subst e24
    obtain ⟨w', hX⟩ := lc_thin hE hm h4 h hi kk
    exact ⟨w', jx_tableIn (off := 991) (tgt := 1024) dL_33 (by decide) (by decide) rfl (by decide) hX⟩
  by_cases e25 : t = 25
  · subst e25
    obtain ⟨w', hX⟩ := lc_way hE hm h4 h hi kk
    exact ⟨w', jx_tableIn (off := 1014) (tgt := 1047) dL_33 (by decide) (by decide) rfl (by decide) hX⟩
  by_cases e26 : t = 26
  · subst e26
    obtain ⟨w', hX⟩ := lc_longest hE hm h4 h hi kk
    exact ⟨w', jx_tableIn (off := 1057) (tgt := 1090) dL_33 (by decide) (by decide) rfl (by decide) hX⟩
  by_cases e27 : t = 27
  · subst e27
    obtain ⟨w', hX⟩ := lc_busiest hE hm h4 h hi kk
    exact ⟨w', jx_tableIn (off := 1090) (tgt := 1123) dL_33 (by decide) (by decide) rfl (by decide) hX⟩
  by_cases e28 : t = 28
  · subst e28
    obtain ⟨w', hX⟩ := lc_gap hE hm h4 h hi kk
    exact ⟨w', jx_tableIn (off := 1133) (tgt := 1166) dL_33 (by decide) (by decide) rfl (by decide) hX⟩
  by_cases e29 : t = 29
  · subst e29
    obtain ⟨w', hX⟩ := lc_held hE hm h4 h hi kk
    exact ⟨w', jx_tableIn (off := 1166) (tgt := 1199) dL_33 (by decide) (by decide) rfl (by decide) hX⟩
  by_cases e30 : t = 30
  · subst e30
    obtain ⟨w', hX⟩ := lc_page hE hm h4 h hi kk
    exact ⟨w', jx_tableIn (off := 1199) (tgt := 1232) dL_33 (by decide) (by decide) rfl (by decide) hX⟩
  by_cases e31 : t = 31
  · subst e31
    obtain ⟨w', hX⟩ := lc_entry hE hm h4 h hi kk
    exact ⟨w', jx_tableIn (off := 1232) (tgt := 1265) dL_33 (by decide) (by decide) rfl (by decide) hX⟩
  by_cases e32 : t = 32
  · subst e32
    obtain ⟨w', hX⟩ := lc_room hE hm h4 h hi kk
    exact ⟨w', jx_tableIn (off := 1275) (tgt := 1308) dL_33 (by decide) (by decide) rfl (by decide) hX⟩
  by_cases e33 : t = 33
  · subst e33
    obtain ⟨w', hX⟩ := lc_hold hE hm h4 h hi kk
    exact ⟨w', jx_tableIn (off := 1298) (tgt := 1331) dL_33 (by decide) (by decide) rfl (by decide) hX⟩
  by_cases e34 : t = 34
  · subst e34
    obtain ⟨w', hX⟩ := lc_restore hE hm h4 h hi kk
    exact ⟨w', jx_tableIn (off := 1321) (tgt := 1354) dL_33 (by decide) (by decide) rfl (by decide) hX⟩
  by_cases e35 : t = 35
  · subst e35
    obtain ⟨w', hX⟩ := lc_count hE hm h4 h hi kk
    exact ⟨w', jx_tableIn (off := 1344) (tgt := 1377) dL_33 (by decide) (by decide) rfl (by decide) hX⟩
  obtain ⟨w', hX⟩ := kk S w (zTop_up hm h)
  exact ⟨w', jx_tableOut (tgt := 1400) dL_33 (Or.inr (by rw [nI_toInt (by omega)]; omega)) (by decide) hX⟩
theorem l_cmp {L j : Nat} (hL : L ≤ 3072) (hj : j ≤ 4000) : nI L - 6 < nI j ↔ L < j + 6 := by
  rw [Int32.lt_iff_toInt_lt, Int32.toInt_sub, nI_toInt (by omega), nI_toInt (by omega), show (6 : Int32).toInt = 6 from rfl, Int.bmod_eq_of_le (by omega) (by omega)]
  omega
theorem l_end {E : jE} {A : (Nat → Nat) × Option Nat} {b L j : Nat} {xs : Nat → Int32} {w : jw} (hL : L ≤ 3072) (hj : j ≤ 4000) (h : L < j + 6) : jX E (m_L A b L xs) 40 18 (lls E b (nI j)) [] w (some (.int 1)) w := by
  refine jx_iload_n dL_18 rfl ?_
  refine jx_aload_n dL_19 rfl ?_
  refine jx_scl dL_20 ?_
  refine jx_bipush (v := 6) dL_21 (by decide) ?_
  refine jx_isub dL_23 ?_
  refine jx_icmp_gt (tgt := 1406) dL_24 (by decide) (fun _ => ?_) (fun q => absurd ((l_cmp hL hj).mpr h) q)
  refine jx_iconst (v := 1) dL_1406 (by decide) ?_
  exact jx_iret dL_1407 rfl rfl
theorem l_loop {E : jE} (hE : jfull E) {A : (Nat → Nat) × Option Nat} {b L : Nat} {xs : Nat → Int32} (hL : L ≤ 3072) : ∀ (n j m : Nat) (S : zS) (w : jw), L < j + 6 * n → j ≤ 4000 → 401 ≤ m → m + n ≤ 2900 → zTop m S w → ∃ w', jX E (m_L A b L xs) 40 18 (lls E b (nI j)) [] w (some (.int 1)) w' := by
  intro n
  induction n with
  | zero => exact fun j m S w h1 h2 h3 h4 h5 => ⟨w, l_end hL h2 (by omega)⟩
  | succ n ih =>
    intro j m S w h1 h2 h3 h4 h5
    by_cases hg : L < j + 6
    · exact ⟨w, l_end hL h2 hg⟩
    · have hi : ∀ n : Int32, 0 ≤ n → n ≤ 5 → vp_in (nI j + n) L := by
        intro n n1 n2
        obtain ⟨t, t1, rfl⟩ := nI_of2 (x := n) (M := 5) (n := 5) rfl (Int32.not_lt.mpr n1) n2
        rw [nI_add]
        exact nI_in (by omega) (by omega)
      obtain ⟨w', hX⟩ := l_body (A := A) (b := b) (L := L) (xs := xs) (i := nI j) (y := xs (nI j).toNatClampNeg) hE (m := m) (by omega) h3 h5 hi (fun S' w2 hz => by
        obtain ⟨w', hY⟩ := ih (j + 6) (m + 1) S' w2 (by omega) (by omega) (by omega) (by omega) hz
        refine ⟨w', ?_⟩
        refine jx_iinc (v := nI (j + 6)) (ls' := lls E b (nI (j + 6))) dL_1400 rfl (nI_add j 6) (show 3 < 4 by decide) rfl ?_
        exact jx_goto (tgt := 18) dL_1403 (by decide) hY)
      refine ⟨w', ?_⟩
      refine jx_iload_n dL_18 rfl ?_
      refine jx_aload_n dL_19 rfl ?_
      refine jx_scl dL_20 ?_
      refine jx_bipush (v := 6) dL_21 (by decide) ?_
      refine jx_isub dL_23 ?_
      refine jx_icmp_gt (tgt := 1406) dL_24 (by decide) (fun q => absurd ((l_cmp hL h2).mp q) hg) (fun _ => ?_)
      refine jx_aload_n dL_27 rfl ?_
      refine jx_iload_n dL_28 rfl ?_
      refine jx_scr dL_29 (nI_in (by omega) (by omega)) ?_
      refine jx_bipush (v := 63) dL_30 (by decide) ?_
      exact jx_iand dL_32 hX
