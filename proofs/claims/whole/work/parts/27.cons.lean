def f_X6_reset_c (a1 : Int32) (w : jw) : Option (jw) := jl (jsetI w 18 8 a1) fun w1 => jl (jsetR w1 19 (rcut (w1.2.2.2 19) 0)) fun w2 => jl (jsetR w2 21 (rcut (w2.2.2.2 21) 0)) fun w3 => jl (jsetR w3 23 (rcut (w3.2.2.2 23) 0)) fun w4 => jl (jsetR w4 25 (rcut (w4.2.2.2 25) 0)) fun w5 => jl (jsetR w5 27 (rcut (w5.2.2.2 27) 0)) fun w6 => jl (jsetR w6 29 (rcut (w6.2.2.2 29) 0)) fun w7 => jl (jsetR w7 31 (rcut (w7.2.2.2 31) 0)) fun w8 => jl (jsetR w8 33 (rcut (w8.2.2.2 33) 0)) fun w9 => some w9
set_option maxRecDepth 20000 in
set_option maxHeartbeats 2000000 in
theorem s_X6_reset_c {E : jE} {a1 : Int32} {w w' : jw} (hf : f_X6_reset_c a1 w = some w') : jC E m_X6_reset 1 [.ref (E.2.2.2 + 18), .int a1] w none w' := by
  refine jC_of (ls := [(0, .ref (E.2.2.2 + 18)), (1, .int a1)]) (by decide) rfl (fun _ => trivial) (Nat.le_of_ble_eq_true rfl) rfl rfl ?_
  unfold f_X6_reset_c at hf
  refine jx_aload_n dX6_reset_0 rfl ?_
  refine jx_iload_n dX6_reset_1 rfl ?_
  refine jx_puti dX6_reset_2 fp_X6_41 kj_18 sr_18_8 rfl rfl ?_
  obtain ⟨w1, hw1, hf⟩ := jl_inv hf
  refine jx_nw hw1 ?_
  refine jx_aload_n dX6_reset_5 rfl ?_
  refine jx_getr dX6_reset_6 fl_X6_14 kj_18 sr_18_0 ?_
  refine jx_iconst (v := 0) dX6_reset_9 (by decide) ?_
  refine jx_cVv (a := 19) (As := [.int 0]) (rest := []) dX6_reset_10 ml_X6_45 mv_X8_shorten (c_row_shorten (k := 0) kj_19 (by decide)) rfl rfl jc_19 (by decide) (Nat.le_of_ble_eq_true rfl) ?_
  obtain ⟨w2, hw2, hf⟩ := jl_inv hf
  refine jx_nw hw2 ?_
  refine jx_aload_n dX6_reset_13 rfl ?_
  refine jx_getr dX6_reset_14 fl_X6_20 kj_18 sr_18_1 ?_
  refine jx_iconst (v := 0) dX6_reset_17 (by decide) ?_
  refine jx_cVv (a := 21) (As := [.int 0]) (rest := []) dX6_reset_18 ml_X6_45 mv_X8_shorten (c_row_shorten (k := 0) kj_21 (by decide)) rfl rfl jc_21 (by decide) (Nat.le_of_ble_eq_true rfl) ?_
  obtain ⟨w3, hw3, hf⟩ := jl_inv hf
  refine jx_nw hw3 ?_
  refine jx_aload_n dX6_reset_21 rfl ?_
  refine jx_getr dX6_reset_22 fl_X6_23 kj_18 sr_18_2 ?_
  refine jx_iconst (v := 0) dX6_reset_25 (by decide) ?_
  refine jx_cVv (a := 23) (As := [.int 0]) (rest := []) dX6_reset_26 ml_X6_45 mv_X8_shorten (c_row_shorten (k := 0) kj_23 (by decide)) rfl rfl jc_23 (by decide) (Nat.le_of_ble_eq_true rfl) ?_
  obtain ⟨w4, hw4, hf⟩ := jl_inv hf
  refine jx_nw hw4 ?_
  refine jx_aload_n dX6_reset_29 rfl ?_
  refine jx_getr dX6_reset_30 fl_X6_26 kj_18 sr_18_3 ?_
  refine jx_iconst (v := 0) dX6_reset_33 (by decide) ?_
  refine jx_cVv (a := 25) (As := [.int 0]) (rest := []) dX6_reset_34 ml_X6_45 mv_X8_shorten (c_row_shorten (k := 0) kj_25 (by decide)) rfl rfl jc_25 (by decide) (Nat.le_of_ble_eq_true rfl) ?_
  obtain ⟨w5, hw5, hf⟩ := jl_inv hf
  refine jx_nw hw5 ?_
  refine jx_aload_n dX6_reset_37 rfl ?_
  refine jx_getr dX6_reset_38 fl_X6_29 kj_18 sr_18_4 ?_
  refine jx_iconst (v := 0) dX6_reset_41 (by decide) ?_
  refine jx_cVv (a := 27) (As := [.int 0]) (rest := []) dX6_reset_42 ml_X6_45 mv_X8_shorten (c_row_shorten (k := 0) kj_27 (by decide)) rfl rfl jc_27 (by decide) (Nat.le_of_ble_eq_true rfl) ?_
  obtain ⟨w6, hw6, hf⟩ := jl_inv hf
  refine jx_nw hw6 ?_
  refine jx_aload_n dX6_reset_45 rfl ?_
  refine jx_getr dX6_reset_46 fl_X6_32 kj_18 sr_18_5 ?_
  refine jx_iconst (v := 0) dX6_reset_49 (by decide) ?_
  refine jx_cVv (a := 29) (As := [.int 0]) (rest := []) dX6_reset_50 ml_X6_45 mv_X8_shorten (c_row_shorten (k := 0) kj_29 (by decide)) rfl rfl jc_29 (by decide) (Nat.le_of_ble_eq_true rfl) ?_
  obtain ⟨w7, hw7, hf⟩ := jl_inv hf
  refine jx_nw hw7 ?_
  refine jx_aload_n dX6_reset_53 rfl ?_
  refine jx_getr dX6_reset_54 fl_X6_35 kj_18 sr_18_6 ?_
  refine jx_iconst (v := 0) dX6_reset_57 (by decide) ?_
  refine jx_cVv (a := 31) (As := [.int 0]) (rest := []) dX6_reset_58 ml_X6_45 mv_X8_shorten (c_row_shorten (k := 0) kj_31 (by decide)) rfl rfl jc_31 (by decide) (Nat.le_of_ble_eq_true rfl) ?_
  obtain ⟨w8, hw8, hf⟩ := jl_inv hf
  refine jx_nw hw8 ?_
  refine jx_aload_n dX6_reset_61 rfl ?_
  refine jx_getr dX6_reset_62 fl_X6_38 kj_18 sr_18_7 ?_
  refine jx_iconst (v := 0) dX6_reset_65 (by decide) ?_
  refine jx_cVv (a := 33) (As := [.int 0]) (rest := []) dX6_reset_66 ml_X6_45 mv_X8_shorten (c_row_shorten (k := 0) kj_33 (by decide)) rfl rfl jc_33 (by decide) (Nat.le_of_ble_eq_true rfl) ?_
  obtain ⟨w9, hw9, hf⟩ := jl_inv hf
  refine jx_nw hw9 ?_
  cases hf
  exact jx_vret dX6_reset_69 rfl rfl
def f_X2_reset_c  (w : jw) : Option (jw) := jl (jsetI w 35 4 0) fun w1 => jl (jsetR w1 36 (List.replicate 1 (-1))) fun w2 => jl (jsetR w2 38 (List.replicate 1 0)) fun w3 => jl (jsetR w3 40 (List.replicate 1 0)) fun w4 => jl (jsetR w4 42 (List.replicate 1 0)) fun w5 => some w5
set_option maxRecDepth 20000 in
set_option maxHeartbeats 2000000 in
theorem s_X2_reset_c {E : jE}  {w w' : jw} (hf : f_X2_reset_c  w = some w') : jC E m_X2_reset 1 [.ref (E.2.2.2 + 35)] w none w' := by
  refine jC_of (ls := [(0, .ref (E.2.2.2 + 35))]) (by decide) rfl (fun _ => trivial) (Nat.le_of_ble_eq_true rfl) rfl rfl ?_
  unfold f_X2_reset_c at hf
  refine jx_aload_n dX2_reset_0 rfl ?_
  refine jx_iconst (v := 0) dX2_reset_1 (by decide) ?_
  refine jx_puti dX2_reset_2 fp_X2_29 kj_35 sr_35_4 rfl rfl ?_
  obtain ⟨w1, hw1, hf⟩ := jl_inv hf
  refine jx_nw hw1 ?_
  refine jx_aload_n dX2_reset_5 rfl ?_
  refine jx_getr dX2_reset_6 fl_X2_14 kj_35 sr_35_0 ?_
  refine jx_iconst (v := 1) dX2_reset_9 (by decide) ?_
  refine jx_iconst (v := (-1)) dX2_reset_10 (by decide) ?_
  refine jx_cVv (a := 36) (As := [.int 1, .int (-1)]) (rest := []) dX2_reset_11 ml_X2_33 mv_X8_fill (c_row_fill (k := 0) (N := 1) kj_36 (by decide) (Or.inr (by decide))) rfl rfl jc_36 (by decide) (Nat.le_of_ble_eq_true rfl) ?_
  obtain ⟨w2, hw2, hf⟩ := jl_inv hf
  refine jx_nw hw2 ?_
  refine jx_aload_n dX2_reset_14 rfl ?_
  refine jx_getr dX2_reset_15 fl_X2_20 kj_35 sr_35_1 ?_
  refine jx_iconst (v := 1) dX2_reset_18 (by decide) ?_
  refine jx_iconst (v := 0) dX2_reset_19 (by decide) ?_
  refine jx_cVv (a := 38) (As := [.int 1, .int 0]) (rest := []) dX2_reset_20 ml_X2_33 mv_X8_fill (c_row_fill (k := 0) (N := 1) kj_38 (by decide) (Or.inr (by decide))) rfl rfl jc_38 (by decide) (Nat.le_of_ble_eq_true rfl) ?_
  obtain ⟨w3, hw3, hf⟩ := jl_inv hf
  refine jx_nw hw3 ?_
  refine jx_aload_n dX2_reset_23 rfl ?_
  refine jx_getr dX2_reset_24 fl_X2_23 kj_35 sr_35_2 ?_
  refine jx_iconst (v := 1) dX2_reset_27 (by decide) ?_
  refine jx_iconst (v := 0) dX2_reset_28 (by decide) ?_
  refine jx_cVv (a := 40) (As := [.int 1, .int 0]) (rest := []) dX2_reset_29 ml_X2_33 mv_X8_fill (c_row_fill (k := 0) (N := 1) kj_40 (by decide) (Or.inr (by decide))) rfl rfl jc_40 (by decide) (Nat.le_of_ble_eq_true rfl) ?_
  obtain ⟨w4, hw4, hf⟩ := jl_inv hf
  refine jx_nw hw4 ?_
  refine jx_aload_n dX2_reset_32 rfl ?_
  refine jx_getr dX2_reset_33 fl_X2_26 kj_35 sr_35_3 ?_
  refine jx_iconst (v := 1) dX2_reset_36 (by decide) ?_
  refine jx_iconst (v := 0) dX2_reset_37 (by decide) ?_
  refine jx_cVv (a := 42) (As := [.int 1, .int 0]) (rest := []) dX2_reset_38 ml_X2_33 mv_X8_fill (c_row_fill (k := 0) (N := 1) kj_42 (by decide) (Or.inr (by decide))) rfl rfl jc_42 (by decide) (Nat.le_of_ble_eq_true rfl) ?_
  obtain ⟨w5, hw5, hf⟩ := jl_inv hf
  refine jx_nw hw5 ?_
  cases hf
  exact jx_vret dX2_reset_41 rfl rfl
def l_X6_open_c : Nat → Int32 → Int32 → Int32 → jw → Option (Int32 × jw)
  | 0, _, _, _, _ => none
  | n + 1, b1, b2, b3, w => (if (w.1 18 8) ≤ b3 then some ((nI (w.2.2.2 19).length) - 1, w) else jg (decide ((w.2.2.2 27).length < 32)) (jl (jsetR w 27 (w.2.2.2 27 ++ [0])) fun w2 => jg (decide ((w2.2.2.2 29).length < 32)) (jl (jsetR w2 29 (w2.2.2.2 29 ++ [0])) fun w4 => jg (decide ((w4.2.2.2 31).length < 32)) (jl (jsetR w4 31 (w4.2.2.2 31 ++ [0])) fun w6 => jg (decide ((w6.2.2.2 33).length < 32)) (jl (jsetR w6 33 (w6.2.2.2 33 ++ [(-2)])) fun w8 => jl (b3 + 1) fun x10 => (l_X6_open_c n b1 b2 x10 w8))))))
set_option maxRecDepth 20000 in
set_option maxHeartbeats 2000000 in
theorem sl_X6_open_c {E : jE} : ∀ (n : Nat) (b1 : Int32) (b2 : Int32) (b3 : Int32) (w : jw) (v : Int32) (w' : jw), l_X6_open_c n b1 b2 b3 w = some (v, w') → jX E m_X6_open 3 35 [(0, .ref (E.2.2.2 + 18)), (1, .int b1), (2, .int b2), (3, .int b3)] [] w (some (.int v)) w' := by
  intro n
  induction n with
  | zero => intro b1 b2 b3 w v w' hf; cases hf
  | succ n ih =>
    intro b1 b2 b3 w v w' hf
    unfold l_X6_open_c at hf
    refine jx_iload_n dX6_open_35 rfl ?_
    refine jx_aload_n dX6_open_36 rfl ?_
    refine jx_geti dX6_open_37 fl_X6_41 kj_18 sr_18_8 ?_
    refine jx_icmp_ge (tgt := 82) dX6_open_40 (by decide) (fun c1 => ?_) (fun c1 => ?_)
    · rw [if_pos c1] at hf
      refine jx_aload_n dX6_open_82 rfl ?_
      refine jx_getr dX6_open_83 fl_X6_14 kj_18 sr_18_0 ?_
      refine jx_getn dX6_open_86 fl_X6_52 kj_19 (by decide) ?_
      refine jx_iconst (v := 1) dX6_open_89 (by decide) ?_
      refine jx_isub dX6_open_90 ?_
      cases hf
      exact jx_iret dX6_open_91 rfl rfl
    · rw [if_neg c1] at hf
      refine jx_aload_n dX6_open_43 rfl ?_
      refine jx_getr dX6_open_44 fl_X6_29 kj_18 sr_18_4 ?_
      refine jx_iconst (v := 0) dX6_open_47 (by decide) ?_
      obtain ⟨c3, hf⟩ := jg_inv hf
      refine jx_cVv (a := 27) (As := [.int 0]) (rest := []) dX6_open_48 ml_X6_59 mv_X8_add (c_row_add kj_27 (Nat.le_of_lt (Nat.lt_of_lt_of_le (of_decide_eq_true c3) (by decide))) (Or.inr (of_decide_eq_true c3))) rfl rfl jc_27 (by decide) (Nat.le_of_ble_eq_true rfl) ?_
      obtain ⟨w2, hw2, hf⟩ := jl_inv hf
      refine jx_nw hw2 ?_
      refine jx_aload_n dX6_open_51 rfl ?_
      refine jx_getr dX6_open_52 fl_X6_32 kj_18 sr_18_5 ?_
      refine jx_iconst (v := 0) dX6_open_55 (by decide) ?_
      obtain ⟨c5, hf⟩ := jg_inv hf
      refine jx_cVv (a := 29) (As := [.int 0]) (rest := []) dX6_open_56 ml_X6_59 mv_X8_add (c_row_add kj_29 (Nat.le_of_lt (Nat.lt_of_lt_of_le (of_decide_eq_true c5) (by decide))) (Or.inr (of_decide_eq_true c5))) rfl rfl jc_29 (by decide) (Nat.le_of_ble_eq_true rfl) ?_
      obtain ⟨w4, hw4, hf⟩ := jl_inv hf
      refine jx_nw hw4 ?_
      refine jx_aload_n dX6_open_59 rfl ?_
      refine jx_getr dX6_open_60 fl_X6_35 kj_18 sr_18_6 ?_
      refine jx_iconst (v := 0) dX6_open_63 (by decide) ?_
      obtain ⟨c7, hf⟩ := jg_inv hf
      refine jx_cVv (a := 31) (As := [.int 0]) (rest := []) dX6_open_64 ml_X6_59 mv_X8_add (c_row_add kj_31 (Nat.le_of_lt (Nat.lt_of_lt_of_le (of_decide_eq_true c7) (by decide))) (Or.inr (of_decide_eq_true c7))) rfl rfl jc_31 (by decide) (Nat.le_of_ble_eq_true rfl) ?_
      obtain ⟨w6, hw6, hf⟩ := jl_inv hf
      refine jx_nw hw6 ?_
      refine jx_aload_n dX6_open_67 rfl ?_
      refine jx_getr dX6_open_68 fl_X6_38 kj_18 sr_18_7 ?_
      refine jx_bipush (v := (-2)) dX6_open_71 (by decide) ?_
      obtain ⟨c9, hf⟩ := jg_inv hf
      refine jx_cVv (a := 33) (As := [.int (-2)]) (rest := []) dX6_open_73 ml_X6_59 mv_X8_add (c_row_add kj_33 (Nat.le_of_lt (Nat.lt_of_lt_of_le (of_decide_eq_true c9) (by decide))) (Or.inr (of_decide_eq_true c9))) rfl rfl jc_33 (by decide) (Nat.le_of_ble_eq_true rfl) ?_
      obtain ⟨w8, hw8, hf⟩ := jl_inv hf
      refine jx_nw hw8 ?_
      obtain ⟨x10, hx10, hf⟩ := jl_inv hf
      refine jx_iinc (v := x10) (ls' := [(0, .ref (E.2.2.2 + 18)), (1, .int b1), (2, .int b2), (3, .int x10)]) dX6_open_76 rfl (by rw [hx10]; rfl) (by decide) rfl ?_
      refine jx_goto (tgt := 35) dX6_open_79 (by decide) ?_
      exact ih _ _ _ _ _ _ hf
def f_X6_open_c (a1 : Int32) (a2 : Int32) (w : jw) : Option (Int32 × jw) := jg (decide ((w.2.2.2 19).length < 8)) (jl (jsetR w 19 (w.2.2.2 19 ++ [a1])) fun w11 => jg (decide ((w11.2.2.2 21).length < 8)) (jl (jsetR w11 21 (w11.2.2.2 21 ++ [0])) fun w13 => jg (decide ((w13.2.2.2 23).length < 8)) (jl (jsetR w13 23 (w13.2.2.2 23 ++ [a2])) fun w15 => jg (decide ((w15.2.2.2 25).length < 8)) (jl (jsetR w15 25 (w15.2.2.2 25 ++ [(-2)])) fun w17 => (l_X6_open_c jfu a1 a2 0 w17)))))
set_option maxRecDepth 20000 in
set_option maxHeartbeats 2000000 in
theorem s_X6_open_c {E : jE} {a1 : Int32} {a2 : Int32} {w w' : jw} {v : Int32} (hf : f_X6_open_c a1 a2 w = some (v, w')) : jC E m_X6_open 3 [.ref (E.2.2.2 + 18), .int a1, .int a2] w (some (.int v)) w' := by
  refine jC_of (ls := [(0, .ref (E.2.2.2 + 18)), (1, .int a1), (2, .int a2)]) (by decide) rfl (fun _ => trivial) (Nat.le_of_ble_eq_true rfl) rfl ⟨.int, rfl, rfl⟩ ?_
  unfold f_X6_open_c at hf
  refine jx_aload_n dX6_open_0 rfl ?_
  refine jx_getr dX6_open_1 fl_X6_14 kj_18 sr_18_0 ?_
  refine jx_iload_n dX6_open_4 rfl ?_
  obtain ⟨c12, hf⟩ := jg_inv hf
  refine jx_cVv (a := 19) (As := [.int a1]) (rest := []) dX6_open_5 ml_X6_59 mv_X8_add (c_row_add kj_19 (Nat.le_of_lt (Nat.lt_of_lt_of_le (of_decide_eq_true c12) (by decide))) (Or.inr (of_decide_eq_true c12))) rfl rfl jc_19 (by decide) (Nat.le_of_ble_eq_true rfl) ?_
  obtain ⟨w11, hw11, hf⟩ := jl_inv hf
  refine jx_nw hw11 ?_
  refine jx_aload_n dX6_open_8 rfl ?_
  refine jx_getr dX6_open_9 fl_X6_20 kj_18 sr_18_1 ?_
  refine jx_iconst (v := 0) dX6_open_12 (by decide) ?_
  obtain ⟨c14, hf⟩ := jg_inv hf
  refine jx_cVv (a := 21) (As := [.int 0]) (rest := []) dX6_open_13 ml_X6_59 mv_X8_add (c_row_add kj_21 (Nat.le_of_lt (Nat.lt_of_lt_of_le (of_decide_eq_true c14) (by decide))) (Or.inr (of_decide_eq_true c14))) rfl rfl jc_21 (by decide) (Nat.le_of_ble_eq_true rfl) ?_
  obtain ⟨w13, hw13, hf⟩ := jl_inv hf
  refine jx_nw hw13 ?_
  refine jx_aload_n dX6_open_16 rfl ?_
  refine jx_getr dX6_open_17 fl_X6_23 kj_18 sr_18_2 ?_
  refine jx_iload_n dX6_open_20 rfl ?_
  obtain ⟨c16, hf⟩ := jg_inv hf
  refine jx_cVv (a := 23) (As := [.int a2]) (rest := []) dX6_open_21 ml_X6_59 mv_X8_add (c_row_add kj_23 (Nat.le_of_lt (Nat.lt_of_lt_of_le (of_decide_eq_true c16) (by decide))) (Or.inr (of_decide_eq_true c16))) rfl rfl jc_23 (by decide) (Nat.le_of_ble_eq_true rfl) ?_
  obtain ⟨w15, hw15, hf⟩ := jl_inv hf
  refine jx_nw hw15 ?_
  refine jx_aload_n dX6_open_24 rfl ?_
  refine jx_getr dX6_open_25 fl_X6_26 kj_18 sr_18_3 ?_
  refine jx_bipush (v := (-2)) dX6_open_28 (by decide) ?_
  obtain ⟨c18, hf⟩ := jg_inv hf
  refine jx_cVv (a := 25) (As := [.int (-2)]) (rest := []) dX6_open_30 ml_X6_59 mv_X8_add (c_row_add kj_25 (Nat.le_of_lt (Nat.lt_of_lt_of_le (of_decide_eq_true c18) (by decide))) (Or.inr (of_decide_eq_true c18))) rfl rfl jc_25 (by decide) (Nat.le_of_ble_eq_true rfl) ?_
  obtain ⟨w17, hw17, hf⟩ := jl_inv hf
  refine jx_nw hw17 ?_
  refine jx_iconst (v := 0) dX6_open_33 (by decide) ?_
  refine jx_istore_n (ls' := [(0, .ref (E.2.2.2 + 18)), (1, .int a1), (2, .int a2), (3, .int 0)]) dX6_open_34 (by decide) rfl ?_
  exact sl_X6_open_c jfu _ _ _ _ _ _ hf
def f_X9_addRoot_c (a1 : Int32) (a2 : Int32) (w : jw) : Option (jw) := jg (decide ((w.2.2.2 44).length < 8)) (jl (jsetR w 44 (w.2.2.2 44 ++ [a2])) fun w1 => jg (decide ((w1.2.2.2 46).length < 8)) (jl (jsetR w1 46 (w1.2.2.2 46 ++ [a1])) fun w3 => some w3))
set_option maxRecDepth 20000 in
set_option maxHeartbeats 2000000 in
theorem s_X9_addRoot_c {E : jE} {a1 : Int32} {a2 : Int32} {w w' : jw} (hf : f_X9_addRoot_c a1 a2 w = some w') : jC E m_X9_addRoot 3 [.ref (E.2.2.2 + 17), .int a1, .int a2] w none w' := by
  refine jC_of (ls := [(0, .ref (E.2.2.2 + 17)), (1, .int a1), (2, .int a2)]) (by decide) rfl (fun _ => trivial) (Nat.le_of_ble_eq_true rfl) rfl rfl ?_
  unfold f_X9_addRoot_c at hf
  refine jx_aload_n dX9_addRoot_0 rfl ?_
  refine jx_getr dX9_addRoot_1 fl_X9_30 kj_17 sr_17_2 ?_
  refine jx_iload_n dX9_addRoot_4 rfl ?_
  obtain ⟨c2, hf⟩ := jg_inv hf
  refine jx_cVv (a := 44) (As := [.int a2]) (rest := []) dX9_addRoot_5 ml_X9_67 mv_X8_add (c_row_add kj_44 (Nat.le_of_lt (Nat.lt_of_lt_of_le (of_decide_eq_true c2) (by decide))) (Or.inr (of_decide_eq_true c2))) rfl rfl jc_44 (by decide) (Nat.le_of_ble_eq_true rfl) ?_
  obtain ⟨w1, hw1, hf⟩ := jl_inv hf
  refine jx_nw hw1 ?_
  refine jx_aload_n dX9_addRoot_8 rfl ?_
  refine jx_getr dX9_addRoot_9 fl_X9_34 kj_17 sr_17_3 ?_
  refine jx_iload_n dX9_addRoot_12 rfl ?_
  obtain ⟨c4, hf⟩ := jg_inv hf
  refine jx_cVv (a := 46) (As := [.int a1]) (rest := []) dX9_addRoot_13 ml_X9_67 mv_X8_add (c_row_add kj_46 (Nat.le_of_lt (Nat.lt_of_lt_of_le (of_decide_eq_true c4) (by decide))) (Or.inr (of_decide_eq_true c4))) rfl rfl jc_46 (by decide) (Nat.le_of_ble_eq_true rfl) ?_
  obtain ⟨w3, hw3, hf⟩ := jl_inv hf
  refine jx_nw hw3 ?_
  cases hf
  exact jx_vret dX9_addRoot_16 rfl rfl
def f_X9_reset_c (a1 : Int32) (w : jw) : Option (jw) := jbd (f_X6_reset_c a1 w) fun q1 => jbd (f_X2_reset_c  q1) fun q2 => jl (jsetR q2 44 (rcut (q2.2.2.2 44) 0)) fun w3 => jl (jsetR w3 46 (rcut (w3.2.2.2 46) 0)) fun w4 => jbd2 (f_X6_open_c 1 0 w4) fun x6 w7 => jbd (f_X9_addRoot_c x6 0 w7) fun q8 => some q8
set_option maxRecDepth 20000 in
set_option maxHeartbeats 2000000 in
theorem s_X9_reset_c {E : jE} {a1 : Int32} {w w' : jw} (hf : f_X9_reset_c a1 w = some w') : jC E m_X9_reset 4 [.ref (E.2.2.2 + 17), .int a1] w none w' := by
  refine jC_of (ls := [(0, .ref (E.2.2.2 + 17)), (1, .int a1)]) (by decide) rfl (fun _ => trivial) (Nat.le_of_ble_eq_true rfl) rfl rfl ?_
  unfold f_X9_reset_c at hf
  refine jx_aload_n dX9_reset_0 rfl ?_
  refine jx_getr dX9_reset_1 fl_X9_12 kj_17 sr_17_0 ?_
  refine jx_iload_n dX9_reset_4 rfl ?_
  obtain ⟨q1, hq1, hf⟩ := jbd_inv hf
  refine jx_cVv (a := 18) (As := [.int a1]) (rest := []) dX9_reset_5 ml_X9_41 mv_X6_reset (s_X6_reset_c hq1) rfl rfl jc_18 (by decide) (Nat.le_of_ble_eq_true rfl) ?_
  refine jx_aload_n dX9_reset_8 rfl ?_
  refine jx_getr dX9_reset_9 fl_X9_21 kj_17 sr_17_1 ?_
  obtain ⟨q2, hq2, hf⟩ := jbd_inv hf
  refine jx_cVv (a := 35) (As := []) (rest := []) dX9_reset_12 ml_X9_44 mv_X2_reset (s_X2_reset_c hq2) rfl rfl jc_35 (by decide) (Nat.le_of_ble_eq_true rfl) ?_
  refine jx_aload_n dX9_reset_15 rfl ?_
  refine jx_getr dX9_reset_16 fl_X9_30 kj_17 sr_17_2 ?_
  refine jx_iconst (v := 0) dX9_reset_19 (by decide) ?_
  refine jx_cVv (a := 44) (As := [.int 0]) (rest := []) dX9_reset_20 ml_X9_46 mv_X8_shorten (c_row_shorten (k := 0) kj_44 (by decide)) rfl rfl jc_44 (by decide) (Nat.le_of_ble_eq_true rfl) ?_
  obtain ⟨w3, hw3, hf⟩ := jl_inv hf
  refine jx_nw hw3 ?_
  refine jx_aload_n dX9_reset_23 rfl ?_
  refine jx_getr dX9_reset_24 fl_X9_34 kj_17 sr_17_3 ?_
  refine jx_iconst (v := 0) dX9_reset_27 (by decide) ?_
  refine jx_cVv (a := 46) (As := [.int 0]) (rest := []) dX9_reset_28 ml_X9_46 mv_X8_shorten (c_row_shorten (k := 0) kj_46 (by decide)) rfl rfl jc_46 (by decide) (Nat.le_of_ble_eq_true rfl) ?_
  obtain ⟨w4, hw4, hf⟩ := jl_inv hf
  refine jx_nw hw4 ?_
  refine jx_aload_n dX9_reset_31 rfl ?_
  refine jx_aload_n dX9_reset_32 rfl ?_
  refine jx_getr dX9_reset_33 fl_X9_12 kj_17 sr_17_0 ?_
  refine jx_iconst (v := 1) dX9_reset_36 (by decide) ?_
  refine jx_iconst (v := 0) dX9_reset_37 (by decide) ?_
  obtain ⟨x6, w7, hq5, hf⟩ := jbd2_inv hf
  refine jx_cVi (a := 18) (As := [.int 1, .int 0]) (rest := [.ref (E.2.2.2 + 17)]) dX9_reset_38 ml_X9_49 mv_X6_open (s_X6_open_c hq5) rfl rfl jc_18 (by decide) (Nat.le_of_ble_eq_true rfl) ?_
  refine jx_iconst (v := 0) dX9_reset_41 (by decide) ?_
  obtain ⟨q8, hq8, hf⟩ := jbd_inv hf
  refine jx_cVv (a := 17) (As := [.int x6, .int 0]) (rest := []) dX9_reset_42 ml_X9_53 mv_X9_addRoot (s_X9_addRoot_c hq8) rfl rfl jc_17 (by decide) (Nat.le_of_ble_eq_true rfl) ?_
  cases hf
  exact jx_vret dX9_reset_45 rfl rfl
