def l_X9_trace_52 : Nat → Int32 → Int32 → Int32 → Int32 → jw → Option (jw)
  | 0, _, _, _, _, _ => none
  | n + 1, b2, b3, b4, b5, w => (if 40 ≤ b5 then some w else jbd2 (f_X6_isLeaf b4 w) fun x3 w4 => (if (jb x3) = 0 then jbd2 (f_X6_slotToward b4 b2 b3 w4) fun x7 w8 => jl (rat (w8.2.2.2 29) x7 : Int32) fun x9 => jg (decide ((w8.2.2.2 52).length ≤ 4096)) (jl (jsetR w8 52 (w8.2.2.2 52 ++ [x9])) fun w10 => jl (b5 + 1) fun x12 => (l_X9_trace_52 n b2 b3 x9 x12 w10)) else some w4))
set_option maxRecDepth 20000 in
set_option maxHeartbeats 2000000 in
theorem sl_X9_trace_52 {E : jE} (hE : jfull E) : ∀ (n : Nat) (b2 : Int32) (b3 : Int32) (b4 : Int32) (b5 : Int32) (w : jw) (w' : jw), l_X9_trace_52 n b2 b3 b4 b5 w = some w' → jX E m_X9_trace 3 21 [(0, .ref (E.2.2.2 + 17)), (1, .ref (E.2.2.2 + 52)), (2, .int b2), (3, .int b3), (4, .int b4), (5, .int b5)] [] w none w' := by
  intro n
  induction n with
  | zero => intro b2 b3 b4 b5 w w' hf; cases hf
  | succ n ih =>
    intro b2 b3 b4 b5 w w' hf
    unfold l_X9_trace_52 at hf
    refine jx_iload dX9_trace_21 rfl ?_
    refine jx_bipush (v := 40) dX9_trace_23 (by decide) ?_
    refine jx_icmp_ge (tgt := 75) dX9_trace_25 (by decide) (fun c1 => ?_) (fun c1 => ?_)
    · rw [if_pos c1] at hf
      cases hf
      exact jx_vret dX9_trace_75 rfl rfl
    · rw [if_neg c1] at hf
      refine jx_aload_n dX9_trace_28 rfl ?_
      refine jx_getr dX9_trace_29 fl_X9_12 kj_17 sr_17_0 ?_
      refine jx_iload dX9_trace_32 rfl ?_
      obtain ⟨x3, w4, hq2, hf⟩ := jbd2_inv hf
      refine jx_cVi (a := 18) (As := [.int b4]) (rest := []) dX9_trace_34 ml_X9_81 mv_X6_isLeaf (s_X6_isLeaf hE hq2) rfl rfl jc_18 (by decide) (Nat.le_of_ble_eq_true rfl) ?_
      refine jx_if_ne (tgt := 75) dX9_trace_37 (by decide) (fun c5 => ?_) (fun c5 => ?_)
      · rw [if_neg c5] at hf
        cases hf
        exact jx_vret dX9_trace_75 rfl rfl
      · rw [if_pos c5] at hf
        refine jx_aload_n dX9_trace_40 rfl ?_
        refine jx_getr dX9_trace_41 fl_X9_12 kj_17 sr_17_0 ?_
        refine jx_getr dX9_trace_44 fl_X9_85 kj_18 sr_18_5 ?_
        refine jx_aload_n dX9_trace_47 rfl ?_
        refine jx_getr dX9_trace_48 fl_X9_12 kj_17 sr_17_0 ?_
        refine jx_iload dX9_trace_51 rfl ?_
        refine jx_iload_n dX9_trace_53 rfl ?_
        refine jx_iload_n dX9_trace_54 rfl ?_
        obtain ⟨x7, w8, hq6, hf⟩ := jbd2_inv hf
        refine jx_cVi (a := 18) (As := [.int b4, .int b2, .int b3]) (rest := [.ref (E.2.2.2 + 29)]) dX9_trace_55 ml_X9_88 mv_X6_slotToward (s_X6_slotToward hE hq6) rfl rfl jc_18 (by decide) (Nat.le_of_ble_eq_true rfl) ?_
        refine jx_cVi (a := 29) (As := [.int x7]) (rest := []) dX9_trace_58 ml_X9_74 mv_X8_at (c_row_at (k := 0) kj_29 (by decide)) rfl rfl jc_29 (by decide) (Nat.le_of_ble_eq_true rfl) ?_
        obtain ⟨x9, hx9, hf⟩ := jl_inv hf
        refine jx_nm hx9 ?_
        refine jx_istore (ls' := [(0, .ref (E.2.2.2 + 17)), (1, .ref (E.2.2.2 + 52)), (2, .int b2), (3, .int b3), (4, .int x9), (5, .int b5)]) dX9_trace_61 (by decide) rfl ?_
        refine jx_aload_n dX9_trace_63 rfl ?_
        refine jx_iload dX9_trace_64 rfl ?_
        obtain ⟨c11, hf⟩ := jg_inv hf
        refine jx_cVv (a := 52) (As := [.int x9]) (rest := []) dX9_trace_66 ml_X9_67 mv_X8_add (c_row_add kj_52 (of_decide_eq_true c11) (Or.inl hE)) rfl rfl jc_52 (by decide) (Nat.le_of_ble_eq_true rfl) ?_
        obtain ⟨w10, hw10, hf⟩ := jl_inv hf
        refine jx_nw hw10 ?_
        obtain ⟨x12, hx12, hf⟩ := jl_inv hf
        refine jx_iinc (v := x12) (ls' := [(0, .ref (E.2.2.2 + 17)), (1, .ref (E.2.2.2 + 52)), (2, .int b2), (3, .int b3), (4, .int x9), (5, .int x12)]) dX9_trace_69 rfl (by rw [hx12]; rfl) (by decide) rfl ?_
        refine jx_goto (tgt := 21) dX9_trace_72 (by decide) ?_
        exact ih _ _ _ _ _ _ hf
def f_X9_trace_52 (a1 : Int32) (a2 : Int32) (w : jw) : Option (jw) := jl (jsetR w 52 (rcut (w.2.2.2 52) 0)) fun w13 => jbd2 (f_X9_rootAt a2 w13) fun x15 w16 => jg (decide ((w16.2.2.2 52).length ≤ 4096)) (jl (jsetR w16 52 (w16.2.2.2 52 ++ [x15])) fun w17 => (l_X9_trace_52 jfu a1 a2 x15 1 w17))
set_option maxRecDepth 20000 in
set_option maxHeartbeats 2000000 in
theorem s_X9_trace_52 {E : jE} (hE : jfull E) {a1 : Int32} {a2 : Int32} {w w' : jw} (hf : f_X9_trace_52 a1 a2 w = some w') : jC E m_X9_trace 3 [.ref (E.2.2.2 + 17), .ref (E.2.2.2 + 52), .int a1, .int a2] w none w' := by
  refine jC_of (ls := [(0, .ref (E.2.2.2 + 17)), (1, .ref (E.2.2.2 + 52)), (2, .int a1), (3, .int a2)]) (by decide) rfl (fun _ => trivial) (Nat.le_of_ble_eq_true rfl) rfl rfl ?_
  unfold f_X9_trace_52 at hf
  refine jx_aload_n dX9_trace_0 rfl ?_
  refine jx_iconst (v := 0) dX9_trace_1 (by decide) ?_
  refine jx_cVv (a := 52) (As := [.int 0]) (rest := []) dX9_trace_2 ml_X9_46 mv_X8_shorten (c_row_shorten (k := 0) kj_52 (by decide)) rfl rfl jc_52 (by decide) (Nat.le_of_ble_eq_true rfl) ?_
  obtain ⟨w13, hw13, hf⟩ := jl_inv hf
  refine jx_nw hw13 ?_
  refine jx_aload_n dX9_trace_5 rfl ?_
  refine jx_iload_n dX9_trace_6 rfl ?_
  obtain ⟨x15, w16, hq14, hf⟩ := jbd2_inv hf
  refine jx_cVi (a := 17) (As := [.int a2]) (rest := []) dX9_trace_7 ml_X9_78 mv_X9_rootAt (s_X9_rootAt hE hq14) rfl rfl jc_17 (by decide) (Nat.le_of_ble_eq_true rfl) ?_
  refine jx_istore (ls' := [(0, .ref (E.2.2.2 + 17)), (1, .ref (E.2.2.2 + 52)), (2, .int a1), (3, .int a2), (4, .int x15)]) dX9_trace_10 (by decide) rfl ?_
  refine jx_aload_n dX9_trace_12 rfl ?_
  refine jx_iload dX9_trace_13 rfl ?_
  obtain ⟨c18, hf⟩ := jg_inv hf
  refine jx_cVv (a := 52) (As := [.int x15]) (rest := []) dX9_trace_15 ml_X9_67 mv_X8_add (c_row_add kj_52 (of_decide_eq_true c18) (Or.inl hE)) rfl rfl jc_52 (by decide) (Nat.le_of_ble_eq_true rfl) ?_
  obtain ⟨w17, hw17, hf⟩ := jl_inv hf
  refine jx_nw hw17 ?_
  refine jx_iconst (v := 1) dX9_trace_18 (by decide) ?_
  refine jx_istore (ls' := [(0, .ref (E.2.2.2 + 17)), (1, .ref (E.2.2.2 + 52)), (2, .int a1), (3, .int a2), (4, .int x15), (5, .int 1)]) dX9_trace_19 (by decide) rfl ?_
  exact sl_X9_trace_52 hE jfu _ _ _ _ _ _ hf
def l_X9_trace_64 : Nat → Int32 → Int32 → Int32 → Int32 → jw → Option (jw)
  | 0, _, _, _, _, _ => none
  | n + 1, b2, b3, b4, b5, w => (if 40 ≤ b5 then some w else jbd2 (f_X6_isLeaf b4 w) fun x3 w4 => (if (jb x3) = 0 then jbd2 (f_X6_slotToward b4 b2 b3 w4) fun x7 w8 => jl (rat (w8.2.2.2 29) x7 : Int32) fun x9 => jg (decide ((w8.2.2.2 64).length ≤ 4096)) (jl (jsetR w8 64 (w8.2.2.2 64 ++ [x9])) fun w10 => jl (b5 + 1) fun x12 => (l_X9_trace_64 n b2 b3 x9 x12 w10)) else some w4))
set_option maxRecDepth 20000 in
set_option maxHeartbeats 2000000 in
theorem sl_X9_trace_64 {E : jE} (hE : jfull E) : ∀ (n : Nat) (b2 : Int32) (b3 : Int32) (b4 : Int32) (b5 : Int32) (w : jw) (w' : jw), l_X9_trace_64 n b2 b3 b4 b5 w = some w' → jX E m_X9_trace 3 21 [(0, .ref (E.2.2.2 + 17)), (1, .ref (E.2.2.2 + 64)), (2, .int b2), (3, .int b3), (4, .int b4), (5, .int b5)] [] w none w' := by
  intro n
  induction n with
  | zero => intro b2 b3 b4 b5 w w' hf; cases hf
  | succ n ih =>
    intro b2 b3 b4 b5 w w' hf
    unfold l_X9_trace_64 at hf
    refine jx_iload dX9_trace_21 rfl ?_
    refine jx_bipush (v := 40) dX9_trace_23 (by decide) ?_
    refine jx_icmp_ge (tgt := 75) dX9_trace_25 (by decide) (fun c1 => ?_) (fun c1 => ?_)
    · rw [if_pos c1] at hf
      cases hf
      exact jx_vret dX9_trace_75 rfl rfl
    · rw [if_neg c1] at hf
      refine jx_aload_n dX9_trace_28 rfl ?_
      refine jx_getr dX9_trace_29 fl_X9_12 kj_17 sr_17_0 ?_
      refine jx_iload dX9_trace_32 rfl ?_
      obtain ⟨x3, w4, hq2, hf⟩ := jbd2_inv hf
      refine jx_cVi (a := 18) (As := [.int b4]) (rest := []) dX9_trace_34 ml_X9_81 mv_X6_isLeaf (s_X6_isLeaf hE hq2) rfl rfl jc_18 (by decide) (Nat.le_of_ble_eq_true rfl) ?_
      refine jx_if_ne (tgt := 75) dX9_trace_37 (by decide) (fun c5 => ?_) (fun c5 => ?_)
      · rw [if_neg c5] at hf
        cases hf
        exact jx_vret dX9_trace_75 rfl rfl
      · rw [if_pos c5] at hf
        refine jx_aload_n dX9_trace_40 rfl ?_
        refine jx_getr dX9_trace_41 fl_X9_12 kj_17 sr_17_0 ?_
        refine jx_getr dX9_trace_44 fl_X9_85 kj_18 sr_18_5 ?_
        refine jx_aload_n dX9_trace_47 rfl ?_
        refine jx_getr dX9_trace_48 fl_X9_12 kj_17 sr_17_0 ?_
        refine jx_iload dX9_trace_51 rfl ?_
        refine jx_iload_n dX9_trace_53 rfl ?_
        refine jx_iload_n dX9_trace_54 rfl ?_
        obtain ⟨x7, w8, hq6, hf⟩ := jbd2_inv hf
        refine jx_cVi (a := 18) (As := [.int b4, .int b2, .int b3]) (rest := [.ref (E.2.2.2 + 29)]) dX9_trace_55 ml_X9_88 mv_X6_slotToward (s_X6_slotToward hE hq6) rfl rfl jc_18 (by decide) (Nat.le_of_ble_eq_true rfl) ?_
        refine jx_cVi (a := 29) (As := [.int x7]) (rest := []) dX9_trace_58 ml_X9_74 mv_X8_at (c_row_at (k := 0) kj_29 (by decide)) rfl rfl jc_29 (by decide) (Nat.le_of_ble_eq_true rfl) ?_
        obtain ⟨x9, hx9, hf⟩ := jl_inv hf
        refine jx_nm hx9 ?_
        refine jx_istore (ls' := [(0, .ref (E.2.2.2 + 17)), (1, .ref (E.2.2.2 + 64)), (2, .int b2), (3, .int b3), (4, .int x9), (5, .int b5)]) dX9_trace_61 (by decide) rfl ?_
        refine jx_aload_n dX9_trace_63 rfl ?_
        refine jx_iload dX9_trace_64 rfl ?_
        obtain ⟨c11, hf⟩ := jg_inv hf
        refine jx_cVv (a := 64) (As := [.int x9]) (rest := []) dX9_trace_66 ml_X9_67 mv_X8_add (c_row_add kj_64 (of_decide_eq_true c11) (Or.inl hE)) rfl rfl jc_64 (by decide) (Nat.le_of_ble_eq_true rfl) ?_
        obtain ⟨w10, hw10, hf⟩ := jl_inv hf
        refine jx_nw hw10 ?_
        obtain ⟨x12, hx12, hf⟩ := jl_inv hf
        refine jx_iinc (v := x12) (ls' := [(0, .ref (E.2.2.2 + 17)), (1, .ref (E.2.2.2 + 64)), (2, .int b2), (3, .int b3), (4, .int x9), (5, .int x12)]) dX9_trace_69 rfl (by rw [hx12]; rfl) (by decide) rfl ?_
        refine jx_goto (tgt := 21) dX9_trace_72 (by decide) ?_
        exact ih _ _ _ _ _ _ hf
def f_X9_trace_64 (a1 : Int32) (a2 : Int32) (w : jw) : Option (jw) := jl (jsetR w 64 (rcut (w.2.2.2 64) 0)) fun w13 => jbd2 (f_X9_rootAt a2 w13) fun x15 w16 => jg (decide ((w16.2.2.2 64).length ≤ 4096)) (jl (jsetR w16 64 (w16.2.2.2 64 ++ [x15])) fun w17 => (l_X9_trace_64 jfu a1 a2 x15 1 w17))
set_option maxRecDepth 20000 in
set_option maxHeartbeats 2000000 in
theorem s_X9_trace_64 {E : jE} (hE : jfull E) {a1 : Int32} {a2 : Int32} {w w' : jw} (hf : f_X9_trace_64 a1 a2 w = some w') : jC E m_X9_trace 3 [.ref (E.2.2.2 + 17), .ref (E.2.2.2 + 64), .int a1, .int a2] w none w' := by
  refine jC_of (ls := [(0, .ref (E.2.2.2 + 17)), (1, .ref (E.2.2.2 + 64)), (2, .int a1), (3, .int a2)]) (by decide) rfl (fun _ => trivial) (Nat.le_of_ble_eq_true rfl) rfl rfl ?_
  unfold f_X9_trace_64 at hf
  refine jx_aload_n dX9_trace_0 rfl ?_
  refine jx_iconst (v := 0) dX9_trace_1 (by decide) ?_
  refine jx_cVv (a := 64) (As := [.int 0]) (rest := []) dX9_trace_2 ml_X9_46 mv_X8_shorten (c_row_shorten (k := 0) kj_64 (by decide)) rfl rfl jc_64 (by decide) (Nat.le_of_ble_eq_true rfl) ?_
  obtain ⟨w13, hw13, hf⟩ := jl_inv hf
  refine jx_nw hw13 ?_
  refine jx_aload_n dX9_trace_5 rfl ?_
  refine jx_iload_n dX9_trace_6 rfl ?_
  obtain ⟨x15, w16, hq14, hf⟩ := jbd2_inv hf
  refine jx_cVi (a := 17) (As := [.int a2]) (rest := []) dX9_trace_7 ml_X9_78 mv_X9_rootAt (s_X9_rootAt hE hq14) rfl rfl jc_17 (by decide) (Nat.le_of_ble_eq_true rfl) ?_
  refine jx_istore (ls' := [(0, .ref (E.2.2.2 + 17)), (1, .ref (E.2.2.2 + 64)), (2, .int a1), (3, .int a2), (4, .int x15)]) dX9_trace_10 (by decide) rfl ?_
  refine jx_aload_n dX9_trace_12 rfl ?_
  refine jx_iload dX9_trace_13 rfl ?_
  obtain ⟨c18, hf⟩ := jg_inv hf
  refine jx_cVv (a := 64) (As := [.int x15]) (rest := []) dX9_trace_15 ml_X9_67 mv_X8_add (c_row_add kj_64 (of_decide_eq_true c18) (Or.inl hE)) rfl rfl jc_64 (by decide) (Nat.le_of_ble_eq_true rfl) ?_
  obtain ⟨w17, hw17, hf⟩ := jl_inv hf
  refine jx_nw hw17 ?_
  refine jx_iconst (v := 1) dX9_trace_18 (by decide) ?_
  refine jx_istore (ls' := [(0, .ref (E.2.2.2 + 17)), (1, .ref (E.2.2.2 + 64)), (2, .int a1), (3, .int a2), (4, .int x15), (5, .int 1)]) dX9_trace_19 (by decide) rfl ?_
  exact sl_X9_trace_64 hE jfu _ _ _ _ _ _ hf
def l_X3_fillTable_59 : Nat → Int32 → Int32 → jw → Option (jw)
  | 0, _, _, _ => none
  | n + 1, b2, b3, w => (if b2 < b3 then some w else (if (rat (w.2.2.2 38) b3) = 1 then jl (jsetR w 59 (rset (w.2.2.2 59) (rat (w.2.2.2 36) b3) b3)) fun w5 => jl (b3 + 1) fun x6 => (l_X3_fillTable_59 n b2 x6 w5) else jl (jsetR w 59 (rset (w.2.2.2 59) (rat (w.2.2.2 36) b3) (-1))) fun w3 => jl (b3 + 1) fun x4 => (l_X3_fillTable_59 n b2 x4 w3)))
set_option maxRecDepth 20000 in
set_option maxHeartbeats 2000000 in
theorem sl_X3_fillTable_59 {E : jE} (hE : jfull E) : ∀ (n : Nat) (b2 : Int32) (b3 : Int32) (w : jw) (w' : jw), l_X3_fillTable_59 n b2 b3 w = some w' → jX E m_X3_fillTable 1 10 [(0, .ref (E.2.2.2 + 58)), (1, .ref (E.2.2.2 + 59)), (2, .int b2), (3, .int b3)] [] w none w' := by
  intro n
  induction n with
  | zero => intro b2 b3 w w' hf; cases hf
  | succ n ih =>
    intro b2 b3 w w' hf
    unfold l_X3_fillTable_59 at hf
    refine jx_iload_n dX3_fillTable_10 rfl ?_
    refine jx_iload_n dX3_fillTable_11 rfl ?_
    refine jx_icmp_gt (tgt := 56) dX3_fillTable_12 (by decide) (fun c1 => ?_) (fun c1 => ?_)
    · rw [if_pos c1] at hf
      cases hf
      exact jx_vret dX3_fillTable_56 rfl rfl
    · rw [if_neg c1] at hf
      refine jx_aload_n dX3_fillTable_15 rfl ?_
      refine jx_aload_n dX3_fillTable_16 rfl ?_
      refine jx_getr dX3_fillTable_17 fl_X3_9 kj_58 sr_58_0 ?_
      refine jx_getr dX3_fillTable_20 fl_X3_31 kj_35 sr_35_0 ?_
      refine jx_iload_n dX3_fillTable_23 rfl ?_
      refine jx_cVi (a := 36) (As := [.int b3]) (rest := [.ref (E.2.2.2 + 59)]) dX3_fillTable_24 ml_X3_36 mv_X8_at (c_row_at (k := 0) kj_36 (by decide)) rfl rfl jc_36 (by decide) (Nat.le_of_ble_eq_true rfl) ?_
      refine jx_aload_n dX3_fillTable_27 rfl ?_
      refine jx_getr dX3_fillTable_28 fl_X3_9 kj_58 sr_58_0 ?_
      refine jx_getr dX3_fillTable_31 fl_X3_40 kj_35 sr_35_1 ?_
      refine jx_iload_n dX3_fillTable_34 rfl ?_
      refine jx_cVi (a := 38) (As := [.int b3]) (rest := [.int (rat (w.2.2.2 36) b3), .ref (E.2.2.2 + 59)]) dX3_fillTable_35 ml_X3_36 mv_X8_at (c_row_at (k := 0) kj_38 (by decide)) rfl rfl jc_38 (by decide) (Nat.le_of_ble_eq_true rfl) ?_
      refine jx_iconst (v := 1) dX3_fillTable_38 (by decide) ?_
      refine jx_icmp_ne (tgt := 46) dX3_fillTable_39 (by decide) (fun c2 => ?_) (fun c2 => ?_)
      · rw [if_neg c2] at hf
        refine jx_iconst (v := (-1)) dX3_fillTable_46 (by decide) ?_
        refine jx_cVv (a := 59) (As := [.int (rat (w.2.2.2 36) b3), .int (-1)]) (rest := []) dX3_fillTable_47 ml_X3_43 mv_X8_change (c_row_change (k := 0) kj_59 (by decide)) rfl rfl jc_59 (by decide) (Nat.le_of_ble_eq_true rfl) ?_
        obtain ⟨w3, hw3, hf⟩ := jl_inv hf
        refine jx_nw hw3 ?_
        obtain ⟨x4, hx4, hf⟩ := jl_inv hf
        refine jx_iinc (v := x4) (ls' := [(0, .ref (E.2.2.2 + 58)), (1, .ref (E.2.2.2 + 59)), (2, .int b2), (3, .int x4)]) dX3_fillTable_50 rfl (by rw [hx4]; rfl) (by decide) rfl ?_
        refine jx_goto (tgt := 10) dX3_fillTable_53 (by decide) ?_
        exact ih _ _ _ _ hf
      · rw [if_pos c2] at hf
        refine jx_iload_n dX3_fillTable_42 rfl ?_
        refine jx_goto (tgt := 47) dX3_fillTable_43 (by decide) ?_
        refine jx_cVv (a := 59) (As := [.int (rat (w.2.2.2 36) b3), .int b3]) (rest := []) dX3_fillTable_47 ml_X3_43 mv_X8_change (c_row_change (k := 0) kj_59 (by decide)) rfl rfl jc_59 (by decide) (Nat.le_of_ble_eq_true rfl) ?_
        obtain ⟨w5, hw5, hf⟩ := jl_inv hf
        refine jx_nw hw5 ?_
        obtain ⟨x6, hx6, hf⟩ := jl_inv hf
        refine jx_iinc (v := x6) (ls' := [(0, .ref (E.2.2.2 + 58)), (1, .ref (E.2.2.2 + 59)), (2, .int b2), (3, .int x6)]) dX3_fillTable_50 rfl (by rw [hx6]; rfl) (by decide) rfl ?_
        refine jx_goto (tgt := 10) dX3_fillTable_53 (by decide) ?_
        exact ih _ _ _ _ hf
def f_X3_fillTable_59 (a1 : Int32) (w : jw) : Option (jw) := jl (jsetR w 59 (List.replicate 1000 (-1))) fun w7 => (l_X3_fillTable_59 jfu a1 1 w7)
set_option maxRecDepth 20000 in
set_option maxHeartbeats 2000000 in
theorem s_X3_fillTable_59 {E : jE} (hE : jfull E) {a1 : Int32} {w w' : jw} (hf : f_X3_fillTable_59 a1 w = some w') : jC E m_X3_fillTable 1 [.ref (E.2.2.2 + 58), .ref (E.2.2.2 + 59), .int a1] w none w' := by
  refine jC_of (ls := [(0, .ref (E.2.2.2 + 58)), (1, .ref (E.2.2.2 + 59)), (2, .int a1)]) (by decide) rfl (fun _ => trivial) (Nat.le_of_ble_eq_true rfl) rfl rfl ?_
  unfold f_X3_fillTable_59 at hf
  refine jx_aload_n dX3_fillTable_0 rfl ?_
  refine jx_sipush (v := 1000) dX3_fillTable_1 (by decide) ?_
  refine jx_iconst (v := (-1)) dX3_fillTable_4 (by decide) ?_
  refine jx_cVv (a := 59) (As := [.int 1000, .int (-1)]) (rest := []) dX3_fillTable_5 ml_X3_27 mv_X8_fill (c_row_fill (k := 0) (N := 1000) kj_59 (by decide) (Or.inr (by decide))) rfl rfl jc_59 (by decide) (Nat.le_of_ble_eq_true rfl) ?_
  obtain ⟨w7, hw7, hf⟩ := jl_inv hf
  refine jx_nw hw7 ?_
  refine jx_iconst (v := 1) dX3_fillTable_8 (by decide) ?_
  refine jx_istore_n (ls' := [(0, .ref (E.2.2.2 + 58)), (1, .ref (E.2.2.2 + 59)), (2, .int a1), (3, .int 1)]) dX3_fillTable_9 (by decide) rfl ?_
  exact sl_X3_fillTable_59 hE jfu _ _ _ _ hf
def l_X3_fillTable_61 : Nat → Int32 → Int32 → jw → Option (jw)
  | 0, _, _, _ => none
  | n + 1, b2, b3, w => (if b2 < b3 then some w else (if (rat (w.2.2.2 38) b3) = 1 then jl (jsetR w 61 (rset (w.2.2.2 61) (rat (w.2.2.2 36) b3) b3)) fun w5 => jl (b3 + 1) fun x6 => (l_X3_fillTable_61 n b2 x6 w5) else jl (jsetR w 61 (rset (w.2.2.2 61) (rat (w.2.2.2 36) b3) (-1))) fun w3 => jl (b3 + 1) fun x4 => (l_X3_fillTable_61 n b2 x4 w3)))
set_option maxRecDepth 20000 in
set_option maxHeartbeats 2000000 in
theorem sl_X3_fillTable_61 {E : jE} (hE : jfull E) : ∀ (n : Nat) (b2 : Int32) (b3 : Int32) (w : jw) (w' : jw), l_X3_fillTable_61 n b2 b3 w = some w' → jX E m_X3_fillTable 1 10 [(0, .ref (E.2.2.2 + 58)), (1, .ref (E.2.2.2 + 61)), (2, .int b2), (3, .int b3)] [] w none w' := by
  intro n
  induction n with
  | zero => intro b2 b3 w w' hf; cases hf
  | succ n ih =>
    intro b2 b3 w w' hf
    unfold l_X3_fillTable_61 at hf
    refine jx_iload_n dX3_fillTable_10 rfl ?_
    refine jx_iload_n dX3_fillTable_11 rfl ?_
    refine jx_icmp_gt (tgt := 56) dX3_fillTable_12 (by decide) (fun c1 => ?_) (fun c1 => ?_)
    · rw [if_pos c1] at hf
      cases hf
      exact jx_vret dX3_fillTable_56 rfl rfl
    · rw [if_neg c1] at hf
      refine jx_aload_n dX3_fillTable_15 rfl ?_
      refine jx_aload_n dX3_fillTable_16 rfl ?_
      refine jx_getr dX3_fillTable_17 fl_X3_9 kj_58 sr_58_0 ?_
      refine jx_getr dX3_fillTable_20 fl_X3_31 kj_35 sr_35_0 ?_
      refine jx_iload_n dX3_fillTable_23 rfl ?_
      refine jx_cVi (a := 36) (As := [.int b3]) (rest := [.ref (E.2.2.2 + 61)]) dX3_fillTable_24 ml_X3_36 mv_X8_at (c_row_at (k := 0) kj_36 (by decide)) rfl rfl jc_36 (by decide) (Nat.le_of_ble_eq_true rfl) ?_
      refine jx_aload_n dX3_fillTable_27 rfl ?_
      refine jx_getr dX3_fillTable_28 fl_X3_9 kj_58 sr_58_0 ?_
      refine jx_getr dX3_fillTable_31 fl_X3_40 kj_35 sr_35_1 ?_
      refine jx_iload_n dX3_fillTable_34 rfl ?_
      refine jx_cVi (a := 38) (As := [.int b3]) (rest := [.int (rat (w.2.2.2 36) b3), .ref (E.2.2.2 + 61)]) dX3_fillTable_35 ml_X3_36 mv_X8_at (c_row_at (k := 0) kj_38 (by decide)) rfl rfl jc_38 (by decide) (Nat.le_of_ble_eq_true rfl) ?_
      refine jx_iconst (v := 1) dX3_fillTable_38 (by decide) ?_
      refine jx_icmp_ne (tgt := 46) dX3_fillTable_39 (by decide) (fun c2 => ?_) (fun c2 => ?_)
      · rw [if_neg c2] at hf
        refine jx_iconst (v := (-1)) dX3_fillTable_46 (by decide) ?_
        refine jx_cVv (a := 61) (As := [.int (rat (w.2.2.2 36) b3), .int (-1)]) (rest := []) dX3_fillTable_47 ml_X3_43 mv_X8_change (c_row_change (k := 0) kj_61 (by decide)) rfl rfl jc_61 (by decide) (Nat.le_of_ble_eq_true rfl) ?_
        obtain ⟨w3, hw3, hf⟩ := jl_inv hf
        refine jx_nw hw3 ?_
        obtain ⟨x4, hx4, hf⟩ := jl_inv hf
        refine jx_iinc (v := x4) (ls' := [(0, .ref (E.2.2.2 + 58)), (1, .ref (E.2.2.2 + 61)), (2, .int b2), (3, .int x4)]) dX3_fillTable_50 rfl (by rw [hx4]; rfl) (by decide) rfl ?_
        refine jx_goto (tgt := 10) dX3_fillTable_53 (by decide) ?_
        exact ih _ _ _ _ hf
      · rw [if_pos c2] at hf
        refine jx_iload_n dX3_fillTable_42 rfl ?_
        refine jx_goto (tgt := 47) dX3_fillTable_43 (by decide) ?_
        refine jx_cVv (a := 61) (As := [.int (rat (w.2.2.2 36) b3), .int b3]) (rest := []) dX3_fillTable_47 ml_X3_43 mv_X8_change (c_row_change (k := 0) kj_61 (by decide)) rfl rfl jc_61 (by decide) (Nat.le_of_ble_eq_true rfl) ?_
        obtain ⟨w5, hw5, hf⟩ := jl_inv hf
        refine jx_nw hw5 ?_
        obtain ⟨x6, hx6, hf⟩ := jl_inv hf
        refine jx_iinc (v := x6) (ls' := [(0, .ref (E.2.2.2 + 58)), (1, .ref (E.2.2.2 + 61)), (2, .int b2), (3, .int x6)]) dX3_fillTable_50 rfl (by rw [hx6]; rfl) (by decide) rfl ?_
        refine jx_goto (tgt := 10) dX3_fillTable_53 (by decide) ?_
        exact ih _ _ _ _ hf
def f_X3_fillTable_61 (a1 : Int32) (w : jw) : Option (jw) := jl (jsetR w 61 (List.replicate 1000 (-1))) fun w7 => (l_X3_fillTable_61 jfu a1 1 w7)
set_option maxRecDepth 20000 in
set_option maxHeartbeats 2000000 in
theorem s_X3_fillTable_61 {E : jE} (hE : jfull E) {a1 : Int32} {w w' : jw} (hf : f_X3_fillTable_61 a1 w = some w') : jC E m_X3_fillTable 1 [.ref (E.2.2.2 + 58), .ref (E.2.2.2 + 61), .int a1] w none w' := by
  refine jC_of (ls := [(0, .ref (E.2.2.2 + 58)), (1, .ref (E.2.2.2 + 61)), (2, .int a1)]) (by decide) rfl (fun _ => trivial) (Nat.le_of_ble_eq_true rfl) rfl rfl ?_
  unfold f_X3_fillTable_61 at hf
  refine jx_aload_n dX3_fillTable_0 rfl ?_
  refine jx_sipush (v := 1000) dX3_fillTable_1 (by decide) ?_
  refine jx_iconst (v := (-1)) dX3_fillTable_4 (by decide) ?_
  refine jx_cVv (a := 61) (As := [.int 1000, .int (-1)]) (rest := []) dX3_fillTable_5 ml_X3_27 mv_X8_fill (c_row_fill (k := 0) (N := 1000) kj_61 (by decide) (Or.inr (by decide))) rfl rfl jc_61 (by decide) (Nat.le_of_ble_eq_true rfl) ?_
  obtain ⟨w7, hw7, hf⟩ := jl_inv hf
  refine jx_nw hw7 ?_
  refine jx_iconst (v := 1) dX3_fillTable_8 (by decide) ?_
  refine jx_istore_n (ls' := [(0, .ref (E.2.2.2 + 58)), (1, .ref (E.2.2.2 + 61)), (2, .int a1), (3, .int 1)]) dX3_fillTable_9 (by decide) rfl ?_
  exact sl_X3_fillTable_61 hE jfu _ _ _ _ hf
def f_X6_copyFrom_69_17  (w : jw) : Option (jw) := jl (jsetI w 70 8 (w.1 18 8)) fun w1 => jl (jsetR w1 71 (w1.2.2.2 19)) fun w2 => jl (jsetR w2 73 (w2.2.2.2 21)) fun w3 => jl (jsetR w3 75 (w3.2.2.2 23)) fun w4 => jl (jsetR w4 77 (w4.2.2.2 25)) fun w5 => jl (jsetR w5 79 (w5.2.2.2 27)) fun w6 => jl (jsetR w6 81 (w6.2.2.2 29)) fun w7 => jl (jsetR w7 83 (w7.2.2.2 31)) fun w8 => jl (jsetR w8 85 (w8.2.2.2 33)) fun w9 => some w9
set_option maxRecDepth 20000 in
set_option maxHeartbeats 2000000 in
theorem s_X6_copyFrom_69_17 {E : jE} (hE : jfull E)  {w w' : jw} (hf : f_X6_copyFrom_69_17  w = some w') : jC E m_X6_copyFrom 2 [.ref (E.2.2.2 + 70), .ref (E.2.2.2 + 18)] w none w' := by
  refine jC_of (ls := [(0, .ref (E.2.2.2 + 70)), (1, .ref (E.2.2.2 + 18))]) (by decide) rfl (fun _ => trivial) (Nat.le_of_ble_eq_true rfl) rfl rfl ?_
  unfold f_X6_copyFrom_69_17 at hf
  refine jx_aload_n dX6_copyFrom_0 rfl ?_
  refine jx_aload_n dX6_copyFrom_1 rfl ?_
  refine jx_geti dX6_copyFrom_2 fl_X6_41 kj_18 sr_18_8 ?_
  refine jx_puti dX6_copyFrom_5 fp_X6_41 kj_70 sr_70_8 rfl rfl ?_
  obtain ⟨w1, hw1, hf⟩ := jl_inv hf
  refine jx_nw hw1 ?_
  refine jx_aload_n dX6_copyFrom_8 rfl ?_
  refine jx_getr dX6_copyFrom_9 fl_X6_14 kj_70 sr_70_0 ?_
  refine jx_aload_n dX6_copyFrom_12 rfl ?_
  refine jx_getr dX6_copyFrom_13 fl_X6_14 kj_18 sr_18_0 ?_
  refine jx_cVv (a := 71) (As := [.ref (E.2.2.2 + 19)]) (rest := []) dX6_copyFrom_16 ml_X6_48 mv_X8_copyFrom (c_row_copyFrom hE kj_71 kj_19 (by decide)) rfl rfl jc_71 (by decide) (Nat.le_of_ble_eq_true rfl) ?_
  obtain ⟨w2, hw2, hf⟩ := jl_inv hf
  refine jx_nw hw2 ?_
  refine jx_aload_n dX6_copyFrom_19 rfl ?_
  refine jx_getr dX6_copyFrom_20 fl_X6_20 kj_70 sr_70_1 ?_
  refine jx_aload_n dX6_copyFrom_23 rfl ?_
  refine jx_getr dX6_copyFrom_24 fl_X6_20 kj_18 sr_18_1 ?_
  refine jx_cVv (a := 73) (As := [.ref (E.2.2.2 + 21)]) (rest := []) dX6_copyFrom_27 ml_X6_48 mv_X8_copyFrom (c_row_copyFrom hE kj_73 kj_21 (by decide)) rfl rfl jc_73 (by decide) (Nat.le_of_ble_eq_true rfl) ?_
  obtain ⟨w3, hw3, hf⟩ := jl_inv hf
  refine jx_nw hw3 ?_
  refine jx_aload_n dX6_copyFrom_30 rfl ?_
  refine jx_getr dX6_copyFrom_31 fl_X6_23 kj_70 sr_70_2 ?_
  refine jx_aload_n dX6_copyFrom_34 rfl ?_
  refine jx_getr dX6_copyFrom_35 fl_X6_23 kj_18 sr_18_2 ?_
  refine jx_cVv (a := 75) (As := [.ref (E.2.2.2 + 23)]) (rest := []) dX6_copyFrom_38 ml_X6_48 mv_X8_copyFrom (c_row_copyFrom hE kj_75 kj_23 (by decide)) rfl rfl jc_75 (by decide) (Nat.le_of_ble_eq_true rfl) ?_
  obtain ⟨w4, hw4, hf⟩ := jl_inv hf
  refine jx_nw hw4 ?_
  refine jx_aload_n dX6_copyFrom_41 rfl ?_
  refine jx_getr dX6_copyFrom_42 fl_X6_26 kj_70 sr_70_3 ?_
  refine jx_aload_n dX6_copyFrom_45 rfl ?_
  refine jx_getr dX6_copyFrom_46 fl_X6_26 kj_18 sr_18_3 ?_
  refine jx_cVv (a := 77) (As := [.ref (E.2.2.2 + 25)]) (rest := []) dX6_copyFrom_49 ml_X6_48 mv_X8_copyFrom (c_row_copyFrom hE kj_77 kj_25 (by decide)) rfl rfl jc_77 (by decide) (Nat.le_of_ble_eq_true rfl) ?_
  obtain ⟨w5, hw5, hf⟩ := jl_inv hf
  refine jx_nw hw5 ?_
  refine jx_aload_n dX6_copyFrom_52 rfl ?_
  refine jx_getr dX6_copyFrom_53 fl_X6_29 kj_70 sr_70_4 ?_
  refine jx_aload_n dX6_copyFrom_56 rfl ?_
  refine jx_getr dX6_copyFrom_57 fl_X6_29 kj_18 sr_18_4 ?_
  refine jx_cVv (a := 79) (As := [.ref (E.2.2.2 + 27)]) (rest := []) dX6_copyFrom_60 ml_X6_48 mv_X8_copyFrom (c_row_copyFrom hE kj_79 kj_27 (by decide)) rfl rfl jc_79 (by decide) (Nat.le_of_ble_eq_true rfl) ?_
  obtain ⟨w6, hw6, hf⟩ := jl_inv hf
  refine jx_nw hw6 ?_
  refine jx_aload_n dX6_copyFrom_63 rfl ?_
  refine jx_getr dX6_copyFrom_64 fl_X6_32 kj_70 sr_70_5 ?_
  refine jx_aload_n dX6_copyFrom_67 rfl ?_
  refine jx_getr dX6_copyFrom_68 fl_X6_32 kj_18 sr_18_5 ?_
  refine jx_cVv (a := 81) (As := [.ref (E.2.2.2 + 29)]) (rest := []) dX6_copyFrom_71 ml_X6_48 mv_X8_copyFrom (c_row_copyFrom hE kj_81 kj_29 (by decide)) rfl rfl jc_81 (by decide) (Nat.le_of_ble_eq_true rfl) ?_
  obtain ⟨w7, hw7, hf⟩ := jl_inv hf
  refine jx_nw hw7 ?_
  refine jx_aload_n dX6_copyFrom_74 rfl ?_
  refine jx_getr dX6_copyFrom_75 fl_X6_35 kj_70 sr_70_6 ?_
  refine jx_aload_n dX6_copyFrom_78 rfl ?_
  refine jx_getr dX6_copyFrom_79 fl_X6_35 kj_18 sr_18_6 ?_
  refine jx_cVv (a := 83) (As := [.ref (E.2.2.2 + 31)]) (rest := []) dX6_copyFrom_82 ml_X6_48 mv_X8_copyFrom (c_row_copyFrom hE kj_83 kj_31 (by decide)) rfl rfl jc_83 (by decide) (Nat.le_of_ble_eq_true rfl) ?_
  obtain ⟨w8, hw8, hf⟩ := jl_inv hf
  refine jx_nw hw8 ?_
  refine jx_aload_n dX6_copyFrom_85 rfl ?_
  refine jx_getr dX6_copyFrom_86 fl_X6_38 kj_70 sr_70_7 ?_
  refine jx_aload_n dX6_copyFrom_89 rfl ?_
  refine jx_getr dX6_copyFrom_90 fl_X6_38 kj_18 sr_18_7 ?_
  refine jx_cVv (a := 85) (As := [.ref (E.2.2.2 + 33)]) (rest := []) dX6_copyFrom_93 ml_X6_48 mv_X8_copyFrom (c_row_copyFrom hE kj_85 kj_33 (by decide)) rfl rfl jc_85 (by decide) (Nat.le_of_ble_eq_true rfl) ?_
  obtain ⟨w9, hw9, hf⟩ := jl_inv hf
  refine jx_nw hw9 ?_
  cases hf
  exact jx_vret dX6_copyFrom_96 rfl rfl
def f_X2_copyFrom_69_17  (w : jw) : Option (jw) := jl (jsetI w 87 4 (w.1 35 4)) fun w1 => jl (jsetR w1 88 (w1.2.2.2 36)) fun w2 => jl (jsetR w2 90 (w2.2.2.2 38)) fun w3 => jl (jsetR w3 92 (w3.2.2.2 40)) fun w4 => jl (jsetR w4 94 (w4.2.2.2 42)) fun w5 => some w5
set_option maxRecDepth 20000 in
set_option maxHeartbeats 2000000 in
theorem s_X2_copyFrom_69_17 {E : jE} (hE : jfull E)  {w w' : jw} (hf : f_X2_copyFrom_69_17  w = some w') : jC E m_X2_copyFrom 2 [.ref (E.2.2.2 + 87), .ref (E.2.2.2 + 35)] w none w' := by
  refine jC_of (ls := [(0, .ref (E.2.2.2 + 87)), (1, .ref (E.2.2.2 + 35))]) (by decide) rfl (fun _ => trivial) (Nat.le_of_ble_eq_true rfl) rfl rfl ?_
  unfold f_X2_copyFrom_69_17 at hf
  refine jx_aload_n dX2_copyFrom_0 rfl ?_
  refine jx_aload_n dX2_copyFrom_1 rfl ?_
  refine jx_geti dX2_copyFrom_2 fl_X2_29 kj_35 sr_35_4 ?_
  refine jx_puti dX2_copyFrom_5 fp_X2_29 kj_87 sr_87_4 rfl rfl ?_
  obtain ⟨w1, hw1, hf⟩ := jl_inv hf
  refine jx_nw hw1 ?_
  refine jx_aload_n dX2_copyFrom_8 rfl ?_
  refine jx_getr dX2_copyFrom_9 fl_X2_14 kj_87 sr_87_0 ?_
  refine jx_aload_n dX2_copyFrom_12 rfl ?_
  refine jx_getr dX2_copyFrom_13 fl_X2_14 kj_35 sr_35_0 ?_
  refine jx_cVv (a := 88) (As := [.ref (E.2.2.2 + 36)]) (rest := []) dX2_copyFrom_16 ml_X2_37 mv_X8_copyFrom (c_row_copyFrom hE kj_88 kj_36 (by decide)) rfl rfl jc_88 (by decide) (Nat.le_of_ble_eq_true rfl) ?_
  obtain ⟨w2, hw2, hf⟩ := jl_inv hf
  refine jx_nw hw2 ?_
  refine jx_aload_n dX2_copyFrom_19 rfl ?_
  refine jx_getr dX2_copyFrom_20 fl_X2_20 kj_87 sr_87_1 ?_
  refine jx_aload_n dX2_copyFrom_23 rfl ?_
  refine jx_getr dX2_copyFrom_24 fl_X2_20 kj_35 sr_35_1 ?_
  refine jx_cVv (a := 90) (As := [.ref (E.2.2.2 + 38)]) (rest := []) dX2_copyFrom_27 ml_X2_37 mv_X8_copyFrom (c_row_copyFrom hE kj_90 kj_38 (by decide)) rfl rfl jc_90 (by decide) (Nat.le_of_ble_eq_true rfl) ?_
  obtain ⟨w3, hw3, hf⟩ := jl_inv hf
  refine jx_nw hw3 ?_
  refine jx_aload_n dX2_copyFrom_30 rfl ?_
  refine jx_getr dX2_copyFrom_31 fl_X2_23 kj_87 sr_87_2 ?_
  refine jx_aload_n dX2_copyFrom_34 rfl ?_
  refine jx_getr dX2_copyFrom_35 fl_X2_23 kj_35 sr_35_2 ?_
  refine jx_cVv (a := 92) (As := [.ref (E.2.2.2 + 40)]) (rest := []) dX2_copyFrom_38 ml_X2_37 mv_X8_copyFrom (c_row_copyFrom hE kj_92 kj_40 (by decide)) rfl rfl jc_92 (by decide) (Nat.le_of_ble_eq_true rfl) ?_
  obtain ⟨w4, hw4, hf⟩ := jl_inv hf
  refine jx_nw hw4 ?_
  refine jx_aload_n dX2_copyFrom_41 rfl ?_
  refine jx_getr dX2_copyFrom_42 fl_X2_26 kj_87 sr_87_3 ?_
  refine jx_aload_n dX2_copyFrom_45 rfl ?_
  refine jx_getr dX2_copyFrom_46 fl_X2_26 kj_35 sr_35_3 ?_
  refine jx_cVv (a := 94) (As := [.ref (E.2.2.2 + 42)]) (rest := []) dX2_copyFrom_49 ml_X2_37 mv_X8_copyFrom (c_row_copyFrom hE kj_94 kj_42 (by decide)) rfl rfl jc_94 (by decide) (Nat.le_of_ble_eq_true rfl) ?_
  obtain ⟨w5, hw5, hf⟩ := jl_inv hf
  refine jx_nw hw5 ?_
  cases hf
  exact jx_vret dX2_copyFrom_52 rfl rfl
def f_X9_copyFrom_69_17  (w : jw) : Option (jw) := jbd (f_X6_copyFrom_69_17  w) fun q1 => jbd (f_X2_copyFrom_69_17  q1) fun q2 => jl (jsetR q2 96 (q2.2.2.2 44)) fun w3 => jl (jsetR w3 98 (w3.2.2.2 46)) fun w4 => some w4
set_option maxRecDepth 20000 in
set_option maxHeartbeats 2000000 in
theorem s_X9_copyFrom_69_17 {E : jE} (hE : jfull E)  {w w' : jw} (hf : f_X9_copyFrom_69_17  w = some w') : jC E m_X9_copyFrom 3 [.ref (E.2.2.2 + 69), .ref (E.2.2.2 + 17)] w none w' := by
  refine jC_of (ls := [(0, .ref (E.2.2.2 + 69)), (1, .ref (E.2.2.2 + 17))]) (by decide) rfl (fun _ => trivial) (Nat.le_of_ble_eq_true rfl) rfl rfl ?_
  unfold f_X9_copyFrom_69_17 at hf
  refine jx_aload_n dX9_copyFrom_0 rfl ?_
  refine jx_getr dX9_copyFrom_1 fl_X9_12 kj_69 sr_69_0 ?_
  refine jx_aload_n dX9_copyFrom_4 rfl ?_
  refine jx_getr dX9_copyFrom_5 fl_X9_12 kj_17 sr_17_0 ?_
  obtain ⟨q1, hq1, hf⟩ := jbd_inv hf
  refine jx_cVv (a := 70) (As := [.ref (E.2.2.2 + 18)]) (rest := []) dX9_copyFrom_8 ml_X9_57 mv_X6_copyFrom (s_X6_copyFrom_69_17 hE hq1) rfl rfl jc_70 (by decide) (Nat.le_of_ble_eq_true rfl) ?_
  refine jx_aload_n dX9_copyFrom_11 rfl ?_
  refine jx_getr dX9_copyFrom_12 fl_X9_21 kj_69 sr_69_1 ?_
  refine jx_aload_n dX9_copyFrom_15 rfl ?_
  refine jx_getr dX9_copyFrom_16 fl_X9_21 kj_17 sr_17_1 ?_
  obtain ⟨q2, hq2, hf⟩ := jbd_inv hf
  refine jx_cVv (a := 87) (As := [.ref (E.2.2.2 + 35)]) (rest := []) dX9_copyFrom_19 ml_X9_61 mv_X2_copyFrom (s_X2_copyFrom_69_17 hE hq2) rfl rfl jc_87 (by decide) (Nat.le_of_ble_eq_true rfl) ?_
  refine jx_aload_n dX9_copyFrom_22 rfl ?_
  refine jx_getr dX9_copyFrom_23 fl_X9_30 kj_69 sr_69_2 ?_
  refine jx_aload_n dX9_copyFrom_26 rfl ?_
  refine jx_getr dX9_copyFrom_27 fl_X9_30 kj_17 sr_17_2 ?_
  refine jx_cVv (a := 96) (As := [.ref (E.2.2.2 + 44)]) (rest := []) dX9_copyFrom_30 ml_X9_64 mv_X8_copyFrom (c_row_copyFrom hE kj_96 kj_44 (by decide)) rfl rfl jc_96 (by decide) (Nat.le_of_ble_eq_true rfl) ?_
  obtain ⟨w3, hw3, hf⟩ := jl_inv hf
  refine jx_nw hw3 ?_
  refine jx_aload_n dX9_copyFrom_33 rfl ?_
  refine jx_getr dX9_copyFrom_34 fl_X9_34 kj_69 sr_69_3 ?_
  refine jx_aload_n dX9_copyFrom_37 rfl ?_
  refine jx_getr dX9_copyFrom_38 fl_X9_34 kj_17 sr_17_3 ?_
  refine jx_cVv (a := 98) (As := [.ref (E.2.2.2 + 46)]) (rest := []) dX9_copyFrom_41 ml_X9_64 mv_X8_copyFrom (c_row_copyFrom hE kj_98 kj_46 (by decide)) rfl rfl jc_98 (by decide) (Nat.le_of_ble_eq_true rfl) ?_
  obtain ⟨w4, hw4, hf⟩ := jl_inv hf
  refine jx_nw hw4 ?_
  cases hf
  exact jx_vret dX9_copyFrom_44 rfl rfl
def f_X6_copyFrom_100_17  (w : jw) : Option (jw) := jl (jsetI w 101 8 (w.1 18 8)) fun w1 => jl (jsetR w1 102 (w1.2.2.2 19)) fun w2 => jl (jsetR w2 104 (w2.2.2.2 21)) fun w3 => jl (jsetR w3 106 (w3.2.2.2 23)) fun w4 => jl (jsetR w4 108 (w4.2.2.2 25)) fun w5 => jl (jsetR w5 110 (w5.2.2.2 27)) fun w6 => jl (jsetR w6 112 (w6.2.2.2 29)) fun w7 => jl (jsetR w7 114 (w7.2.2.2 31)) fun w8 => jl (jsetR w8 116 (w8.2.2.2 33)) fun w9 => some w9
set_option maxRecDepth 20000 in
set_option maxHeartbeats 2000000 in
theorem s_X6_copyFrom_100_17 {E : jE} (hE : jfull E)  {w w' : jw} (hf : f_X6_copyFrom_100_17  w = some w') : jC E m_X6_copyFrom 2 [.ref (E.2.2.2 + 101), .ref (E.2.2.2 + 18)] w none w' := by
  refine jC_of (ls := [(0, .ref (E.2.2.2 + 101)), (1, .ref (E.2.2.2 + 18))]) (by decide) rfl (fun _ => trivial) (Nat.le_of_ble_eq_true rfl) rfl rfl ?_
  unfold f_X6_copyFrom_100_17 at hf
  refine jx_aload_n dX6_copyFrom_0 rfl ?_
  refine jx_aload_n dX6_copyFrom_1 rfl ?_
  refine jx_geti dX6_copyFrom_2 fl_X6_41 kj_18 sr_18_8 ?_
  refine jx_puti dX6_copyFrom_5 fp_X6_41 kj_101 sr_101_8 rfl rfl ?_
  obtain ⟨w1, hw1, hf⟩ := jl_inv hf
  refine jx_nw hw1 ?_
  refine jx_aload_n dX6_copyFrom_8 rfl ?_
  refine jx_getr dX6_copyFrom_9 fl_X6_14 kj_101 sr_101_0 ?_
  refine jx_aload_n dX6_copyFrom_12 rfl ?_
  refine jx_getr dX6_copyFrom_13 fl_X6_14 kj_18 sr_18_0 ?_
  refine jx_cVv (a := 102) (As := [.ref (E.2.2.2 + 19)]) (rest := []) dX6_copyFrom_16 ml_X6_48 mv_X8_copyFrom (c_row_copyFrom hE kj_102 kj_19 (by decide)) rfl rfl jc_102 (by decide) (Nat.le_of_ble_eq_true rfl) ?_
  obtain ⟨w2, hw2, hf⟩ := jl_inv hf
  refine jx_nw hw2 ?_
  refine jx_aload_n dX6_copyFrom_19 rfl ?_
  refine jx_getr dX6_copyFrom_20 fl_X6_20 kj_101 sr_101_1 ?_
  refine jx_aload_n dX6_copyFrom_23 rfl ?_
  refine jx_getr dX6_copyFrom_24 fl_X6_20 kj_18 sr_18_1 ?_
  refine jx_cVv (a := 104) (As := [.ref (E.2.2.2 + 21)]) (rest := []) dX6_copyFrom_27 ml_X6_48 mv_X8_copyFrom (c_row_copyFrom hE kj_104 kj_21 (by decide)) rfl rfl jc_104 (by decide) (Nat.le_of_ble_eq_true rfl) ?_
  obtain ⟨w3, hw3, hf⟩ := jl_inv hf
  refine jx_nw hw3 ?_
  refine jx_aload_n dX6_copyFrom_30 rfl ?_
  refine jx_getr dX6_copyFrom_31 fl_X6_23 kj_101 sr_101_2 ?_
  refine jx_aload_n dX6_copyFrom_34 rfl ?_
  refine jx_getr dX6_copyFrom_35 fl_X6_23 kj_18 sr_18_2 ?_
  refine jx_cVv (a := 106) (As := [.ref (E.2.2.2 + 23)]) (rest := []) dX6_copyFrom_38 ml_X6_48 mv_X8_copyFrom (c_row_copyFrom hE kj_106 kj_23 (by decide)) rfl rfl jc_106 (by decide) (Nat.le_of_ble_eq_true rfl) ?_
  obtain ⟨w4, hw4, hf⟩ := jl_inv hf
  refine jx_nw hw4 ?_
  refine jx_aload_n dX6_copyFrom_41 rfl ?_
  refine jx_getr dX6_copyFrom_42 fl_X6_26 kj_101 sr_101_3 ?_
  refine jx_aload_n dX6_copyFrom_45 rfl ?_
  refine jx_getr dX6_copyFrom_46 fl_X6_26 kj_18 sr_18_3 ?_
  refine jx_cVv (a := 108) (As := [.ref (E.2.2.2 + 25)]) (rest := []) dX6_copyFrom_49 ml_X6_48 mv_X8_copyFrom (c_row_copyFrom hE kj_108 kj_25 (by decide)) rfl rfl jc_108 (by decide) (Nat.le_of_ble_eq_true rfl) ?_
  obtain ⟨w5, hw5, hf⟩ := jl_inv hf
  refine jx_nw hw5 ?_
  refine jx_aload_n dX6_copyFrom_52 rfl ?_
  refine jx_getr dX6_copyFrom_53 fl_X6_29 kj_101 sr_101_4 ?_
  refine jx_aload_n dX6_copyFrom_56 rfl ?_
  refine jx_getr dX6_copyFrom_57 fl_X6_29 kj_18 sr_18_4 ?_
  refine jx_cVv (a := 110) (As := [.ref (E.2.2.2 + 27)]) (rest := []) dX6_copyFrom_60 ml_X6_48 mv_X8_copyFrom (c_row_copyFrom hE kj_110 kj_27 (by decide)) rfl rfl jc_110 (by decide) (Nat.le_of_ble_eq_true rfl) ?_
  obtain ⟨w6, hw6, hf⟩ := jl_inv hf
  refine jx_nw hw6 ?_
  refine jx_aload_n dX6_copyFrom_63 rfl ?_
  refine jx_getr dX6_copyFrom_64 fl_X6_32 kj_101 sr_101_5 ?_
  refine jx_aload_n dX6_copyFrom_67 rfl ?_
  refine jx_getr dX6_copyFrom_68 fl_X6_32 kj_18 sr_18_5 ?_
  refine jx_cVv (a := 112) (As := [.ref (E.2.2.2 + 29)]) (rest := []) dX6_copyFrom_71 ml_X6_48 mv_X8_copyFrom (c_row_copyFrom hE kj_112 kj_29 (by decide)) rfl rfl jc_112 (by decide) (Nat.le_of_ble_eq_true rfl) ?_
  obtain ⟨w7, hw7, hf⟩ := jl_inv hf
  refine jx_nw hw7 ?_
  refine jx_aload_n dX6_copyFrom_74 rfl ?_
  refine jx_getr dX6_copyFrom_75 fl_X6_35 kj_101 sr_101_6 ?_
  refine jx_aload_n dX6_copyFrom_78 rfl ?_
  refine jx_getr dX6_copyFrom_79 fl_X6_35 kj_18 sr_18_6 ?_
  refine jx_cVv (a := 114) (As := [.ref (E.2.2.2 + 31)]) (rest := []) dX6_copyFrom_82 ml_X6_48 mv_X8_copyFrom (c_row_copyFrom hE kj_114 kj_31 (by decide)) rfl rfl jc_114 (by decide) (Nat.le_of_ble_eq_true rfl) ?_
  obtain ⟨w8, hw8, hf⟩ := jl_inv hf
  refine jx_nw hw8 ?_
  refine jx_aload_n dX6_copyFrom_85 rfl ?_
  refine jx_getr dX6_copyFrom_86 fl_X6_38 kj_101 sr_101_7 ?_
  refine jx_aload_n dX6_copyFrom_89 rfl ?_
  refine jx_getr dX6_copyFrom_90 fl_X6_38 kj_18 sr_18_7 ?_
  refine jx_cVv (a := 116) (As := [.ref (E.2.2.2 + 33)]) (rest := []) dX6_copyFrom_93 ml_X6_48 mv_X8_copyFrom (c_row_copyFrom hE kj_116 kj_33 (by decide)) rfl rfl jc_116 (by decide) (Nat.le_of_ble_eq_true rfl) ?_
  obtain ⟨w9, hw9, hf⟩ := jl_inv hf
  refine jx_nw hw9 ?_
  cases hf
  exact jx_vret dX6_copyFrom_96 rfl rfl
def f_X2_copyFrom_100_17  (w : jw) : Option (jw) := jl (jsetI w 118 4 (w.1 35 4)) fun w1 => jl (jsetR w1 119 (w1.2.2.2 36)) fun w2 => jl (jsetR w2 121 (w2.2.2.2 38)) fun w3 => jl (jsetR w3 123 (w3.2.2.2 40)) fun w4 => jl (jsetR w4 125 (w4.2.2.2 42)) fun w5 => some w5
set_option maxRecDepth 20000 in
set_option maxHeartbeats 2000000 in
theorem s_X2_copyFrom_100_17 {E : jE} (hE : jfull E)  {w w' : jw} (hf : f_X2_copyFrom_100_17  w = some w') : jC E m_X2_copyFrom 2 [.ref (E.2.2.2 + 118), .ref (E.2.2.2 + 35)] w none w' := by
  refine jC_of (ls := [(0, .ref (E.2.2.2 + 118)), (1, .ref (E.2.2.2 + 35))]) (by decide) rfl (fun _ => trivial) (Nat.le_of_ble_eq_true rfl) rfl rfl ?_
  unfold f_X2_copyFrom_100_17 at hf
  refine jx_aload_n dX2_copyFrom_0 rfl ?_
  refine jx_aload_n dX2_copyFrom_1 rfl ?_
  refine jx_geti dX2_copyFrom_2 fl_X2_29 kj_35 sr_35_4 ?_
  refine jx_puti dX2_copyFrom_5 fp_X2_29 kj_118 sr_118_4 rfl rfl ?_
  obtain ⟨w1, hw1, hf⟩ := jl_inv hf
  refine jx_nw hw1 ?_
  refine jx_aload_n dX2_copyFrom_8 rfl ?_
  refine jx_getr dX2_copyFrom_9 fl_X2_14 kj_118 sr_118_0 ?_
  refine jx_aload_n dX2_copyFrom_12 rfl ?_
  refine jx_getr dX2_copyFrom_13 fl_X2_14 kj_35 sr_35_0 ?_
  refine jx_cVv (a := 119) (As := [.ref (E.2.2.2 + 36)]) (rest := []) dX2_copyFrom_16 ml_X2_37 mv_X8_copyFrom (c_row_copyFrom hE kj_119 kj_36 (by decide)) rfl rfl jc_119 (by decide) (Nat.le_of_ble_eq_true rfl) ?_
  obtain ⟨w2, hw2, hf⟩ := jl_inv hf
  refine jx_nw hw2 ?_
  refine jx_aload_n dX2_copyFrom_19 rfl ?_
  refine jx_getr dX2_copyFrom_20 fl_X2_20 kj_118 sr_118_1 ?_
  refine jx_aload_n dX2_copyFrom_23 rfl ?_
  refine jx_getr dX2_copyFrom_24 fl_X2_20 kj_35 sr_35_1 ?_
  refine jx_cVv (a := 121) (As := [.ref (E.2.2.2 + 38)]) (rest := []) dX2_copyFrom_27 ml_X2_37 mv_X8_copyFrom (c_row_copyFrom hE kj_121 kj_38 (by decide)) rfl rfl jc_121 (by decide) (Nat.le_of_ble_eq_true rfl) ?_
  obtain ⟨w3, hw3, hf⟩ := jl_inv hf
  refine jx_nw hw3 ?_
  refine jx_aload_n dX2_copyFrom_30 rfl ?_
  refine jx_getr dX2_copyFrom_31 fl_X2_23 kj_118 sr_118_2 ?_
  refine jx_aload_n dX2_copyFrom_34 rfl ?_
  refine jx_getr dX2_copyFrom_35 fl_X2_23 kj_35 sr_35_2 ?_
  refine jx_cVv (a := 123) (As := [.ref (E.2.2.2 + 40)]) (rest := []) dX2_copyFrom_38 ml_X2_37 mv_X8_copyFrom (c_row_copyFrom hE kj_123 kj_40 (by decide)) rfl rfl jc_123 (by decide) (Nat.le_of_ble_eq_true rfl) ?_
  obtain ⟨w4, hw4, hf⟩ := jl_inv hf
  refine jx_nw hw4 ?_
  refine jx_aload_n dX2_copyFrom_41 rfl ?_
  refine jx_getr dX2_copyFrom_42 fl_X2_26 kj_118 sr_118_3 ?_
  refine jx_aload_n dX2_copyFrom_45 rfl ?_
  refine jx_getr dX2_copyFrom_46 fl_X2_26 kj_35 sr_35_3 ?_
  refine jx_cVv (a := 125) (As := [.ref (E.2.2.2 + 42)]) (rest := []) dX2_copyFrom_49 ml_X2_37 mv_X8_copyFrom (c_row_copyFrom hE kj_125 kj_42 (by decide)) rfl rfl jc_125 (by decide) (Nat.le_of_ble_eq_true rfl) ?_
  obtain ⟨w5, hw5, hf⟩ := jl_inv hf
  refine jx_nw hw5 ?_
  cases hf
  exact jx_vret dX2_copyFrom_52 rfl rfl
def f_X9_copyFrom_100_17  (w : jw) : Option (jw) := jbd (f_X6_copyFrom_100_17  w) fun q1 => jbd (f_X2_copyFrom_100_17  q1) fun q2 => jl (jsetR q2 127 (q2.2.2.2 44)) fun w3 => jl (jsetR w3 129 (w3.2.2.2 46)) fun w4 => some w4
set_option maxRecDepth 20000 in
set_option maxHeartbeats 2000000 in
theorem s_X9_copyFrom_100_17 {E : jE} (hE : jfull E)  {w w' : jw} (hf : f_X9_copyFrom_100_17  w = some w') : jC E m_X9_copyFrom 3 [.ref (E.2.2.2 + 100), .ref (E.2.2.2 + 17)] w none w' := by
  refine jC_of (ls := [(0, .ref (E.2.2.2 + 100)), (1, .ref (E.2.2.2 + 17))]) (by decide) rfl (fun _ => trivial) (Nat.le_of_ble_eq_true rfl) rfl rfl ?_
  unfold f_X9_copyFrom_100_17 at hf
  refine jx_aload_n dX9_copyFrom_0 rfl ?_
  refine jx_getr dX9_copyFrom_1 fl_X9_12 kj_100 sr_100_0 ?_
  refine jx_aload_n dX9_copyFrom_4 rfl ?_
  refine jx_getr dX9_copyFrom_5 fl_X9_12 kj_17 sr_17_0 ?_
  obtain ⟨q1, hq1, hf⟩ := jbd_inv hf
  refine jx_cVv (a := 101) (As := [.ref (E.2.2.2 + 18)]) (rest := []) dX9_copyFrom_8 ml_X9_57 mv_X6_copyFrom (s_X6_copyFrom_100_17 hE hq1) rfl rfl jc_101 (by decide) (Nat.le_of_ble_eq_true rfl) ?_
  refine jx_aload_n dX9_copyFrom_11 rfl ?_
  refine jx_getr dX9_copyFrom_12 fl_X9_21 kj_100 sr_100_1 ?_
  refine jx_aload_n dX9_copyFrom_15 rfl ?_
  refine jx_getr dX9_copyFrom_16 fl_X9_21 kj_17 sr_17_1 ?_
  obtain ⟨q2, hq2, hf⟩ := jbd_inv hf
  refine jx_cVv (a := 118) (As := [.ref (E.2.2.2 + 35)]) (rest := []) dX9_copyFrom_19 ml_X9_61 mv_X2_copyFrom (s_X2_copyFrom_100_17 hE hq2) rfl rfl jc_118 (by decide) (Nat.le_of_ble_eq_true rfl) ?_
  refine jx_aload_n dX9_copyFrom_22 rfl ?_
  refine jx_getr dX9_copyFrom_23 fl_X9_30 kj_100 sr_100_2 ?_
  refine jx_aload_n dX9_copyFrom_26 rfl ?_
  refine jx_getr dX9_copyFrom_27 fl_X9_30 kj_17 sr_17_2 ?_
  refine jx_cVv (a := 127) (As := [.ref (E.2.2.2 + 44)]) (rest := []) dX9_copyFrom_30 ml_X9_64 mv_X8_copyFrom (c_row_copyFrom hE kj_127 kj_44 (by decide)) rfl rfl jc_127 (by decide) (Nat.le_of_ble_eq_true rfl) ?_
  obtain ⟨w3, hw3, hf⟩ := jl_inv hf
  refine jx_nw hw3 ?_
  refine jx_aload_n dX9_copyFrom_33 rfl ?_
  refine jx_getr dX9_copyFrom_34 fl_X9_34 kj_100 sr_100_3 ?_
  refine jx_aload_n dX9_copyFrom_37 rfl ?_
  refine jx_getr dX9_copyFrom_38 fl_X9_34 kj_17 sr_17_3 ?_
  refine jx_cVv (a := 129) (As := [.ref (E.2.2.2 + 46)]) (rest := []) dX9_copyFrom_41 ml_X9_64 mv_X8_copyFrom (c_row_copyFrom hE kj_129 kj_46 (by decide)) rfl rfl jc_129 (by decide) (Nat.le_of_ble_eq_true rfl) ?_
  obtain ⟨w4, hw4, hf⟩ := jl_inv hf
  refine jx_nw hw4 ?_
  cases hf
  exact jx_vret dX9_copyFrom_44 rfl rfl
def f_X6_copyFrom_131_17  (w : jw) : Option (jw) := jl (jsetI w 132 8 (w.1 18 8)) fun w1 => jl (jsetR w1 133 (w1.2.2.2 19)) fun w2 => jl (jsetR w2 135 (w2.2.2.2 21)) fun w3 => jl (jsetR w3 137 (w3.2.2.2 23)) fun w4 => jl (jsetR w4 139 (w4.2.2.2 25)) fun w5 => jl (jsetR w5 141 (w5.2.2.2 27)) fun w6 => jl (jsetR w6 143 (w6.2.2.2 29)) fun w7 => jl (jsetR w7 145 (w7.2.2.2 31)) fun w8 => jl (jsetR w8 147 (w8.2.2.2 33)) fun w9 => some w9
set_option maxRecDepth 20000 in
set_option maxHeartbeats 2000000 in
theorem s_X6_copyFrom_131_17 {E : jE} (hE : jfull E)  {w w' : jw} (hf : f_X6_copyFrom_131_17  w = some w') : jC E m_X6_copyFrom 2 [.ref (E.2.2.2 + 132), .ref (E.2.2.2 + 18)] w none w' := by
  refine jC_of (ls := [(0, .ref (E.2.2.2 + 132)), (1, .ref (E.2.2.2 + 18))]) (by decide) rfl (fun _ => trivial) (Nat.le_of_ble_eq_true rfl) rfl rfl ?_
  unfold f_X6_copyFrom_131_17 at hf
  refine jx_aload_n dX6_copyFrom_0 rfl ?_
  refine jx_aload_n dX6_copyFrom_1 rfl ?_
  refine jx_geti dX6_copyFrom_2 fl_X6_41 kj_18 sr_18_8 ?_
  refine jx_puti dX6_copyFrom_5 fp_X6_41 kj_132 sr_132_8 rfl rfl ?_
  obtain ⟨w1, hw1, hf⟩ := jl_inv hf
  refine jx_nw hw1 ?_
  refine jx_aload_n dX6_copyFrom_8 rfl ?_
  refine jx_getr dX6_copyFrom_9 fl_X6_14 kj_132 sr_132_0 ?_
  refine jx_aload_n dX6_copyFrom_12 rfl ?_
  refine jx_getr dX6_copyFrom_13 fl_X6_14 kj_18 sr_18_0 ?_
  refine jx_cVv (a := 133) (As := [.ref (E.2.2.2 + 19)]) (rest := []) dX6_copyFrom_16 ml_X6_48 mv_X8_copyFrom (c_row_copyFrom hE kj_133 kj_19 (by decide)) rfl rfl jc_133 (by decide) (Nat.le_of_ble_eq_true rfl) ?_
  obtain ⟨w2, hw2, hf⟩ := jl_inv hf
  refine jx_nw hw2 ?_
  refine jx_aload_n dX6_copyFrom_19 rfl ?_
  refine jx_getr dX6_copyFrom_20 fl_X6_20 kj_132 sr_132_1 ?_
  refine jx_aload_n dX6_copyFrom_23 rfl ?_
  refine jx_getr dX6_copyFrom_24 fl_X6_20 kj_18 sr_18_1 ?_
  refine jx_cVv (a := 135) (As := [.ref (E.2.2.2 + 21)]) (rest := []) dX6_copyFrom_27 ml_X6_48 mv_X8_copyFrom (c_row_copyFrom hE kj_135 kj_21 (by decide)) rfl rfl jc_135 (by decide) (Nat.le_of_ble_eq_true rfl) ?_
  obtain ⟨w3, hw3, hf⟩ := jl_inv hf
  refine jx_nw hw3 ?_
  refine jx_aload_n dX6_copyFrom_30 rfl ?_
  refine jx_getr dX6_copyFrom_31 fl_X6_23 kj_132 sr_132_2 ?_
  refine jx_aload_n dX6_copyFrom_34 rfl ?_
  refine jx_getr dX6_copyFrom_35 fl_X6_23 kj_18 sr_18_2 ?_
  refine jx_cVv (a := 137) (As := [.ref (E.2.2.2 + 23)]) (rest := []) dX6_copyFrom_38 ml_X6_48 mv_X8_copyFrom (c_row_copyFrom hE kj_137 kj_23 (by decide)) rfl rfl jc_137 (by decide) (Nat.le_of_ble_eq_true rfl) ?_
  obtain ⟨w4, hw4, hf⟩ := jl_inv hf
  refine jx_nw hw4 ?_
  refine jx_aload_n dX6_copyFrom_41 rfl ?_
  refine jx_getr dX6_copyFrom_42 fl_X6_26 kj_132 sr_132_3 ?_
  refine jx_aload_n dX6_copyFrom_45 rfl ?_
  refine jx_getr dX6_copyFrom_46 fl_X6_26 kj_18 sr_18_3 ?_
  refine jx_cVv (a := 139) (As := [.ref (E.2.2.2 + 25)]) (rest := []) dX6_copyFrom_49 ml_X6_48 mv_X8_copyFrom (c_row_copyFrom hE kj_139 kj_25 (by decide)) rfl rfl jc_139 (by decide) (Nat.le_of_ble_eq_true rfl) ?_
  obtain ⟨w5, hw5, hf⟩ := jl_inv hf
  refine jx_nw hw5 ?_
  refine jx_aload_n dX6_copyFrom_52 rfl ?_
  refine jx_getr dX6_copyFrom_53 fl_X6_29 kj_132 sr_132_4 ?_
  refine jx_aload_n dX6_copyFrom_56 rfl ?_
  refine jx_getr dX6_copyFrom_57 fl_X6_29 kj_18 sr_18_4 ?_
  refine jx_cVv (a := 141) (As := [.ref (E.2.2.2 + 27)]) (rest := []) dX6_copyFrom_60 ml_X6_48 mv_X8_copyFrom (c_row_copyFrom hE kj_141 kj_27 (by decide)) rfl rfl jc_141 (by decide) (Nat.le_of_ble_eq_true rfl) ?_
  obtain ⟨w6, hw6, hf⟩ := jl_inv hf
  refine jx_nw hw6 ?_
  refine jx_aload_n dX6_copyFrom_63 rfl ?_
  refine jx_getr dX6_copyFrom_64 fl_X6_32 kj_132 sr_132_5 ?_
  refine jx_aload_n dX6_copyFrom_67 rfl ?_
  refine jx_getr dX6_copyFrom_68 fl_X6_32 kj_18 sr_18_5 ?_
  refine jx_cVv (a := 143) (As := [.ref (E.2.2.2 + 29)]) (rest := []) dX6_copyFrom_71 ml_X6_48 mv_X8_copyFrom (c_row_copyFrom hE kj_143 kj_29 (by decide)) rfl rfl jc_143 (by decide) (Nat.le_of_ble_eq_true rfl) ?_
  obtain ⟨w7, hw7, hf⟩ := jl_inv hf
  refine jx_nw hw7 ?_
  refine jx_aload_n dX6_copyFrom_74 rfl ?_
  refine jx_getr dX6_copyFrom_75 fl_X6_35 kj_132 sr_132_6 ?_
  refine jx_aload_n dX6_copyFrom_78 rfl ?_
  refine jx_getr dX6_copyFrom_79 fl_X6_35 kj_18 sr_18_6 ?_
  refine jx_cVv (a := 145) (As := [.ref (E.2.2.2 + 31)]) (rest := []) dX6_copyFrom_82 ml_X6_48 mv_X8_copyFrom (c_row_copyFrom hE kj_145 kj_31 (by decide)) rfl rfl jc_145 (by decide) (Nat.le_of_ble_eq_true rfl) ?_
  obtain ⟨w8, hw8, hf⟩ := jl_inv hf
  refine jx_nw hw8 ?_
  refine jx_aload_n dX6_copyFrom_85 rfl ?_
  refine jx_getr dX6_copyFrom_86 fl_X6_38 kj_132 sr_132_7 ?_
  refine jx_aload_n dX6_copyFrom_89 rfl ?_
  refine jx_getr dX6_copyFrom_90 fl_X6_38 kj_18 sr_18_7 ?_
  refine jx_cVv (a := 147) (As := [.ref (E.2.2.2 + 33)]) (rest := []) dX6_copyFrom_93 ml_X6_48 mv_X8_copyFrom (c_row_copyFrom hE kj_147 kj_33 (by decide)) rfl rfl jc_147 (by decide) (Nat.le_of_ble_eq_true rfl) ?_
  obtain ⟨w9, hw9, hf⟩ := jl_inv hf
  refine jx_nw hw9 ?_
  cases hf
  exact jx_vret dX6_copyFrom_96 rfl rfl
def f_X2_copyFrom_131_17  (w : jw) : Option (jw) := jl (jsetI w 149 4 (w.1 35 4)) fun w1 => jl (jsetR w1 150 (w1.2.2.2 36)) fun w2 => jl (jsetR w2 152 (w2.2.2.2 38)) fun w3 => jl (jsetR w3 154 (w3.2.2.2 40)) fun w4 => jl (jsetR w4 156 (w4.2.2.2 42)) fun w5 => some w5
set_option maxRecDepth 20000 in
set_option maxHeartbeats 2000000 in
theorem s_X2_copyFrom_131_17 {E : jE} (hE : jfull E)  {w w' : jw} (hf : f_X2_copyFrom_131_17  w = some w') : jC E m_X2_copyFrom 2 [.ref (E.2.2.2 + 149), .ref (E.2.2.2 + 35)] w none w' := by
  refine jC_of (ls := [(0, .ref (E.2.2.2 + 149)), (1, .ref (E.2.2.2 + 35))]) (by decide) rfl (fun _ => trivial) (Nat.le_of_ble_eq_true rfl) rfl rfl ?_
  unfold f_X2_copyFrom_131_17 at hf
  refine jx_aload_n dX2_copyFrom_0 rfl ?_
  refine jx_aload_n dX2_copyFrom_1 rfl ?_
  refine jx_geti dX2_copyFrom_2 fl_X2_29 kj_35 sr_35_4 ?_
  refine jx_puti dX2_copyFrom_5 fp_X2_29 kj_149 sr_149_4 rfl rfl ?_
  obtain ⟨w1, hw1, hf⟩ := jl_inv hf
  refine jx_nw hw1 ?_
  refine jx_aload_n dX2_copyFrom_8 rfl ?_
  refine jx_getr dX2_copyFrom_9 fl_X2_14 kj_149 sr_149_0 ?_
  refine jx_aload_n dX2_copyFrom_12 rfl ?_
  refine jx_getr dX2_copyFrom_13 fl_X2_14 kj_35 sr_35_0 ?_
  refine jx_cVv (a := 150) (As := [.ref (E.2.2.2 + 36)]) (rest := []) dX2_copyFrom_16 ml_X2_37 mv_X8_copyFrom (c_row_copyFrom hE kj_150 kj_36 (by decide)) rfl rfl jc_150 (by decide) (Nat.le_of_ble_eq_true rfl) ?_
  obtain ⟨w2, hw2, hf⟩ := jl_inv hf
  refine jx_nw hw2 ?_
  refine jx_aload_n dX2_copyFrom_19 rfl ?_
  refine jx_getr dX2_copyFrom_20 fl_X2_20 kj_149 sr_149_1 ?_
  refine jx_aload_n dX2_copyFrom_23 rfl ?_
  refine jx_getr dX2_copyFrom_24 fl_X2_20 kj_35 sr_35_1 ?_
  refine jx_cVv (a := 152) (As := [.ref (E.2.2.2 + 38)]) (rest := []) dX2_copyFrom_27 ml_X2_37 mv_X8_copyFrom (c_row_copyFrom hE kj_152 kj_38 (by decide)) rfl rfl jc_152 (by decide) (Nat.le_of_ble_eq_true rfl) ?_
  obtain ⟨w3, hw3, hf⟩ := jl_inv hf
  refine jx_nw hw3 ?_
  refine jx_aload_n dX2_copyFrom_30 rfl ?_
  refine jx_getr dX2_copyFrom_31 fl_X2_23 kj_149 sr_149_2 ?_
  refine jx_aload_n dX2_copyFrom_34 rfl ?_
  refine jx_getr dX2_copyFrom_35 fl_X2_23 kj_35 sr_35_2 ?_
  refine jx_cVv (a := 154) (As := [.ref (E.2.2.2 + 40)]) (rest := []) dX2_copyFrom_38 ml_X2_37 mv_X8_copyFrom (c_row_copyFrom hE kj_154 kj_40 (by decide)) rfl rfl jc_154 (by decide) (Nat.le_of_ble_eq_true rfl) ?_
  obtain ⟨w4, hw4, hf⟩ := jl_inv hf
  refine jx_nw hw4 ?_
  refine jx_aload_n dX2_copyFrom_41 rfl ?_
  refine jx_getr dX2_copyFrom_42 fl_X2_26 kj_149 sr_149_3 ?_
  refine jx_aload_n dX2_copyFrom_45 rfl ?_
  refine jx_getr dX2_copyFrom_46 fl_X2_26 kj_35 sr_35_3 ?_
  refine jx_cVv (a := 156) (As := [.ref (E.2.2.2 + 42)]) (rest := []) dX2_copyFrom_49 ml_X2_37 mv_X8_copyFrom (c_row_copyFrom hE kj_156 kj_42 (by decide)) rfl rfl jc_156 (by decide) (Nat.le_of_ble_eq_true rfl) ?_
  obtain ⟨w5, hw5, hf⟩ := jl_inv hf
  refine jx_nw hw5 ?_
  cases hf
  exact jx_vret dX2_copyFrom_52 rfl rfl
def f_X9_copyFrom_131_17  (w : jw) : Option (jw) := jbd (f_X6_copyFrom_131_17  w) fun q1 => jbd (f_X2_copyFrom_131_17  q1) fun q2 => jl (jsetR q2 158 (q2.2.2.2 44)) fun w3 => jl (jsetR w3 160 (w3.2.2.2 46)) fun w4 => some w4
set_option maxRecDepth 20000 in
set_option maxHeartbeats 2000000 in
theorem s_X9_copyFrom_131_17 {E : jE} (hE : jfull E)  {w w' : jw} (hf : f_X9_copyFrom_131_17  w = some w') : jC E m_X9_copyFrom 3 [.ref (E.2.2.2 + 131), .ref (E.2.2.2 + 17)] w none w' := by
  refine jC_of (ls := [(0, .ref (E.2.2.2 + 131)), (1, .ref (E.2.2.2 + 17))]) (by decide) rfl (fun _ => trivial) (Nat.le_of_ble_eq_true rfl) rfl rfl ?_
  unfold f_X9_copyFrom_131_17 at hf
  refine jx_aload_n dX9_copyFrom_0 rfl ?_
  refine jx_getr dX9_copyFrom_1 fl_X9_12 kj_131 sr_131_0 ?_
  refine jx_aload_n dX9_copyFrom_4 rfl ?_
  refine jx_getr dX9_copyFrom_5 fl_X9_12 kj_17 sr_17_0 ?_
  obtain ⟨q1, hq1, hf⟩ := jbd_inv hf
  refine jx_cVv (a := 132) (As := [.ref (E.2.2.2 + 18)]) (rest := []) dX9_copyFrom_8 ml_X9_57 mv_X6_copyFrom (s_X6_copyFrom_131_17 hE hq1) rfl rfl jc_132 (by decide) (Nat.le_of_ble_eq_true rfl) ?_
  refine jx_aload_n dX9_copyFrom_11 rfl ?_
  refine jx_getr dX9_copyFrom_12 fl_X9_21 kj_131 sr_131_1 ?_
  refine jx_aload_n dX9_copyFrom_15 rfl ?_
  refine jx_getr dX9_copyFrom_16 fl_X9_21 kj_17 sr_17_1 ?_
  obtain ⟨q2, hq2, hf⟩ := jbd_inv hf
  refine jx_cVv (a := 149) (As := [.ref (E.2.2.2 + 35)]) (rest := []) dX9_copyFrom_19 ml_X9_61 mv_X2_copyFrom (s_X2_copyFrom_131_17 hE hq2) rfl rfl jc_149 (by decide) (Nat.le_of_ble_eq_true rfl) ?_
  refine jx_aload_n dX9_copyFrom_22 rfl ?_
  refine jx_getr dX9_copyFrom_23 fl_X9_30 kj_131 sr_131_2 ?_
  refine jx_aload_n dX9_copyFrom_26 rfl ?_
  refine jx_getr dX9_copyFrom_27 fl_X9_30 kj_17 sr_17_2 ?_
  refine jx_cVv (a := 158) (As := [.ref (E.2.2.2 + 44)]) (rest := []) dX9_copyFrom_30 ml_X9_64 mv_X8_copyFrom (c_row_copyFrom hE kj_158 kj_44 (by decide)) rfl rfl jc_158 (by decide) (Nat.le_of_ble_eq_true rfl) ?_
  obtain ⟨w3, hw3, hf⟩ := jl_inv hf
  refine jx_nw hw3 ?_
  refine jx_aload_n dX9_copyFrom_33 rfl ?_
  refine jx_getr dX9_copyFrom_34 fl_X9_34 kj_131 sr_131_3 ?_
  refine jx_aload_n dX9_copyFrom_37 rfl ?_
  refine jx_getr dX9_copyFrom_38 fl_X9_34 kj_17 sr_17_3 ?_
  refine jx_cVv (a := 160) (As := [.ref (E.2.2.2 + 46)]) (rest := []) dX9_copyFrom_41 ml_X9_64 mv_X8_copyFrom (c_row_copyFrom hE kj_160 kj_46 (by decide)) rfl rfl jc_160 (by decide) (Nat.le_of_ble_eq_true rfl) ?_
  obtain ⟨w4, hw4, hf⟩ := jl_inv hf
  refine jx_nw hw4 ?_
  cases hf
  exact jx_vret dX9_copyFrom_44 rfl rfl
def f_X6_copyFrom_17_69  (w : jw) : Option (jw) := jl (jsetI w 18 8 (w.1 70 8)) fun w1 => jl (jsetR w1 19 (w1.2.2.2 71)) fun w2 => jl (jsetR w2 21 (w2.2.2.2 73)) fun w3 => jl (jsetR w3 23 (w3.2.2.2 75)) fun w4 => jl (jsetR w4 25 (w4.2.2.2 77)) fun w5 => jl (jsetR w5 27 (w5.2.2.2 79)) fun w6 => jl (jsetR w6 29 (w6.2.2.2 81)) fun w7 => jl (jsetR w7 31 (w7.2.2.2 83)) fun w8 => jl (jsetR w8 33 (w8.2.2.2 85)) fun w9 => some w9
set_option maxRecDepth 20000 in
set_option maxHeartbeats 2000000 in
theorem s_X6_copyFrom_17_69 {E : jE} (hE : jfull E)  {w w' : jw} (hf : f_X6_copyFrom_17_69  w = some w') : jC E m_X6_copyFrom 2 [.ref (E.2.2.2 + 18), .ref (E.2.2.2 + 70)] w none w' := by
  refine jC_of (ls := [(0, .ref (E.2.2.2 + 18)), (1, .ref (E.2.2.2 + 70))]) (by decide) rfl (fun _ => trivial) (Nat.le_of_ble_eq_true rfl) rfl rfl ?_
  unfold f_X6_copyFrom_17_69 at hf
  refine jx_aload_n dX6_copyFrom_0 rfl ?_
  refine jx_aload_n dX6_copyFrom_1 rfl ?_
  refine jx_geti dX6_copyFrom_2 fl_X6_41 kj_70 sr_70_8 ?_
  refine jx_puti dX6_copyFrom_5 fp_X6_41 kj_18 sr_18_8 rfl rfl ?_
  obtain ⟨w1, hw1, hf⟩ := jl_inv hf
  refine jx_nw hw1 ?_
  refine jx_aload_n dX6_copyFrom_8 rfl ?_
  refine jx_getr dX6_copyFrom_9 fl_X6_14 kj_18 sr_18_0 ?_
  refine jx_aload_n dX6_copyFrom_12 rfl ?_
  refine jx_getr dX6_copyFrom_13 fl_X6_14 kj_70 sr_70_0 ?_
  refine jx_cVv (a := 19) (As := [.ref (E.2.2.2 + 71)]) (rest := []) dX6_copyFrom_16 ml_X6_48 mv_X8_copyFrom (c_row_copyFrom hE kj_19 kj_71 (by decide)) rfl rfl jc_19 (by decide) (Nat.le_of_ble_eq_true rfl) ?_
  obtain ⟨w2, hw2, hf⟩ := jl_inv hf
  refine jx_nw hw2 ?_
  refine jx_aload_n dX6_copyFrom_19 rfl ?_
  refine jx_getr dX6_copyFrom_20 fl_X6_20 kj_18 sr_18_1 ?_
  refine jx_aload_n dX6_copyFrom_23 rfl ?_
  refine jx_getr dX6_copyFrom_24 fl_X6_20 kj_70 sr_70_1 ?_
  refine jx_cVv (a := 21) (As := [.ref (E.2.2.2 + 73)]) (rest := []) dX6_copyFrom_27 ml_X6_48 mv_X8_copyFrom (c_row_copyFrom hE kj_21 kj_73 (by decide)) rfl rfl jc_21 (by decide) (Nat.le_of_ble_eq_true rfl) ?_
  obtain ⟨w3, hw3, hf⟩ := jl_inv hf
  refine jx_nw hw3 ?_
  refine jx_aload_n dX6_copyFrom_30 rfl ?_
  refine jx_getr dX6_copyFrom_31 fl_X6_23 kj_18 sr_18_2 ?_
  refine jx_aload_n dX6_copyFrom_34 rfl ?_
  refine jx_getr dX6_copyFrom_35 fl_X6_23 kj_70 sr_70_2 ?_
  refine jx_cVv (a := 23) (As := [.ref (E.2.2.2 + 75)]) (rest := []) dX6_copyFrom_38 ml_X6_48 mv_X8_copyFrom (c_row_copyFrom hE kj_23 kj_75 (by decide)) rfl rfl jc_23 (by decide) (Nat.le_of_ble_eq_true rfl) ?_
  obtain ⟨w4, hw4, hf⟩ := jl_inv hf
  refine jx_nw hw4 ?_
  refine jx_aload_n dX6_copyFrom_41 rfl ?_
  refine jx_getr dX6_copyFrom_42 fl_X6_26 kj_18 sr_18_3 ?_
  refine jx_aload_n dX6_copyFrom_45 rfl ?_
  refine jx_getr dX6_copyFrom_46 fl_X6_26 kj_70 sr_70_3 ?_
  refine jx_cVv (a := 25) (As := [.ref (E.2.2.2 + 77)]) (rest := []) dX6_copyFrom_49 ml_X6_48 mv_X8_copyFrom (c_row_copyFrom hE kj_25 kj_77 (by decide)) rfl rfl jc_25 (by decide) (Nat.le_of_ble_eq_true rfl) ?_
  obtain ⟨w5, hw5, hf⟩ := jl_inv hf
  refine jx_nw hw5 ?_
  refine jx_aload_n dX6_copyFrom_52 rfl ?_
  refine jx_getr dX6_copyFrom_53 fl_X6_29 kj_18 sr_18_4 ?_
  refine jx_aload_n dX6_copyFrom_56 rfl ?_
  refine jx_getr dX6_copyFrom_57 fl_X6_29 kj_70 sr_70_4 ?_
  refine jx_cVv (a := 27) (As := [.ref (E.2.2.2 + 79)]) (rest := []) dX6_copyFrom_60 ml_X6_48 mv_X8_copyFrom (c_row_copyFrom hE kj_27 kj_79 (by decide)) rfl rfl jc_27 (by decide) (Nat.le_of_ble_eq_true rfl) ?_
  obtain ⟨w6, hw6, hf⟩ := jl_inv hf
  refine jx_nw hw6 ?_
  refine jx_aload_n dX6_copyFrom_63 rfl ?_
  refine jx_getr dX6_copyFrom_64 fl_X6_32 kj_18 sr_18_5 ?_
  refine jx_aload_n dX6_copyFrom_67 rfl ?_
  refine jx_getr dX6_copyFrom_68 fl_X6_32 kj_70 sr_70_5 ?_
  refine jx_cVv (a := 29) (As := [.ref (E.2.2.2 + 81)]) (rest := []) dX6_copyFrom_71 ml_X6_48 mv_X8_copyFrom (c_row_copyFrom hE kj_29 kj_81 (by decide)) rfl rfl jc_29 (by decide) (Nat.le_of_ble_eq_true rfl) ?_
  obtain ⟨w7, hw7, hf⟩ := jl_inv hf
  refine jx_nw hw7 ?_
  refine jx_aload_n dX6_copyFrom_74 rfl ?_
  refine jx_getr dX6_copyFrom_75 fl_X6_35 kj_18 sr_18_6 ?_
  refine jx_aload_n dX6_copyFrom_78 rfl ?_
  refine jx_getr dX6_copyFrom_79 fl_X6_35 kj_70 sr_70_6 ?_
  refine jx_cVv (a := 31) (As := [.ref (E.2.2.2 + 83)]) (rest := []) dX6_copyFrom_82 ml_X6_48 mv_X8_copyFrom (c_row_copyFrom hE kj_31 kj_83 (by decide)) rfl rfl jc_31 (by decide) (Nat.le_of_ble_eq_true rfl) ?_
  obtain ⟨w8, hw8, hf⟩ := jl_inv hf
  refine jx_nw hw8 ?_
  refine jx_aload_n dX6_copyFrom_85 rfl ?_
  refine jx_getr dX6_copyFrom_86 fl_X6_38 kj_18 sr_18_7 ?_
  refine jx_aload_n dX6_copyFrom_89 rfl ?_
  refine jx_getr dX6_copyFrom_90 fl_X6_38 kj_70 sr_70_7 ?_
  refine jx_cVv (a := 33) (As := [.ref (E.2.2.2 + 85)]) (rest := []) dX6_copyFrom_93 ml_X6_48 mv_X8_copyFrom (c_row_copyFrom hE kj_33 kj_85 (by decide)) rfl rfl jc_33 (by decide) (Nat.le_of_ble_eq_true rfl) ?_
  obtain ⟨w9, hw9, hf⟩ := jl_inv hf
  refine jx_nw hw9 ?_
  cases hf
  exact jx_vret dX6_copyFrom_96 rfl rfl
def f_X2_copyFrom_17_69  (w : jw) : Option (jw) := jl (jsetI w 35 4 (w.1 87 4)) fun w1 => jl (jsetR w1 36 (w1.2.2.2 88)) fun w2 => jl (jsetR w2 38 (w2.2.2.2 90)) fun w3 => jl (jsetR w3 40 (w3.2.2.2 92)) fun w4 => jl (jsetR w4 42 (w4.2.2.2 94)) fun w5 => some w5
set_option maxRecDepth 20000 in
set_option maxHeartbeats 2000000 in
theorem s_X2_copyFrom_17_69 {E : jE} (hE : jfull E)  {w w' : jw} (hf : f_X2_copyFrom_17_69  w = some w') : jC E m_X2_copyFrom 2 [.ref (E.2.2.2 + 35), .ref (E.2.2.2 + 87)] w none w' := by
  refine jC_of (ls := [(0, .ref (E.2.2.2 + 35)), (1, .ref (E.2.2.2 + 87))]) (by decide) rfl (fun _ => trivial) (Nat.le_of_ble_eq_true rfl) rfl rfl ?_
  unfold f_X2_copyFrom_17_69 at hf
  refine jx_aload_n dX2_copyFrom_0 rfl ?_
  refine jx_aload_n dX2_copyFrom_1 rfl ?_
  refine jx_geti dX2_copyFrom_2 fl_X2_29 kj_87 sr_87_4 ?_
  refine jx_puti dX2_copyFrom_5 fp_X2_29 kj_35 sr_35_4 rfl rfl ?_
  obtain ⟨w1, hw1, hf⟩ := jl_inv hf
  refine jx_nw hw1 ?_
  refine jx_aload_n dX2_copyFrom_8 rfl ?_
  refine jx_getr dX2_copyFrom_9 fl_X2_14 kj_35 sr_35_0 ?_
  refine jx_aload_n dX2_copyFrom_12 rfl ?_
  refine jx_getr dX2_copyFrom_13 fl_X2_14 kj_87 sr_87_0 ?_
  refine jx_cVv (a := 36) (As := [.ref (E.2.2.2 + 88)]) (rest := []) dX2_copyFrom_16 ml_X2_37 mv_X8_copyFrom (c_row_copyFrom hE kj_36 kj_88 (by decide)) rfl rfl jc_36 (by decide) (Nat.le_of_ble_eq_true rfl) ?_
  obtain ⟨w2, hw2, hf⟩ := jl_inv hf
  refine jx_nw hw2 ?_
  refine jx_aload_n dX2_copyFrom_19 rfl ?_
  refine jx_getr dX2_copyFrom_20 fl_X2_20 kj_35 sr_35_1 ?_
  refine jx_aload_n dX2_copyFrom_23 rfl ?_
  refine jx_getr dX2_copyFrom_24 fl_X2_20 kj_87 sr_87_1 ?_
  refine jx_cVv (a := 38) (As := [.ref (E.2.2.2 + 90)]) (rest := []) dX2_copyFrom_27 ml_X2_37 mv_X8_copyFrom (c_row_copyFrom hE kj_38 kj_90 (by decide)) rfl rfl jc_38 (by decide) (Nat.le_of_ble_eq_true rfl) ?_
  obtain ⟨w3, hw3, hf⟩ := jl_inv hf
  refine jx_nw hw3 ?_
  refine jx_aload_n dX2_copyFrom_30 rfl ?_
  refine jx_getr dX2_copyFrom_31 fl_X2_23 kj_35 sr_35_2 ?_
  refine jx_aload_n dX2_copyFrom_34 rfl ?_
  refine jx_getr dX2_copyFrom_35 fl_X2_23 kj_87 sr_87_2 ?_
  refine jx_cVv (a := 40) (As := [.ref (E.2.2.2 + 92)]) (rest := []) dX2_copyFrom_38 ml_X2_37 mv_X8_copyFrom (c_row_copyFrom hE kj_40 kj_92 (by decide)) rfl rfl jc_40 (by decide) (Nat.le_of_ble_eq_true rfl) ?_
  obtain ⟨w4, hw4, hf⟩ := jl_inv hf
  refine jx_nw hw4 ?_
  refine jx_aload_n dX2_copyFrom_41 rfl ?_
  refine jx_getr dX2_copyFrom_42 fl_X2_26 kj_35 sr_35_3 ?_
  refine jx_aload_n dX2_copyFrom_45 rfl ?_
  refine jx_getr dX2_copyFrom_46 fl_X2_26 kj_87 sr_87_3 ?_
  refine jx_cVv (a := 42) (As := [.ref (E.2.2.2 + 94)]) (rest := []) dX2_copyFrom_49 ml_X2_37 mv_X8_copyFrom (c_row_copyFrom hE kj_42 kj_94 (by decide)) rfl rfl jc_42 (by decide) (Nat.le_of_ble_eq_true rfl) ?_
  obtain ⟨w5, hw5, hf⟩ := jl_inv hf
  refine jx_nw hw5 ?_
  cases hf
  exact jx_vret dX2_copyFrom_52 rfl rfl
def f_X9_copyFrom_17_69  (w : jw) : Option (jw) := jbd (f_X6_copyFrom_17_69  w) fun q1 => jbd (f_X2_copyFrom_17_69  q1) fun q2 => jl (jsetR q2 44 (q2.2.2.2 96)) fun w3 => jl (jsetR w3 46 (w3.2.2.2 98)) fun w4 => some w4
set_option maxRecDepth 20000 in
set_option maxHeartbeats 2000000 in
theorem s_X9_copyFrom_17_69 {E : jE} (hE : jfull E)  {w w' : jw} (hf : f_X9_copyFrom_17_69  w = some w') : jC E m_X9_copyFrom 3 [.ref (E.2.2.2 + 17), .ref (E.2.2.2 + 69)] w none w' := by
  refine jC_of (ls := [(0, .ref (E.2.2.2 + 17)), (1, .ref (E.2.2.2 + 69))]) (by decide) rfl (fun _ => trivial) (Nat.le_of_ble_eq_true rfl) rfl rfl ?_
  unfold f_X9_copyFrom_17_69 at hf
  refine jx_aload_n dX9_copyFrom_0 rfl ?_
  refine jx_getr dX9_copyFrom_1 fl_X9_12 kj_17 sr_17_0 ?_
  refine jx_aload_n dX9_copyFrom_4 rfl ?_
  refine jx_getr dX9_copyFrom_5 fl_X9_12 kj_69 sr_69_0 ?_
  obtain ⟨q1, hq1, hf⟩ := jbd_inv hf
  refine jx_cVv (a := 18) (As := [.ref (E.2.2.2 + 70)]) (rest := []) dX9_copyFrom_8 ml_X9_57 mv_X6_copyFrom (s_X6_copyFrom_17_69 hE hq1) rfl rfl jc_18 (by decide) (Nat.le_of_ble_eq_true rfl) ?_
  refine jx_aload_n dX9_copyFrom_11 rfl ?_
  refine jx_getr dX9_copyFrom_12 fl_X9_21 kj_17 sr_17_1 ?_
  refine jx_aload_n dX9_copyFrom_15 rfl ?_
  refine jx_getr dX9_copyFrom_16 fl_X9_21 kj_69 sr_69_1 ?_
  obtain ⟨q2, hq2, hf⟩ := jbd_inv hf
  refine jx_cVv (a := 35) (As := [.ref (E.2.2.2 + 87)]) (rest := []) dX9_copyFrom_19 ml_X9_61 mv_X2_copyFrom (s_X2_copyFrom_17_69 hE hq2) rfl rfl jc_35 (by decide) (Nat.le_of_ble_eq_true rfl) ?_
  refine jx_aload_n dX9_copyFrom_22 rfl ?_
  refine jx_getr dX9_copyFrom_23 fl_X9_30 kj_17 sr_17_2 ?_
  refine jx_aload_n dX9_copyFrom_26 rfl ?_
  refine jx_getr dX9_copyFrom_27 fl_X9_30 kj_69 sr_69_2 ?_
  refine jx_cVv (a := 44) (As := [.ref (E.2.2.2 + 96)]) (rest := []) dX9_copyFrom_30 ml_X9_64 mv_X8_copyFrom (c_row_copyFrom hE kj_44 kj_96 (by decide)) rfl rfl jc_44 (by decide) (Nat.le_of_ble_eq_true rfl) ?_
  obtain ⟨w3, hw3, hf⟩ := jl_inv hf
  refine jx_nw hw3 ?_
  refine jx_aload_n dX9_copyFrom_33 rfl ?_
  refine jx_getr dX9_copyFrom_34 fl_X9_34 kj_17 sr_17_3 ?_
  refine jx_aload_n dX9_copyFrom_37 rfl ?_
  refine jx_getr dX9_copyFrom_38 fl_X9_34 kj_69 sr_69_3 ?_
  refine jx_cVv (a := 46) (As := [.ref (E.2.2.2 + 98)]) (rest := []) dX9_copyFrom_41 ml_X9_64 mv_X8_copyFrom (c_row_copyFrom hE kj_46 kj_98 (by decide)) rfl rfl jc_46 (by decide) (Nat.le_of_ble_eq_true rfl) ?_
  obtain ⟨w4, hw4, hf⟩ := jl_inv hf
  refine jx_nw hw4 ?_
  cases hf
  exact jx_vret dX9_copyFrom_44 rfl rfl
def f_X6_copyFrom_17_100  (w : jw) : Option (jw) := jl (jsetI w 18 8 (w.1 101 8)) fun w1 => jl (jsetR w1 19 (w1.2.2.2 102)) fun w2 => jl (jsetR w2 21 (w2.2.2.2 104)) fun w3 => jl (jsetR w3 23 (w3.2.2.2 106)) fun w4 => jl (jsetR w4 25 (w4.2.2.2 108)) fun w5 => jl (jsetR w5 27 (w5.2.2.2 110)) fun w6 => jl (jsetR w6 29 (w6.2.2.2 112)) fun w7 => jl (jsetR w7 31 (w7.2.2.2 114)) fun w8 => jl (jsetR w8 33 (w8.2.2.2 116)) fun w9 => some w9
set_option maxRecDepth 20000 in
set_option maxHeartbeats 2000000 in
theorem s_X6_copyFrom_17_100 {E : jE} (hE : jfull E)  {w w' : jw} (hf : f_X6_copyFrom_17_100  w = some w') : jC E m_X6_copyFrom 2 [.ref (E.2.2.2 + 18), .ref (E.2.2.2 + 101)] w none w' := by
  refine jC_of (ls := [(0, .ref (E.2.2.2 + 18)), (1, .ref (E.2.2.2 + 101))]) (by decide) rfl (fun _ => trivial) (Nat.le_of_ble_eq_true rfl) rfl rfl ?_
  unfold f_X6_copyFrom_17_100 at hf
  refine jx_aload_n dX6_copyFrom_0 rfl ?_
  refine jx_aload_n dX6_copyFrom_1 rfl ?_
  refine jx_geti dX6_copyFrom_2 fl_X6_41 kj_101 sr_101_8 ?_
  refine jx_puti dX6_copyFrom_5 fp_X6_41 kj_18 sr_18_8 rfl rfl ?_
  obtain ⟨w1, hw1, hf⟩ := jl_inv hf
  refine jx_nw hw1 ?_
  refine jx_aload_n dX6_copyFrom_8 rfl ?_
  refine jx_getr dX6_copyFrom_9 fl_X6_14 kj_18 sr_18_0 ?_
  refine jx_aload_n dX6_copyFrom_12 rfl ?_
  refine jx_getr dX6_copyFrom_13 fl_X6_14 kj_101 sr_101_0 ?_
  refine jx_cVv (a := 19) (As := [.ref (E.2.2.2 + 102)]) (rest := []) dX6_copyFrom_16 ml_X6_48 mv_X8_copyFrom (c_row_copyFrom hE kj_19 kj_102 (by decide)) rfl rfl jc_19 (by decide) (Nat.le_of_ble_eq_true rfl) ?_
  obtain ⟨w2, hw2, hf⟩ := jl_inv hf
  refine jx_nw hw2 ?_
  refine jx_aload_n dX6_copyFrom_19 rfl ?_
  refine jx_getr dX6_copyFrom_20 fl_X6_20 kj_18 sr_18_1 ?_
  refine jx_aload_n dX6_copyFrom_23 rfl ?_
  refine jx_getr dX6_copyFrom_24 fl_X6_20 kj_101 sr_101_1 ?_
  refine jx_cVv (a := 21) (As := [.ref (E.2.2.2 + 104)]) (rest := []) dX6_copyFrom_27 ml_X6_48 mv_X8_copyFrom (c_row_copyFrom hE kj_21 kj_104 (by decide)) rfl rfl jc_21 (by decide) (Nat.le_of_ble_eq_true rfl) ?_
  obtain ⟨w3, hw3, hf⟩ := jl_inv hf
  refine jx_nw hw3 ?_
  refine jx_aload_n dX6_copyFrom_30 rfl ?_
  refine jx_getr dX6_copyFrom_31 fl_X6_23 kj_18 sr_18_2 ?_
  refine jx_aload_n dX6_copyFrom_34 rfl ?_
  refine jx_getr dX6_copyFrom_35 fl_X6_23 kj_101 sr_101_2 ?_
  refine jx_cVv (a := 23) (As := [.ref (E.2.2.2 + 106)]) (rest := []) dX6_copyFrom_38 ml_X6_48 mv_X8_copyFrom (c_row_copyFrom hE kj_23 kj_106 (by decide)) rfl rfl jc_23 (by decide) (Nat.le_of_ble_eq_true rfl) ?_
  obtain ⟨w4, hw4, hf⟩ := jl_inv hf
  refine jx_nw hw4 ?_
  refine jx_aload_n dX6_copyFrom_41 rfl ?_
  refine jx_getr dX6_copyFrom_42 fl_X6_26 kj_18 sr_18_3 ?_
  refine jx_aload_n dX6_copyFrom_45 rfl ?_
  refine jx_getr dX6_copyFrom_46 fl_X6_26 kj_101 sr_101_3 ?_
  refine jx_cVv (a := 25) (As := [.ref (E.2.2.2 + 108)]) (rest := []) dX6_copyFrom_49 ml_X6_48 mv_X8_copyFrom (c_row_copyFrom hE kj_25 kj_108 (by decide)) rfl rfl jc_25 (by decide) (Nat.le_of_ble_eq_true rfl) ?_
  obtain ⟨w5, hw5, hf⟩ := jl_inv hf
  refine jx_nw hw5 ?_
  refine jx_aload_n dX6_copyFrom_52 rfl ?_
  refine jx_getr dX6_copyFrom_53 fl_X6_29 kj_18 sr_18_4 ?_
  refine jx_aload_n dX6_copyFrom_56 rfl ?_
  refine jx_getr dX6_copyFrom_57 fl_X6_29 kj_101 sr_101_4 ?_
  refine jx_cVv (a := 27) (As := [.ref (E.2.2.2 + 110)]) (rest := []) dX6_copyFrom_60 ml_X6_48 mv_X8_copyFrom (c_row_copyFrom hE kj_27 kj_110 (by decide)) rfl rfl jc_27 (by decide) (Nat.le_of_ble_eq_true rfl) ?_
  obtain ⟨w6, hw6, hf⟩ := jl_inv hf
  refine jx_nw hw6 ?_
  refine jx_aload_n dX6_copyFrom_63 rfl ?_
  refine jx_getr dX6_copyFrom_64 fl_X6_32 kj_18 sr_18_5 ?_
  refine jx_aload_n dX6_copyFrom_67 rfl ?_
  refine jx_getr dX6_copyFrom_68 fl_X6_32 kj_101 sr_101_5 ?_
  refine jx_cVv (a := 29) (As := [.ref (E.2.2.2 + 112)]) (rest := []) dX6_copyFrom_71 ml_X6_48 mv_X8_copyFrom (c_row_copyFrom hE kj_29 kj_112 (by decide)) rfl rfl jc_29 (by decide) (Nat.le_of_ble_eq_true rfl) ?_
  obtain ⟨w7, hw7, hf⟩ := jl_inv hf
  refine jx_nw hw7 ?_
  refine jx_aload_n dX6_copyFrom_74 rfl ?_
  refine jx_getr dX6_copyFrom_75 fl_X6_35 kj_18 sr_18_6 ?_
  refine jx_aload_n dX6_copyFrom_78 rfl ?_
  refine jx_getr dX6_copyFrom_79 fl_X6_35 kj_101 sr_101_6 ?_
  refine jx_cVv (a := 31) (As := [.ref (E.2.2.2 + 114)]) (rest := []) dX6_copyFrom_82 ml_X6_48 mv_X8_copyFrom (c_row_copyFrom hE kj_31 kj_114 (by decide)) rfl rfl jc_31 (by decide) (Nat.le_of_ble_eq_true rfl) ?_
  obtain ⟨w8, hw8, hf⟩ := jl_inv hf
  refine jx_nw hw8 ?_
  refine jx_aload_n dX6_copyFrom_85 rfl ?_
  refine jx_getr dX6_copyFrom_86 fl_X6_38 kj_18 sr_18_7 ?_
  refine jx_aload_n dX6_copyFrom_89 rfl ?_
  refine jx_getr dX6_copyFrom_90 fl_X6_38 kj_101 sr_101_7 ?_
  refine jx_cVv (a := 33) (As := [.ref (E.2.2.2 + 116)]) (rest := []) dX6_copyFrom_93 ml_X6_48 mv_X8_copyFrom (c_row_copyFrom hE kj_33 kj_116 (by decide)) rfl rfl jc_33 (by decide) (Nat.le_of_ble_eq_true rfl) ?_
  obtain ⟨w9, hw9, hf⟩ := jl_inv hf
  refine jx_nw hw9 ?_
  cases hf
  exact jx_vret dX6_copyFrom_96 rfl rfl
def f_X2_copyFrom_17_100  (w : jw) : Option (jw) := jl (jsetI w 35 4 (w.1 118 4)) fun w1 => jl (jsetR w1 36 (w1.2.2.2 119)) fun w2 => jl (jsetR w2 38 (w2.2.2.2 121)) fun w3 => jl (jsetR w3 40 (w3.2.2.2 123)) fun w4 => jl (jsetR w4 42 (w4.2.2.2 125)) fun w5 => some w5
set_option maxRecDepth 20000 in
set_option maxHeartbeats 2000000 in
theorem s_X2_copyFrom_17_100 {E : jE} (hE : jfull E)  {w w' : jw} (hf : f_X2_copyFrom_17_100  w = some w') : jC E m_X2_copyFrom 2 [.ref (E.2.2.2 + 35), .ref (E.2.2.2 + 118)] w none w' := by
  refine jC_of (ls := [(0, .ref (E.2.2.2 + 35)), (1, .ref (E.2.2.2 + 118))]) (by decide) rfl (fun _ => trivial) (Nat.le_of_ble_eq_true rfl) rfl rfl ?_
  unfold f_X2_copyFrom_17_100 at hf
  refine jx_aload_n dX2_copyFrom_0 rfl ?_
  refine jx_aload_n dX2_copyFrom_1 rfl ?_
  refine jx_geti dX2_copyFrom_2 fl_X2_29 kj_118 sr_118_4 ?_
  refine jx_puti dX2_copyFrom_5 fp_X2_29 kj_35 sr_35_4 rfl rfl ?_
  obtain ⟨w1, hw1, hf⟩ := jl_inv hf
  refine jx_nw hw1 ?_
  refine jx_aload_n dX2_copyFrom_8 rfl ?_
  refine jx_getr dX2_copyFrom_9 fl_X2_14 kj_35 sr_35_0 ?_
  refine jx_aload_n dX2_copyFrom_12 rfl ?_
  refine jx_getr dX2_copyFrom_13 fl_X2_14 kj_118 sr_118_0 ?_
  refine jx_cVv (a := 36) (As := [.ref (E.2.2.2 + 119)]) (rest := []) dX2_copyFrom_16 ml_X2_37 mv_X8_copyFrom (c_row_copyFrom hE kj_36 kj_119 (by decide)) rfl rfl jc_36 (by decide) (Nat.le_of_ble_eq_true rfl) ?_
  obtain ⟨w2, hw2, hf⟩ := jl_inv hf
  refine jx_nw hw2 ?_
  refine jx_aload_n dX2_copyFrom_19 rfl ?_
  refine jx_getr dX2_copyFrom_20 fl_X2_20 kj_35 sr_35_1 ?_
  refine jx_aload_n dX2_copyFrom_23 rfl ?_
  refine jx_getr dX2_copyFrom_24 fl_X2_20 kj_118 sr_118_1 ?_
  refine jx_cVv (a := 38) (As := [.ref (E.2.2.2 + 121)]) (rest := []) dX2_copyFrom_27 ml_X2_37 mv_X8_copyFrom (c_row_copyFrom hE kj_38 kj_121 (by decide)) rfl rfl jc_38 (by decide) (Nat.le_of_ble_eq_true rfl) ?_
  obtain ⟨w3, hw3, hf⟩ := jl_inv hf
  refine jx_nw hw3 ?_
  refine jx_aload_n dX2_copyFrom_30 rfl ?_
  refine jx_getr dX2_copyFrom_31 fl_X2_23 kj_35 sr_35_2 ?_
  refine jx_aload_n dX2_copyFrom_34 rfl ?_
  refine jx_getr dX2_copyFrom_35 fl_X2_23 kj_118 sr_118_2 ?_
  refine jx_cVv (a := 40) (As := [.ref (E.2.2.2 + 123)]) (rest := []) dX2_copyFrom_38 ml_X2_37 mv_X8_copyFrom (c_row_copyFrom hE kj_40 kj_123 (by decide)) rfl rfl jc_40 (by decide) (Nat.le_of_ble_eq_true rfl) ?_
  obtain ⟨w4, hw4, hf⟩ := jl_inv hf
  refine jx_nw hw4 ?_
  refine jx_aload_n dX2_copyFrom_41 rfl ?_
  refine jx_getr dX2_copyFrom_42 fl_X2_26 kj_35 sr_35_3 ?_
  refine jx_aload_n dX2_copyFrom_45 rfl ?_
  refine jx_getr dX2_copyFrom_46 fl_X2_26 kj_118 sr_118_3 ?_
  refine jx_cVv (a := 42) (As := [.ref (E.2.2.2 + 125)]) (rest := []) dX2_copyFrom_49 ml_X2_37 mv_X8_copyFrom (c_row_copyFrom hE kj_42 kj_125 (by decide)) rfl rfl jc_42 (by decide) (Nat.le_of_ble_eq_true rfl) ?_
  obtain ⟨w5, hw5, hf⟩ := jl_inv hf
  refine jx_nw hw5 ?_
  cases hf
  exact jx_vret dX2_copyFrom_52 rfl rfl
def f_X9_copyFrom_17_100  (w : jw) : Option (jw) := jbd (f_X6_copyFrom_17_100  w) fun q1 => jbd (f_X2_copyFrom_17_100  q1) fun q2 => jl (jsetR q2 44 (q2.2.2.2 127)) fun w3 => jl (jsetR w3 46 (w3.2.2.2 129)) fun w4 => some w4
set_option maxRecDepth 20000 in
set_option maxHeartbeats 2000000 in
theorem s_X9_copyFrom_17_100 {E : jE} (hE : jfull E)  {w w' : jw} (hf : f_X9_copyFrom_17_100  w = some w') : jC E m_X9_copyFrom 3 [.ref (E.2.2.2 + 17), .ref (E.2.2.2 + 100)] w none w' := by
  refine jC_of (ls := [(0, .ref (E.2.2.2 + 17)), (1, .ref (E.2.2.2 + 100))]) (by decide) rfl (fun _ => trivial) (Nat.le_of_ble_eq_true rfl) rfl rfl ?_
  unfold f_X9_copyFrom_17_100 at hf
  refine jx_aload_n dX9_copyFrom_0 rfl ?_
  refine jx_getr dX9_copyFrom_1 fl_X9_12 kj_17 sr_17_0 ?_
  refine jx_aload_n dX9_copyFrom_4 rfl ?_
  refine jx_getr dX9_copyFrom_5 fl_X9_12 kj_100 sr_100_0 ?_
  obtain ⟨q1, hq1, hf⟩ := jbd_inv hf
  refine jx_cVv (a := 18) (As := [.ref (E.2.2.2 + 101)]) (rest := []) dX9_copyFrom_8 ml_X9_57 mv_X6_copyFrom (s_X6_copyFrom_17_100 hE hq1) rfl rfl jc_18 (by decide) (Nat.le_of_ble_eq_true rfl) ?_
  refine jx_aload_n dX9_copyFrom_11 rfl ?_
  refine jx_getr dX9_copyFrom_12 fl_X9_21 kj_17 sr_17_1 ?_
  refine jx_aload_n dX9_copyFrom_15 rfl ?_
  refine jx_getr dX9_copyFrom_16 fl_X9_21 kj_100 sr_100_1 ?_
  obtain ⟨q2, hq2, hf⟩ := jbd_inv hf
  refine jx_cVv (a := 35) (As := [.ref (E.2.2.2 + 118)]) (rest := []) dX9_copyFrom_19 ml_X9_61 mv_X2_copyFrom (s_X2_copyFrom_17_100 hE hq2) rfl rfl jc_35 (by decide) (Nat.le_of_ble_eq_true rfl) ?_
  refine jx_aload_n dX9_copyFrom_22 rfl ?_
  refine jx_getr dX9_copyFrom_23 fl_X9_30 kj_17 sr_17_2 ?_
  refine jx_aload_n dX9_copyFrom_26 rfl ?_
  refine jx_getr dX9_copyFrom_27 fl_X9_30 kj_100 sr_100_2 ?_
  refine jx_cVv (a := 44) (As := [.ref (E.2.2.2 + 127)]) (rest := []) dX9_copyFrom_30 ml_X9_64 mv_X8_copyFrom (c_row_copyFrom hE kj_44 kj_127 (by decide)) rfl rfl jc_44 (by decide) (Nat.le_of_ble_eq_true rfl) ?_
  obtain ⟨w3, hw3, hf⟩ := jl_inv hf
  refine jx_nw hw3 ?_
  refine jx_aload_n dX9_copyFrom_33 rfl ?_
  refine jx_getr dX9_copyFrom_34 fl_X9_34 kj_17 sr_17_3 ?_
  refine jx_aload_n dX9_copyFrom_37 rfl ?_
  refine jx_getr dX9_copyFrom_38 fl_X9_34 kj_100 sr_100_3 ?_
  refine jx_cVv (a := 46) (As := [.ref (E.2.2.2 + 129)]) (rest := []) dX9_copyFrom_41 ml_X9_64 mv_X8_copyFrom (c_row_copyFrom hE kj_46 kj_129 (by decide)) rfl rfl jc_46 (by decide) (Nat.le_of_ble_eq_true rfl) ?_
  obtain ⟨w4, hw4, hf⟩ := jl_inv hf
  refine jx_nw hw4 ?_
  cases hf
  exact jx_vret dX9_copyFrom_44 rfl rfl
def f_X6_copyFrom_17_131  (w : jw) : Option (jw) := jl (jsetI w 18 8 (w.1 132 8)) fun w1 => jl (jsetR w1 19 (w1.2.2.2 133)) fun w2 => jl (jsetR w2 21 (w2.2.2.2 135)) fun w3 => jl (jsetR w3 23 (w3.2.2.2 137)) fun w4 => jl (jsetR w4 25 (w4.2.2.2 139)) fun w5 => jl (jsetR w5 27 (w5.2.2.2 141)) fun w6 => jl (jsetR w6 29 (w6.2.2.2 143)) fun w7 => jl (jsetR w7 31 (w7.2.2.2 145)) fun w8 => jl (jsetR w8 33 (w8.2.2.2 147)) fun w9 => some w9
set_option maxRecDepth 20000 in
set_option maxHeartbeats 2000000 in
theorem s_X6_copyFrom_17_131 {E : jE} (hE : jfull E)  {w w' : jw} (hf : f_X6_copyFrom_17_131  w = some w') : jC E m_X6_copyFrom 2 [.ref (E.2.2.2 + 18), .ref (E.2.2.2 + 132)] w none w' := by
  refine jC_of (ls := [(0, .ref (E.2.2.2 + 18)), (1, .ref (E.2.2.2 + 132))]) (by decide) rfl (fun _ => trivial) (Nat.le_of_ble_eq_true rfl) rfl rfl ?_
  unfold f_X6_copyFrom_17_131 at hf
  refine jx_aload_n dX6_copyFrom_0 rfl ?_
  refine jx_aload_n dX6_copyFrom_1 rfl ?_
  refine jx_geti dX6_copyFrom_2 fl_X6_41 kj_132 sr_132_8 ?_
  refine jx_puti dX6_copyFrom_5 fp_X6_41 kj_18 sr_18_8 rfl rfl ?_
  obtain ⟨w1, hw1, hf⟩ := jl_inv hf
  refine jx_nw hw1 ?_
  refine jx_aload_n dX6_copyFrom_8 rfl ?_
  refine jx_getr dX6_copyFrom_9 fl_X6_14 kj_18 sr_18_0 ?_
  refine jx_aload_n dX6_copyFrom_12 rfl ?_
  refine jx_getr dX6_copyFrom_13 fl_X6_14 kj_132 sr_132_0 ?_
  refine jx_cVv (a := 19) (As := [.ref (E.2.2.2 + 133)]) (rest := []) dX6_copyFrom_16 ml_X6_48 mv_X8_copyFrom (c_row_copyFrom hE kj_19 kj_133 (by decide)) rfl rfl jc_19 (by decide) (Nat.le_of_ble_eq_true rfl) ?_
  obtain ⟨w2, hw2, hf⟩ := jl_inv hf
  refine jx_nw hw2 ?_
  refine jx_aload_n dX6_copyFrom_19 rfl ?_
  refine jx_getr dX6_copyFrom_20 fl_X6_20 kj_18 sr_18_1 ?_
  refine jx_aload_n dX6_copyFrom_23 rfl ?_
  refine jx_getr dX6_copyFrom_24 fl_X6_20 kj_132 sr_132_1 ?_
  refine jx_cVv (a := 21) (As := [.ref (E.2.2.2 + 135)]) (rest := []) dX6_copyFrom_27 ml_X6_48 mv_X8_copyFrom (c_row_copyFrom hE kj_21 kj_135 (by decide)) rfl rfl jc_21 (by decide) (Nat.le_of_ble_eq_true rfl) ?_
  obtain ⟨w3, hw3, hf⟩ := jl_inv hf
  refine jx_nw hw3 ?_
  refine jx_aload_n dX6_copyFrom_30 rfl ?_
  refine jx_getr dX6_copyFrom_31 fl_X6_23 kj_18 sr_18_2 ?_
  refine jx_aload_n dX6_copyFrom_34 rfl ?_
  refine jx_getr dX6_copyFrom_35 fl_X6_23 kj_132 sr_132_2 ?_
  refine jx_cVv (a := 23) (As := [.ref (E.2.2.2 + 137)]) (rest := []) dX6_copyFrom_38 ml_X6_48 mv_X8_copyFrom (c_row_copyFrom hE kj_23 kj_137 (by decide)) rfl rfl jc_23 (by decide) (Nat.le_of_ble_eq_true rfl) ?_
  obtain ⟨w4, hw4, hf⟩ := jl_inv hf
  refine jx_nw hw4 ?_
  refine jx_aload_n dX6_copyFrom_41 rfl ?_
  refine jx_getr dX6_copyFrom_42 fl_X6_26 kj_18 sr_18_3 ?_
  refine jx_aload_n dX6_copyFrom_45 rfl ?_
  refine jx_getr dX6_copyFrom_46 fl_X6_26 kj_132 sr_132_3 ?_
  refine jx_cVv (a := 25) (As := [.ref (E.2.2.2 + 139)]) (rest := []) dX6_copyFrom_49 ml_X6_48 mv_X8_copyFrom (c_row_copyFrom hE kj_25 kj_139 (by decide)) rfl rfl jc_25 (by decide) (Nat.le_of_ble_eq_true rfl) ?_
  obtain ⟨w5, hw5, hf⟩ := jl_inv hf
  refine jx_nw hw5 ?_
  refine jx_aload_n dX6_copyFrom_52 rfl ?_
  refine jx_getr dX6_copyFrom_53 fl_X6_29 kj_18 sr_18_4 ?_
  refine jx_aload_n dX6_copyFrom_56 rfl ?_
  refine jx_getr dX6_copyFrom_57 fl_X6_29 kj_132 sr_132_4 ?_
  refine jx_cVv (a := 27) (As := [.ref (E.2.2.2 + 141)]) (rest := []) dX6_copyFrom_60 ml_X6_48 mv_X8_copyFrom (c_row_copyFrom hE kj_27 kj_141 (by decide)) rfl rfl jc_27 (by decide) (Nat.le_of_ble_eq_true rfl) ?_
  obtain ⟨w6, hw6, hf⟩ := jl_inv hf
  refine jx_nw hw6 ?_
  refine jx_aload_n dX6_copyFrom_63 rfl ?_
  refine jx_getr dX6_copyFrom_64 fl_X6_32 kj_18 sr_18_5 ?_
  refine jx_aload_n dX6_copyFrom_67 rfl ?_
  refine jx_getr dX6_copyFrom_68 fl_X6_32 kj_132 sr_132_5 ?_
  refine jx_cVv (a := 29) (As := [.ref (E.2.2.2 + 143)]) (rest := []) dX6_copyFrom_71 ml_X6_48 mv_X8_copyFrom (c_row_copyFrom hE kj_29 kj_143 (by decide)) rfl rfl jc_29 (by decide) (Nat.le_of_ble_eq_true rfl) ?_
  obtain ⟨w7, hw7, hf⟩ := jl_inv hf
  refine jx_nw hw7 ?_
  refine jx_aload_n dX6_copyFrom_74 rfl ?_
  refine jx_getr dX6_copyFrom_75 fl_X6_35 kj_18 sr_18_6 ?_
  refine jx_aload_n dX6_copyFrom_78 rfl ?_
  refine jx_getr dX6_copyFrom_79 fl_X6_35 kj_132 sr_132_6 ?_
  refine jx_cVv (a := 31) (As := [.ref (E.2.2.2 + 145)]) (rest := []) dX6_copyFrom_82 ml_X6_48 mv_X8_copyFrom (c_row_copyFrom hE kj_31 kj_145 (by decide)) rfl rfl jc_31 (by decide) (Nat.le_of_ble_eq_true rfl) ?_
  obtain ⟨w8, hw8, hf⟩ := jl_inv hf
  refine jx_nw hw8 ?_
  refine jx_aload_n dX6_copyFrom_85 rfl ?_
  refine jx_getr dX6_copyFrom_86 fl_X6_38 kj_18 sr_18_7 ?_
  refine jx_aload_n dX6_copyFrom_89 rfl ?_
  refine jx_getr dX6_copyFrom_90 fl_X6_38 kj_132 sr_132_7 ?_
  refine jx_cVv (a := 33) (As := [.ref (E.2.2.2 + 147)]) (rest := []) dX6_copyFrom_93 ml_X6_48 mv_X8_copyFrom (c_row_copyFrom hE kj_33 kj_147 (by decide)) rfl rfl jc_33 (by decide) (Nat.le_of_ble_eq_true rfl) ?_
  obtain ⟨w9, hw9, hf⟩ := jl_inv hf
  refine jx_nw hw9 ?_
  cases hf
  exact jx_vret dX6_copyFrom_96 rfl rfl
def f_X2_copyFrom_17_131  (w : jw) : Option (jw) := jl (jsetI w 35 4 (w.1 149 4)) fun w1 => jl (jsetR w1 36 (w1.2.2.2 150)) fun w2 => jl (jsetR w2 38 (w2.2.2.2 152)) fun w3 => jl (jsetR w3 40 (w3.2.2.2 154)) fun w4 => jl (jsetR w4 42 (w4.2.2.2 156)) fun w5 => some w5
set_option maxRecDepth 20000 in
set_option maxHeartbeats 2000000 in
theorem s_X2_copyFrom_17_131 {E : jE} (hE : jfull E)  {w w' : jw} (hf : f_X2_copyFrom_17_131  w = some w') : jC E m_X2_copyFrom 2 [.ref (E.2.2.2 + 35), .ref (E.2.2.2 + 149)] w none w' := by
  refine jC_of (ls := [(0, .ref (E.2.2.2 + 35)), (1, .ref (E.2.2.2 + 149))]) (by decide) rfl (fun _ => trivial) (Nat.le_of_ble_eq_true rfl) rfl rfl ?_
  unfold f_X2_copyFrom_17_131 at hf
  refine jx_aload_n dX2_copyFrom_0 rfl ?_
  refine jx_aload_n dX2_copyFrom_1 rfl ?_
  refine jx_geti dX2_copyFrom_2 fl_X2_29 kj_149 sr_149_4 ?_
  refine jx_puti dX2_copyFrom_5 fp_X2_29 kj_35 sr_35_4 rfl rfl ?_
  obtain ⟨w1, hw1, hf⟩ := jl_inv hf
  refine jx_nw hw1 ?_
  refine jx_aload_n dX2_copyFrom_8 rfl ?_
  refine jx_getr dX2_copyFrom_9 fl_X2_14 kj_35 sr_35_0 ?_
  refine jx_aload_n dX2_copyFrom_12 rfl ?_
  refine jx_getr dX2_copyFrom_13 fl_X2_14 kj_149 sr_149_0 ?_
  refine jx_cVv (a := 36) (As := [.ref (E.2.2.2 + 150)]) (rest := []) dX2_copyFrom_16 ml_X2_37 mv_X8_copyFrom (c_row_copyFrom hE kj_36 kj_150 (by decide)) rfl rfl jc_36 (by decide) (Nat.le_of_ble_eq_true rfl) ?_
  obtain ⟨w2, hw2, hf⟩ := jl_inv hf
  refine jx_nw hw2 ?_
  refine jx_aload_n dX2_copyFrom_19 rfl ?_
  refine jx_getr dX2_copyFrom_20 fl_X2_20 kj_35 sr_35_1 ?_
  refine jx_aload_n dX2_copyFrom_23 rfl ?_
  refine jx_getr dX2_copyFrom_24 fl_X2_20 kj_149 sr_149_1 ?_
  refine jx_cVv (a := 38) (As := [.ref (E.2.2.2 + 152)]) (rest := []) dX2_copyFrom_27 ml_X2_37 mv_X8_copyFrom (c_row_copyFrom hE kj_38 kj_152 (by decide)) rfl rfl jc_38 (by decide) (Nat.le_of_ble_eq_true rfl) ?_
  obtain ⟨w3, hw3, hf⟩ := jl_inv hf
  refine jx_nw hw3 ?_
  refine jx_aload_n dX2_copyFrom_30 rfl ?_
  refine jx_getr dX2_copyFrom_31 fl_X2_23 kj_35 sr_35_2 ?_
  refine jx_aload_n dX2_copyFrom_34 rfl ?_
  refine jx_getr dX2_copyFrom_35 fl_X2_23 kj_149 sr_149_2 ?_
  refine jx_cVv (a := 40) (As := [.ref (E.2.2.2 + 154)]) (rest := []) dX2_copyFrom_38 ml_X2_37 mv_X8_copyFrom (c_row_copyFrom hE kj_40 kj_154 (by decide)) rfl rfl jc_40 (by decide) (Nat.le_of_ble_eq_true rfl) ?_
  obtain ⟨w4, hw4, hf⟩ := jl_inv hf
  refine jx_nw hw4 ?_
  refine jx_aload_n dX2_copyFrom_41 rfl ?_
  refine jx_getr dX2_copyFrom_42 fl_X2_26 kj_35 sr_35_3 ?_
  refine jx_aload_n dX2_copyFrom_45 rfl ?_
  refine jx_getr dX2_copyFrom_46 fl_X2_26 kj_149 sr_149_3 ?_
  refine jx_cVv (a := 42) (As := [.ref (E.2.2.2 + 156)]) (rest := []) dX2_copyFrom_49 ml_X2_37 mv_X8_copyFrom (c_row_copyFrom hE kj_42 kj_156 (by decide)) rfl rfl jc_42 (by decide) (Nat.le_of_ble_eq_true rfl) ?_
  obtain ⟨w5, hw5, hf⟩ := jl_inv hf
  refine jx_nw hw5 ?_
  cases hf
  exact jx_vret dX2_copyFrom_52 rfl rfl
def f_X9_copyFrom_17_131  (w : jw) : Option (jw) := jbd (f_X6_copyFrom_17_131  w) fun q1 => jbd (f_X2_copyFrom_17_131  q1) fun q2 => jl (jsetR q2 44 (q2.2.2.2 158)) fun w3 => jl (jsetR w3 46 (w3.2.2.2 160)) fun w4 => some w4
set_option maxRecDepth 20000 in
set_option maxHeartbeats 2000000 in
theorem s_X9_copyFrom_17_131 {E : jE} (hE : jfull E)  {w w' : jw} (hf : f_X9_copyFrom_17_131  w = some w') : jC E m_X9_copyFrom 3 [.ref (E.2.2.2 + 17), .ref (E.2.2.2 + 131)] w none w' := by
  refine jC_of (ls := [(0, .ref (E.2.2.2 + 17)), (1, .ref (E.2.2.2 + 131))]) (by decide) rfl (fun _ => trivial) (Nat.le_of_ble_eq_true rfl) rfl rfl ?_
  unfold f_X9_copyFrom_17_131 at hf
  refine jx_aload_n dX9_copyFrom_0 rfl ?_
  refine jx_getr dX9_copyFrom_1 fl_X9_12 kj_17 sr_17_0 ?_
  refine jx_aload_n dX9_copyFrom_4 rfl ?_
  refine jx_getr dX9_copyFrom_5 fl_X9_12 kj_131 sr_131_0 ?_
  obtain ⟨q1, hq1, hf⟩ := jbd_inv hf
  refine jx_cVv (a := 18) (As := [.ref (E.2.2.2 + 132)]) (rest := []) dX9_copyFrom_8 ml_X9_57 mv_X6_copyFrom (s_X6_copyFrom_17_131 hE hq1) rfl rfl jc_18 (by decide) (Nat.le_of_ble_eq_true rfl) ?_
  refine jx_aload_n dX9_copyFrom_11 rfl ?_
  refine jx_getr dX9_copyFrom_12 fl_X9_21 kj_17 sr_17_1 ?_
  refine jx_aload_n dX9_copyFrom_15 rfl ?_
  refine jx_getr dX9_copyFrom_16 fl_X9_21 kj_131 sr_131_1 ?_
  obtain ⟨q2, hq2, hf⟩ := jbd_inv hf
  refine jx_cVv (a := 35) (As := [.ref (E.2.2.2 + 149)]) (rest := []) dX9_copyFrom_19 ml_X9_61 mv_X2_copyFrom (s_X2_copyFrom_17_131 hE hq2) rfl rfl jc_35 (by decide) (Nat.le_of_ble_eq_true rfl) ?_
  refine jx_aload_n dX9_copyFrom_22 rfl ?_
  refine jx_getr dX9_copyFrom_23 fl_X9_30 kj_17 sr_17_2 ?_
  refine jx_aload_n dX9_copyFrom_26 rfl ?_
  refine jx_getr dX9_copyFrom_27 fl_X9_30 kj_131 sr_131_2 ?_
  refine jx_cVv (a := 44) (As := [.ref (E.2.2.2 + 158)]) (rest := []) dX9_copyFrom_30 ml_X9_64 mv_X8_copyFrom (c_row_copyFrom hE kj_44 kj_158 (by decide)) rfl rfl jc_44 (by decide) (Nat.le_of_ble_eq_true rfl) ?_
  obtain ⟨w3, hw3, hf⟩ := jl_inv hf
  refine jx_nw hw3 ?_
  refine jx_aload_n dX9_copyFrom_33 rfl ?_
  refine jx_getr dX9_copyFrom_34 fl_X9_34 kj_17 sr_17_3 ?_
  refine jx_aload_n dX9_copyFrom_37 rfl ?_
  refine jx_getr dX9_copyFrom_38 fl_X9_34 kj_131 sr_131_3 ?_
  refine jx_cVv (a := 46) (As := [.ref (E.2.2.2 + 160)]) (rest := []) dX9_copyFrom_41 ml_X9_64 mv_X8_copyFrom (c_row_copyFrom hE kj_46 kj_160 (by decide)) rfl rfl jc_46 (by decide) (Nat.le_of_ble_eq_true rfl) ?_
  obtain ⟨w4, hw4, hf⟩ := jl_inv hf
  refine jx_nw hw4 ?_
  cases hf
  exact jx_vret dX9_copyFrom_44 rfl rfl
def f_X1_endLiving (a1 : Int32) (a2 : Int32) (w : jw) : Option (Int32 × jw) := jbd (f_X9_trace_52 a1 a2 w) fun q1 => jl (rat (q1.2.2.2 52) ((nI (q1.2.2.2 52).length) - 1) : Int32) fun x2 => jbd2 (f_X6_slotToward x2 a1 a2 q1) fun x4 w5 => (if x4 = (-1) then some (x2, w5) else (if (rat (w5.2.2.2 27) x4) = a1 then jl (jsetR w5 33 (rset (w5.2.2.2 33) x4 a2)) fun w8 => some (x2, w8) else some (x2, w5)))
set_option maxRecDepth 20000 in
set_option maxHeartbeats 2000000 in
theorem s_X1_endLiving {E : jE} (hE : jfull E) {a1 : Int32} {a2 : Int32} {w w' : jw} {v : Int32} (hf : f_X1_endLiving a1 a2 w = some (v, w')) : jC E m_X1_endLiving 4 [.ref (E.2.2.2 + 51), .int a1, .int a2] w (some (.int v)) w' := by
  refine jC_of (ls := [(0, .ref (E.2.2.2 + 51)), (1, .int a1), (2, .int a2)]) (by decide) rfl (fun _ => trivial) (Nat.le_of_ble_eq_true rfl) rfl ⟨.int, rfl, rfl⟩ ?_
  unfold f_X1_endLiving at hf
  refine jx_aload_n dX1_endLiving_0 rfl ?_
  refine jx_getr dX1_endLiving_1 fl_X1_9 kj_51 sr_51_0 ?_
  refine jx_aload_n dX1_endLiving_4 rfl ?_
  refine jx_getr dX1_endLiving_5 fl_X1_27 kj_51 sr_51_2 ?_
  refine jx_iload_n dX1_endLiving_8 rfl ?_
  refine jx_iload_n dX1_endLiving_9 rfl ?_
  obtain ⟨q1, hq1, hf⟩ := jbd_inv hf
  refine jx_cVv (a := 17) (As := [.ref (E.2.2.2 + 52), .int a1, .int a2]) (rest := []) dX1_endLiving_10 ml_X1_100 mv_X9_trace (s_X9_trace_52 hE hq1) rfl rfl jc_17 (by decide) (Nat.le_of_ble_eq_true rfl) ?_
  refine jx_aload_n dX1_endLiving_13 rfl ?_
  refine jx_getr dX1_endLiving_14 fl_X1_27 kj_51 sr_51_2 ?_
  refine jx_aload_n dX1_endLiving_17 rfl ?_
  refine jx_getr dX1_endLiving_18 fl_X1_27 kj_51 sr_51_2 ?_
  refine jx_getn dX1_endLiving_21 fl_X1_43 kj_52 (by decide) ?_
  refine jx_iconst (v := 1) dX1_endLiving_24 (by decide) ?_
  refine jx_isub dX1_endLiving_25 ?_
  refine jx_cVi (a := 52) (As := [.int ((nI (q1.2.2.2 52).length) - 1)]) (rest := []) dX1_endLiving_26 ml_X1_64 mv_X8_at (c_row_at (k := 0) kj_52 (by decide)) rfl rfl jc_52 (by decide) (Nat.le_of_ble_eq_true rfl) ?_
  obtain ⟨x2, hx2, hf⟩ := jl_inv hf
  refine jx_nm hx2 ?_
  refine jx_istore_n (ls' := [(0, .ref (E.2.2.2 + 51)), (1, .int a1), (2, .int a2), (3, .int x2)]) dX1_endLiving_29 (by decide) rfl ?_
  refine jx_aload_n dX1_endLiving_30 rfl ?_
  refine jx_getr dX1_endLiving_31 fl_X1_21 kj_51 sr_51_1 ?_
  refine jx_iload_n dX1_endLiving_34 rfl ?_
  refine jx_iload_n dX1_endLiving_35 rfl ?_
  refine jx_iload_n dX1_endLiving_36 rfl ?_
  obtain ⟨x4, w5, hq3, hf⟩ := jbd2_inv hf
  refine jx_cVi (a := 18) (As := [.int x2, .int a1, .int a2]) (rest := []) dX1_endLiving_37 ml_X1_104 mv_X6_slotToward (s_X6_slotToward hE hq3) rfl rfl jc_18 (by decide) (Nat.le_of_ble_eq_true rfl) ?_
  refine jx_istore (ls' := [(0, .ref (E.2.2.2 + 51)), (1, .int a1), (2, .int a2), (3, .int x2), (4, .int x4)]) dX1_endLiving_40 (by decide) rfl ?_
  refine jx_iload dX1_endLiving_42 rfl ?_
  refine jx_iconst (v := (-1)) dX1_endLiving_44 (by decide) ?_
  refine jx_icmp_eq (tgt := 77) dX1_endLiving_45 (by decide) (fun c6 => ?_) (fun c6 => ?_)
  · rw [if_pos c6] at hf
    refine jx_iload_n dX1_endLiving_77 rfl ?_
    cases hf
    exact jx_iret dX1_endLiving_78 rfl rfl
  · rw [if_neg c6] at hf
    refine jx_aload_n dX1_endLiving_48 rfl ?_
    refine jx_getr dX1_endLiving_49 fl_X1_21 kj_51 sr_51_1 ?_
    refine jx_getr dX1_endLiving_52 fl_X1_107 kj_18 sr_18_4 ?_
    refine jx_iload dX1_endLiving_55 rfl ?_
    refine jx_cVi (a := 27) (As := [.int x4]) (rest := []) dX1_endLiving_57 ml_X1_64 mv_X8_at (c_row_at (k := 0) kj_27 (by decide)) rfl rfl jc_27 (by decide) (Nat.le_of_ble_eq_true rfl) ?_
    refine jx_iload_n dX1_endLiving_60 rfl ?_
    refine jx_icmp_ne (tgt := 77) dX1_endLiving_61 (by decide) (fun c7 => ?_) (fun c7 => ?_)
    · rw [if_neg c7] at hf
      refine jx_iload_n dX1_endLiving_77 rfl ?_
      cases hf
      exact jx_iret dX1_endLiving_78 rfl rfl
    · rw [if_pos c7] at hf
      refine jx_aload_n dX1_endLiving_64 rfl ?_
      refine jx_getr dX1_endLiving_65 fl_X1_21 kj_51 sr_51_1 ?_
      refine jx_getr dX1_endLiving_68 fl_X1_110 kj_18 sr_18_7 ?_
      refine jx_iload dX1_endLiving_71 rfl ?_
      refine jx_iload_n dX1_endLiving_73 rfl ?_
      refine jx_cVv (a := 33) (As := [.int x4, .int a2]) (rest := []) dX1_endLiving_74 ml_X1_113 mv_X8_change (c_row_change (k := 0) kj_33 (by decide)) rfl rfl jc_33 (by decide) (Nat.le_of_ble_eq_true rfl) ?_
      obtain ⟨w8, hw8, hf⟩ := jl_inv hf
      refine jx_nw hw8 ?_
      refine jx_iload_n dX1_endLiving_77 rfl ?_
      cases hf
      exact jx_iret dX1_endLiving_78 rfl rfl
def l_X1_gather : Nat → Int32 → Int32 → Int32 → Int32 → jw → Option (jw)
  | 0, _, _, _, _, _ => none
  | n + 1, b1, b2, b3, b4, w => (if b3 ≤ b4 then some w else jbd2 (f_X6_livesAt b4 b2 w) fun x3 w4 => (if (jb x3) = 0 then jl (b4 + 1) fun x6 => (l_X1_gather n b1 b2 b3 x6 w4) else jbd (f_X0_insert (rat (w4.2.2.2 27) b4) (rat (w4.2.2.2 29) b4) (rat (w4.2.2.2 31) b4) w4) fun q7 => jl (b4 + 1) fun x8 => (l_X1_gather n b1 b2 b3 x8 q7)))
set_option maxRecDepth 20000 in
set_option maxHeartbeats 2000000 in
theorem sl_X1_gather {E : jE} (hE : jfull E) : ∀ (n : Nat) (b1 : Int32) (b2 : Int32) (b3 : Int32) (b4 : Int32) (w : jw) (w' : jw), l_X1_gather n b1 b2 b3 b4 w = some w' → jX E m_X1_gather 2 19 [(0, .ref (E.2.2.2 + 51)), (1, .int b1), (2, .int b2), (3, .int b3), (4, .int b4)] [] w none w' := by
  intro n
  induction n with
  | zero => intro b1 b2 b3 b4 w w' hf; cases hf
  | succ n ih =>
    intro b1 b2 b3 b4 w w' hf
    unfold l_X1_gather at hf
    refine jx_iload dX1_gather_19 rfl ?_
    refine jx_iload_n dX1_gather_21 rfl ?_
    refine jx_icmp_ge (tgt := 87) dX1_gather_22 (by decide) (fun c1 => ?_) (fun c1 => ?_)
    · rw [if_pos c1] at hf
      cases hf
      exact jx_vret dX1_gather_87 rfl rfl
    · rw [if_neg c1] at hf
      refine jx_aload_n dX1_gather_25 rfl ?_
      refine jx_getr dX1_gather_26 fl_X1_21 kj_51 sr_51_1 ?_
      refine jx_iload dX1_gather_29 rfl ?_
      refine jx_iload_n dX1_gather_31 rfl ?_
      obtain ⟨x3, w4, hq2, hf⟩ := jbd2_inv hf
      refine jx_cVi (a := 18) (As := [.int b4, .int b2]) (rest := []) dX1_gather_32 ml_X1_122 mv_X6_livesAt (s_X6_livesAt hE hq2) rfl rfl jc_18 (by decide) (Nat.le_of_ble_eq_true rfl) ?_
      refine jx_if_eq (tgt := 81) dX1_gather_35 (by decide) (fun c5 => ?_) (fun c5 => ?_)
      · rw [if_pos c5] at hf
        obtain ⟨x6, hx6, hf⟩ := jl_inv hf
        refine jx_iinc (v := x6) (ls' := [(0, .ref (E.2.2.2 + 51)), (1, .int b1), (2, .int b2), (3, .int b3), (4, .int x6)]) dX1_gather_81 rfl (by rw [hx6]; rfl) (by decide) rfl ?_
        refine jx_goto (tgt := 19) dX1_gather_84 (by decide) ?_
        exact ih _ _ _ _ _ _ hf
      · rw [if_neg c5] at hf
        refine jx_aload_n dX1_gather_38 rfl ?_
        refine jx_getr dX1_gather_39 fl_X1_34 kj_51 sr_51_3 ?_
        refine jx_aload_n dX1_gather_42 rfl ?_
        refine jx_getr dX1_gather_43 fl_X1_21 kj_51 sr_51_1 ?_
        refine jx_getr dX1_gather_46 fl_X1_107 kj_18 sr_18_4 ?_
        refine jx_iload dX1_gather_49 rfl ?_
        refine jx_cVi (a := 27) (As := [.int b4]) (rest := [.ref (E.2.2.2 + 54)]) dX1_gather_51 ml_X1_64 mv_X8_at (c_row_at (k := 0) kj_27 (by decide)) rfl rfl jc_27 (by decide) (Nat.le_of_ble_eq_true rfl) ?_
        refine jx_aload_n dX1_gather_54 rfl ?_
        refine jx_getr dX1_gather_55 fl_X1_21 kj_51 sr_51_1 ?_
        refine jx_getr dX1_gather_58 fl_X1_126 kj_18 sr_18_5 ?_
        refine jx_iload dX1_gather_61 rfl ?_
        refine jx_cVi (a := 29) (As := [.int b4]) (rest := [.int (rat (w4.2.2.2 27) b4), .ref (E.2.2.2 + 54)]) dX1_gather_63 ml_X1_64 mv_X8_at (c_row_at (k := 0) kj_29 (by decide)) rfl rfl jc_29 (by decide) (Nat.le_of_ble_eq_true rfl) ?_
        refine jx_aload_n dX1_gather_66 rfl ?_
        refine jx_getr dX1_gather_67 fl_X1_21 kj_51 sr_51_1 ?_
        refine jx_getr dX1_gather_70 fl_X1_129 kj_18 sr_18_6 ?_
        refine jx_iload dX1_gather_73 rfl ?_
        refine jx_cVi (a := 31) (As := [.int b4]) (rest := [.int (rat (w4.2.2.2 29) b4), .int (rat (w4.2.2.2 27) b4), .ref (E.2.2.2 + 54)]) dX1_gather_75 ml_X1_64 mv_X8_at (c_row_at (k := 0) kj_31 (by decide)) rfl rfl jc_31 (by decide) (Nat.le_of_ble_eq_true rfl) ?_
        obtain ⟨q7, hq7, hf⟩ := jbd_inv hf
        refine jx_cVv (a := 54) (As := [.int (rat (w4.2.2.2 27) b4), .int (rat (w4.2.2.2 29) b4), .int (rat (w4.2.2.2 31) b4)]) (rest := []) dX1_gather_78 ml_X1_80 mv_X0_insert (s_X0_insert hE hq7) rfl rfl jc_54 (by decide) (Nat.le_of_ble_eq_true rfl) ?_
        obtain ⟨x8, hx8, hf⟩ := jl_inv hf
        refine jx_iinc (v := x8) (ls' := [(0, .ref (E.2.2.2 + 51)), (1, .int b1), (2, .int b2), (3, .int b3), (4, .int x8)]) dX1_gather_81 rfl (by rw [hx8]; rfl) (by decide) rfl ?_
        refine jx_goto (tgt := 19) dX1_gather_84 (by decide) ?_
        exact ih _ _ _ _ _ _ hf
def f_X1_gather (a1 : Int32) (a2 : Int32) (w : jw) : Option (jw) := jbd2 (f_X6_endSlot a1 w) fun x10 w11 => jbd2 (f_X6_firstSlot a1 w11) fun x13 w14 => (l_X1_gather jfu a1 a2 x10 x13 w14)
set_option maxRecDepth 20000 in
set_option maxHeartbeats 2000000 in
theorem s_X1_gather {E : jE} (hE : jfull E) {a1 : Int32} {a2 : Int32} {w w' : jw} (hf : f_X1_gather a1 a2 w = some w') : jC E m_X1_gather 2 [.ref (E.2.2.2 + 51), .int a1, .int a2] w none w' := by
  refine jC_of (ls := [(0, .ref (E.2.2.2 + 51)), (1, .int a1), (2, .int a2)]) (by decide) rfl (fun _ => trivial) (Nat.le_of_ble_eq_true rfl) rfl rfl ?_
  unfold f_X1_gather at hf
  refine jx_aload_n dX1_gather_0 rfl ?_
  refine jx_getr dX1_gather_1 fl_X1_21 kj_51 sr_51_1 ?_
  refine jx_iload_n dX1_gather_4 rfl ?_
  obtain ⟨x10, w11, hq9, hf⟩ := jbd2_inv hf
  refine jx_cVi (a := 18) (As := [.int a1]) (rest := []) dX1_gather_5 ml_X1_116 mv_X6_endSlot (s_X6_endSlot hE hq9) rfl rfl jc_18 (by decide) (Nat.le_of_ble_eq_true rfl) ?_
  refine jx_istore_n (ls' := [(0, .ref (E.2.2.2 + 51)), (1, .int a1), (2, .int a2), (3, .int x10)]) dX1_gather_8 (by decide) rfl ?_
  refine jx_aload_n dX1_gather_9 rfl ?_
  refine jx_getr dX1_gather_10 fl_X1_21 kj_51 sr_51_1 ?_
  refine jx_iload_n dX1_gather_13 rfl ?_
  obtain ⟨x13, w14, hq12, hf⟩ := jbd2_inv hf
  refine jx_cVi (a := 18) (As := [.int a1]) (rest := []) dX1_gather_14 ml_X1_119 mv_X6_firstSlot (s_X6_firstSlot hE hq12) rfl rfl jc_18 (by decide) (Nat.le_of_ble_eq_true rfl) ?_
  refine jx_istore (ls' := [(0, .ref (E.2.2.2 + 51)), (1, .int a1), (2, .int a2), (3, .int x10), (4, .int x13)]) dX1_gather_17 (by decide) rfl ?_
  exact sl_X1_gather hE jfu _ _ _ _ _ _ hf
def f_X1_crown (a1 : Int32) (w : jw) : Option (jw) := jl (w.1 51 4 : Int32) fun x1 => (if (w.1 51 6) = (-1) then jbd (f_X9_addRoot x1 a1 w) fun q3 => some q3 else jbd2 (f_X6_open 0 a1 w) fun x5 w6 => jbd (f_X6_append x5 0 (w6.1 51 4) a1 w6) fun q7 => jbd (f_X6_append x5 (q7.1 51 6) ((q7.1 51 4) + 1) a1 q7) fun q8 => jbd (f_X9_addRoot x5 a1 q8) fun q9 => some q9)
set_option maxRecDepth 20000 in
set_option maxHeartbeats 2000000 in
theorem s_X1_crown {E : jE} (hE : jfull E) {a1 : Int32} {w w' : jw} (hf : f_X1_crown a1 w = some w') : jC E m_X1_crown 4 [.ref (E.2.2.2 + 51), .int a1] w none w' := by
  refine jC_of (ls := [(0, .ref (E.2.2.2 + 51)), (1, .int a1)]) (by decide) rfl (fun _ => trivial) (Nat.le_of_ble_eq_true rfl) rfl rfl ?_
  unfold f_X1_crown at hf
  refine jx_aload_n dX1_crown_0 rfl ?_
  refine jx_geti dX1_crown_1 fl_X1_164 kj_51 sr_51_4 ?_
  obtain ⟨x1, hx1, hf⟩ := jl_inv hf
  refine jx_nm hx1 ?_
  refine jx_istore_n (ls' := [(0, .ref (E.2.2.2 + 51)), (1, .int a1), (2, .int x1)]) dX1_crown_4 (by decide) rfl ?_
  refine jx_aload_n dX1_crown_5 rfl ?_
  refine jx_geti dX1_crown_6 fl_X1_167 kj_51 sr_51_6 ?_
  refine jx_iconst (v := (-1)) dX1_crown_9 (by decide) ?_
  refine jx_icmp_eq (tgt := 56) dX1_crown_10 (by decide) (fun c2 => ?_) (fun c2 => ?_)
  · rw [if_pos c2] at hf
    refine jx_aload_n dX1_crown_56 rfl ?_
    refine jx_getr dX1_crown_57 fl_X1_9 kj_51 sr_51_0 ?_
    refine jx_iload_n dX1_crown_60 rfl ?_
    refine jx_iload_n dX1_crown_61 rfl ?_
    obtain ⟨q3, hq3, hf⟩ := jbd_inv hf
    refine jx_cVv (a := 17) (As := [.int x1, .int a1]) (rest := []) dX1_crown_62 ml_X1_177 mv_X9_addRoot (s_X9_addRoot hE hq3) rfl rfl jc_17 (by decide) (Nat.le_of_ble_eq_true rfl) ?_
    cases hf
    exact jx_vret dX1_crown_65 rfl rfl
  · rw [if_neg c2] at hf
    refine jx_aload_n dX1_crown_13 rfl ?_
    refine jx_getr dX1_crown_14 fl_X1_21 kj_51 sr_51_1 ?_
    refine jx_iconst (v := 0) dX1_crown_17 (by decide) ?_
    refine jx_iload_n dX1_crown_18 rfl ?_
    obtain ⟨x5, w6, hq4, hf⟩ := jbd2_inv hf
    refine jx_cVi (a := 18) (As := [.int 0, .int a1]) (rest := []) dX1_crown_19 ml_X1_161 mv_X6_open (s_X6_open hE hq4) rfl rfl jc_18 (by decide) (Nat.le_of_ble_eq_true rfl) ?_
    refine jx_istore_n (ls' := [(0, .ref (E.2.2.2 + 51)), (1, .int a1), (2, .int x5)]) dX1_crown_22 (by decide) rfl ?_
    refine jx_aload_n dX1_crown_23 rfl ?_
    refine jx_getr dX1_crown_24 fl_X1_21 kj_51 sr_51_1 ?_
    refine jx_iload_n dX1_crown_27 rfl ?_
    refine jx_iconst (v := 0) dX1_crown_28 (by decide) ?_
    refine jx_aload_n dX1_crown_29 rfl ?_
    refine jx_geti dX1_crown_30 fl_X1_164 kj_51 sr_51_4 ?_
    refine jx_iload_n dX1_crown_33 rfl ?_
    obtain ⟨q7, hq7, hf⟩ := jbd_inv hf
    refine jx_cVv (a := 18) (As := [.int x5, .int 0, .int (w6.1 51 4), .int a1]) (rest := []) dX1_crown_34 ml_X1_71 mv_X6_append (s_X6_append hE hq7) rfl rfl jc_18 (by decide) (Nat.le_of_ble_eq_true rfl) ?_
    refine jx_aload_n dX1_crown_37 rfl ?_
    refine jx_getr dX1_crown_38 fl_X1_21 kj_51 sr_51_1 ?_
    refine jx_iload_n dX1_crown_41 rfl ?_
    refine jx_aload_n dX1_crown_42 rfl ?_
    refine jx_geti dX1_crown_43 fl_X1_167 kj_51 sr_51_6 ?_
    refine jx_aload_n dX1_crown_46 rfl ?_
    refine jx_geti dX1_crown_47 fl_X1_164 kj_51 sr_51_4 ?_
    refine jx_iconst (v := 1) dX1_crown_50 (by decide) ?_
    refine jx_iadd dX1_crown_51 ?_
    refine jx_iload_n dX1_crown_52 rfl ?_
    obtain ⟨q8, hq8, hf⟩ := jbd_inv hf
    refine jx_cVv (a := 18) (As := [.int x5, .int (q7.1 51 6), .int ((q7.1 51 4) + 1), .int a1]) (rest := []) dX1_crown_53 ml_X1_71 mv_X6_append (s_X6_append hE hq8) rfl rfl jc_18 (by decide) (Nat.le_of_ble_eq_true rfl) ?_
    refine jx_aload_n dX1_crown_56 rfl ?_
    refine jx_getr dX1_crown_57 fl_X1_9 kj_51 sr_51_0 ?_
    refine jx_iload_n dX1_crown_60 rfl ?_
    refine jx_iload_n dX1_crown_61 rfl ?_
    obtain ⟨q9, hq9, hf⟩ := jbd_inv hf
    refine jx_cVv (a := 17) (As := [.int x5, .int a1]) (rest := []) dX1_crown_62 ml_X1_177 mv_X9_addRoot (s_X9_addRoot hE hq9) rfl rfl jc_17 (by decide) (Nat.le_of_ble_eq_true rfl) ?_
    cases hf
    exact jx_vret dX1_crown_65 rfl rfl
def f_X1_handUp (a1 : Int32) (a2 : Int32) (w : jw) : Option (Bool × jw) := jl (rat (w.2.2.2 52) a1 : Int32) fun x1 => jbd (if (w.1 51 6) = (-1) then some (1 : Int32) else some (2 : Int32)) fun x3 => (if ((rat (w.2.2.2 21) x1) + x3) ≤ (w.1 18 8) then jbd (f_X6_append x1 (w.1 51 5) (w.1 51 4) a2 w) fun q6 => jbd (if x3 = 2 then jbd (f_X6_append x1 (q6.1 51 6) ((q6.1 51 4) + 1) a2 q6) fun q25 => some q25 else some q6) fun w8 => jbd2 (f_X6_livingIn x1 a2 w8) fun x11 w12 => (if a1 = 0 then jbd (if x11 = 1 then jl (jsetR w12 25 (rset (w12.2.2.2 25) x1 a2)) fun w23 => jbd (f_X9_addRoot (w23.1 51 4) a2 w23) fun q24 => some q24 else some w12) fun w21 => some (false, w21) else jbd2 (f_X6_weak  w12) fun x15 w16 => (if x11 < x15 then jl (jsetI w16 54 3 0) fun w18 => jbd (f_X1_gather x1 a2 w18) fun q19 => some (true, q19) else some (false, w16))) else jl (jsetI w 54 3 0) fun w26 => jbd (f_X1_gather x1 a2 w26) fun q27 => jbd (f_X0_insert (q27.1 51 5) (q27.1 51 4) a2 q27) fun q28 => jbd (if x3 = 2 then jbd (f_X0_insert (q28.1 51 6) ((q28.1 51 4) + 1) a2 q28) fun q32 => some q32 else some q28) fun w30 => some (true, w30))
set_option maxRecDepth 20000 in
set_option maxHeartbeats 2000000 in
theorem s_X1_handUp {E : jE} (hE : jfull E) {a1 : Int32} {a2 : Int32} {w w' : jw} {v : Bool} (hf : f_X1_handUp a1 a2 w = some (v, w')) : jC E m_X1_handUp 4 [.ref (E.2.2.2 + 51), .int a1, .int a2] w (some (.int (jb v))) w' := by
  refine jC_of (ls := [(0, .ref (E.2.2.2 + 51)), (1, .int a1), (2, .int a2)]) (by decide) rfl (fun _ => trivial) (Nat.le_of_ble_eq_true rfl) rfl jb_ans ?_
  unfold f_X1_handUp at hf
  refine jx_aload_n dX1_handUp_0 rfl ?_
  refine jx_getr dX1_handUp_1 fl_X1_27 kj_51 sr_51_2 ?_
  refine jx_iload_n dX1_handUp_4 rfl ?_
  refine jx_cVi (a := 52) (As := [.int a1]) (rest := []) dX1_handUp_5 ml_X1_64 mv_X8_at (c_row_at (k := 0) kj_52 (by decide)) rfl rfl jc_52 (by decide) (Nat.le_of_ble_eq_true rfl) ?_
  obtain ⟨x1, hx1, hf⟩ := jl_inv hf
  refine jx_nm hx1 ?_
  refine jx_istore_n (ls' := [(0, .ref (E.2.2.2 + 51)), (1, .int a1), (2, .int a2), (3, .int x1)]) dX1_handUp_8 (by decide) rfl ?_
  refine jx_aload_n dX1_handUp_9 rfl ?_
  refine jx_geti dX1_handUp_10 fl_X1_167 kj_51 sr_51_6 ?_
  refine jx_iconst (v := (-1)) dX1_handUp_13 (by decide) ?_
  obtain ⟨x3, hqhJ4, hf⟩ := jbd_inv hf
  have hJ4 : jX E m_X1_handUp 4 22 [(0, .ref (E.2.2.2 + 51)), (1, .int a1), (2, .int a2), (3, .int x1)] [.int x3] w (some (.int (jb v))) w' := by
    refine jx_istore (ls' := [(0, .ref (E.2.2.2 + 51)), (1, .int a1), (2, .int a2), (3, .int x1), (4, .int x3)]) dX1_handUp_22 (by decide) rfl ?_
    refine jx_aload_n dX1_handUp_24 rfl ?_
    refine jx_getr dX1_handUp_25 fl_X1_21 kj_51 sr_51_1 ?_
    refine jx_getr dX1_handUp_28 fl_X1_61 kj_18 sr_18_1 ?_
    refine jx_iload_n dX1_handUp_31 rfl ?_
    refine jx_cVi (a := 21) (As := [.int x1]) (rest := []) dX1_handUp_32 ml_X1_64 mv_X8_at (c_row_at (k := 0) kj_21 (by decide)) rfl rfl jc_21 (by decide) (Nat.le_of_ble_eq_true rfl) ?_
    refine jx_iload dX1_handUp_35 rfl ?_
    refine jx_iadd dX1_handUp_37 ?_
    refine jx_aload_n dX1_handUp_38 rfl ?_
    refine jx_getr dX1_handUp_39 fl_X1_21 kj_51 sr_51_1 ?_
    refine jx_geti dX1_handUp_42 fl_X1_68 kj_18 sr_18_8 ?_
    refine jx_icmp_le (tgt := 104) dX1_handUp_45 (by decide) (fun c5 => ?_) (fun c5 => ?_)
    · rw [if_pos c5] at hf
      refine jx_aload_n dX1_handUp_104 rfl ?_
      refine jx_getr dX1_handUp_105 fl_X1_21 kj_51 sr_51_1 ?_
      refine jx_iload_n dX1_handUp_108 rfl ?_
      refine jx_aload_n dX1_handUp_109 rfl ?_
      refine jx_geti dX1_handUp_110 fl_X1_150 kj_51 sr_51_5 ?_
      refine jx_aload_n dX1_handUp_113 rfl ?_
      refine jx_geti dX1_handUp_114 fl_X1_164 kj_51 sr_51_4 ?_
      refine jx_iload_n dX1_handUp_117 rfl ?_
      obtain ⟨q6, hq6, hf⟩ := jbd_inv hf
      refine jx_cVv (a := 18) (As := [.int x1, .int (w.1 51 5), .int (w.1 51 4), .int a2]) (rest := []) dX1_handUp_118 ml_X1_71 mv_X6_append (s_X6_append hE hq6) rfl rfl jc_18 (by decide) (Nat.le_of_ble_eq_true rfl) ?_
      refine jx_iload dX1_handUp_121 rfl ?_
      refine jx_iconst (v := 2) dX1_handUp_123 (by decide) ?_
      obtain ⟨w8, hqhJ9, hf⟩ := jbd_inv hf
      have hJ9 : jX E m_X1_handUp 4 146 [(0, .ref (E.2.2.2 + 51)), (1, .int a1), (2, .int a2), (3, .int x1), (4, .int x3)] [] w8 (some (.int (jb v))) w' := by
        refine jx_aload_n dX1_handUp_146 rfl ?_
        refine jx_getr dX1_handUp_147 fl_X1_21 kj_51 sr_51_1 ?_
        refine jx_iload_n dX1_handUp_150 rfl ?_
        refine jx_iload_n dX1_handUp_151 rfl ?_
        obtain ⟨x11, w12, hq10, hf⟩ := jbd2_inv hf
        refine jx_cVi (a := 18) (As := [.int x1, .int a2]) (rest := []) dX1_handUp_152 ml_X1_94 mv_X6_livingIn (s_X6_livingIn hE hq10) rfl rfl jc_18 (by decide) (Nat.le_of_ble_eq_true rfl) ?_
        refine jx_istore (ls' := [(0, .ref (E.2.2.2 + 51)), (1, .int a1), (2, .int a2), (3, .int x1), (4, .int x3), (5, .int x11)]) dX1_handUp_155 (by decide) rfl ?_
        refine jx_iload_n dX1_handUp_157 rfl ?_
        refine jx_if_ne (tgt := 193) dX1_handUp_158 (by decide) (fun c13 => ?_) (fun c13 => ?_)
        · rw [if_neg c13] at hf
          refine jx_iload dX1_handUp_193 rfl ?_
          refine jx_aload_n dX1_handUp_195 rfl ?_
          refine jx_getr dX1_handUp_196 fl_X1_21 kj_51 sr_51_1 ?_
          obtain ⟨x15, w16, hq14, hf⟩ := jbd2_inv hf
          refine jx_cVi (a := 18) (As := []) (rest := [.int x11]) dX1_handUp_199 ml_X1_97 mv_X6_weak (s_X6_weak hE hq14) rfl rfl jc_18 (by decide) (Nat.le_of_ble_eq_true rfl) ?_
          refine jx_icmp_lt (tgt := 207) dX1_handUp_202 (by decide) (fun c17 => ?_) (fun c17 => ?_)
          · rw [if_pos c17] at hf
            refine jx_aload_n dX1_handUp_207 rfl ?_
            refine jx_getr dX1_handUp_208 fl_X1_34 kj_51 sr_51_3 ?_
            refine jx_iconst (v := 0) dX1_handUp_211 (by decide) ?_
            refine jx_puti dX1_handUp_212 fp_X1_75 kj_54 sr_54_3 rfl rfl ?_
            obtain ⟨w18, hw18, hf⟩ := jl_inv hf
            refine jx_nw hw18 ?_
            refine jx_aload_n dX1_handUp_215 rfl ?_
            refine jx_iload_n dX1_handUp_216 rfl ?_
            refine jx_iload_n dX1_handUp_217 rfl ?_
            obtain ⟨q19, hq19, hf⟩ := jbd_inv hf
            refine jx_cVv (a := 51) (As := [.int x1, .int a2]) (rest := []) dX1_handUp_218 ml_X1_76 mv_X1_gather (s_X1_gather hE hq19) rfl rfl jc_51 (by decide) (Nat.le_of_ble_eq_true rfl) ?_
            refine jx_iconst (v := 1) dX1_handUp_221 (by decide) ?_
            cases hf
            exact jx_iret dX1_handUp_222 rfl rfl
          · rw [if_neg c17] at hf
            refine jx_iconst (v := 0) dX1_handUp_205 (by decide) ?_
            cases hf
            exact jx_iret dX1_handUp_206 rfl rfl
        · rw [if_pos c13] at hf
          refine jx_iload dX1_handUp_161 rfl ?_
          refine jx_iconst (v := 1) dX1_handUp_163 (by decide) ?_
          obtain ⟨w21, hqhJ22, hf⟩ := jbd_inv hf
          have hJ22 : jX E m_X1_handUp 4 191 [(0, .ref (E.2.2.2 + 51)), (1, .int a1), (2, .int a2), (3, .int x1), (4, .int x3), (5, .int x11)] [] w21 (some (.int (jb v))) w' := by
            refine jx_iconst (v := 0) dX1_handUp_191 (by decide) ?_
            cases hf
            exact jx_iret dX1_handUp_192 rfl rfl
          clear hf
          have hf := hqhJ22
          clear hqhJ22
          refine jx_icmp_ne (tgt := 191) dX1_handUp_164 (by decide) (fun c20 => ?_) (fun c20 => ?_)
          · rw [if_neg c20] at hf
            cases hf
            exact hJ22
          · rw [if_pos c20] at hf
            refine jx_aload_n dX1_handUp_167 rfl ?_
            refine jx_getr dX1_handUp_168 fl_X1_21 kj_51 sr_51_1 ?_
            refine jx_getr dX1_handUp_171 fl_X1_135 kj_18 sr_18_3 ?_
            refine jx_iload_n dX1_handUp_174 rfl ?_
            refine jx_iload_n dX1_handUp_175 rfl ?_
            refine jx_cVv (a := 25) (As := [.int x1, .int a2]) (rest := []) dX1_handUp_176 ml_X1_113 mv_X8_change (c_row_change (k := 0) kj_25 (by decide)) rfl rfl jc_25 (by decide) (Nat.le_of_ble_eq_true rfl) ?_
            obtain ⟨w23, hw23, hf⟩ := jl_inv hf
            refine jx_nw hw23 ?_
            refine jx_aload_n dX1_handUp_179 rfl ?_
            refine jx_getr dX1_handUp_180 fl_X1_9 kj_51 sr_51_0 ?_
            refine jx_aload_n dX1_handUp_183 rfl ?_
            refine jx_geti dX1_handUp_184 fl_X1_164 kj_51 sr_51_4 ?_
            refine jx_iload_n dX1_handUp_187 rfl ?_
            obtain ⟨q24, hq24, hf⟩ := jbd_inv hf
            refine jx_cVv (a := 17) (As := [.int (w23.1 51 4), .int a2]) (rest := []) dX1_handUp_188 ml_X1_177 mv_X9_addRoot (s_X9_addRoot hE hq24) rfl rfl jc_17 (by decide) (Nat.le_of_ble_eq_true rfl) ?_
            cases hf
            exact hJ22
      clear hf
      have hf := hqhJ9
      clear hqhJ9
      refine jx_icmp_ne (tgt := 146) dX1_handUp_124 (by decide) (fun c7 => ?_) (fun c7 => ?_)
      · rw [if_neg c7] at hf
        cases hf
        exact hJ9
      · rw [if_pos c7] at hf
        refine jx_aload_n dX1_handUp_127 rfl ?_
        refine jx_getr dX1_handUp_128 fl_X1_21 kj_51 sr_51_1 ?_
        refine jx_iload_n dX1_handUp_131 rfl ?_
        refine jx_aload_n dX1_handUp_132 rfl ?_
        refine jx_geti dX1_handUp_133 fl_X1_167 kj_51 sr_51_6 ?_
        refine jx_aload_n dX1_handUp_136 rfl ?_
        refine jx_geti dX1_handUp_137 fl_X1_164 kj_51 sr_51_4 ?_
        refine jx_iconst (v := 1) dX1_handUp_140 (by decide) ?_
        refine jx_iadd dX1_handUp_141 ?_
        refine jx_iload_n dX1_handUp_142 rfl ?_
        obtain ⟨q25, hq25, hf⟩ := jbd_inv hf
        refine jx_cVv (a := 18) (As := [.int x1, .int (q6.1 51 6), .int ((q6.1 51 4) + 1), .int a2]) (rest := []) dX1_handUp_143 ml_X1_71 mv_X6_append (s_X6_append hE hq25) rfl rfl jc_18 (by decide) (Nat.le_of_ble_eq_true rfl) ?_
        cases hf
        exact hJ9
    · rw [if_neg c5] at hf
      refine jx_aload_n dX1_handUp_48 rfl ?_
      refine jx_getr dX1_handUp_49 fl_X1_34 kj_51 sr_51_3 ?_
      refine jx_iconst (v := 0) dX1_handUp_52 (by decide) ?_
      refine jx_puti dX1_handUp_53 fp_X1_75 kj_54 sr_54_3 rfl rfl ?_
      obtain ⟨w26, hw26, hf⟩ := jl_inv hf
      refine jx_nw hw26 ?_
      refine jx_aload_n dX1_handUp_56 rfl ?_
      refine jx_iload_n dX1_handUp_57 rfl ?_
      refine jx_iload_n dX1_handUp_58 rfl ?_
      obtain ⟨q27, hq27, hf⟩ := jbd_inv hf
      refine jx_cVv (a := 51) (As := [.int x1, .int a2]) (rest := []) dX1_handUp_59 ml_X1_76 mv_X1_gather (s_X1_gather hE hq27) rfl rfl jc_51 (by decide) (Nat.le_of_ble_eq_true rfl) ?_
      refine jx_aload_n dX1_handUp_62 rfl ?_
      refine jx_getr dX1_handUp_63 fl_X1_34 kj_51 sr_51_3 ?_
      refine jx_aload_n dX1_handUp_66 rfl ?_
      refine jx_geti dX1_handUp_67 fl_X1_150 kj_51 sr_51_5 ?_
      refine jx_aload_n dX1_handUp_70 rfl ?_
      refine jx_geti dX1_handUp_71 fl_X1_164 kj_51 sr_51_4 ?_
      refine jx_iload_n dX1_handUp_74 rfl ?_
      obtain ⟨q28, hq28, hf⟩ := jbd_inv hf
      refine jx_cVv (a := 54) (As := [.int (q27.1 51 5), .int (q27.1 51 4), .int a2]) (rest := []) dX1_handUp_75 ml_X1_80 mv_X0_insert (s_X0_insert hE hq28) rfl rfl jc_54 (by decide) (Nat.le_of_ble_eq_true rfl) ?_
      refine jx_iload dX1_handUp_78 rfl ?_
      refine jx_iconst (v := 2) dX1_handUp_80 (by decide) ?_
      obtain ⟨w30, hqhJ31, hf⟩ := jbd_inv hf
      have hJ31 : jX E m_X1_handUp 4 102 [(0, .ref (E.2.2.2 + 51)), (1, .int a1), (2, .int a2), (3, .int x1), (4, .int x3)] [] w30 (some (.int (jb v))) w' := by
        refine jx_iconst (v := 1) dX1_handUp_102 (by decide) ?_
        cases hf
        exact jx_iret dX1_handUp_103 rfl rfl
      clear hf
      have hf := hqhJ31
      clear hqhJ31
      refine jx_icmp_ne (tgt := 102) dX1_handUp_81 (by decide) (fun c29 => ?_) (fun c29 => ?_)
      · rw [if_neg c29] at hf
        cases hf
        exact hJ31
      · rw [if_pos c29] at hf
        refine jx_aload_n dX1_handUp_84 rfl ?_
        refine jx_getr dX1_handUp_85 fl_X1_34 kj_51 sr_51_3 ?_
        refine jx_aload_n dX1_handUp_88 rfl ?_
        refine jx_geti dX1_handUp_89 fl_X1_167 kj_51 sr_51_6 ?_
        refine jx_aload_n dX1_handUp_92 rfl ?_
        refine jx_geti dX1_handUp_93 fl_X1_164 kj_51 sr_51_4 ?_
        refine jx_iconst (v := 1) dX1_handUp_96 (by decide) ?_
        refine jx_iadd dX1_handUp_97 ?_
        refine jx_iload_n dX1_handUp_98 rfl ?_
        obtain ⟨q32, hq32, hf⟩ := jbd_inv hf
        refine jx_cVv (a := 54) (As := [.int (q28.1 51 6), .int ((q28.1 51 4) + 1), .int a2]) (rest := []) dX1_handUp_99 ml_X1_80 mv_X0_insert (s_X0_insert hE hq32) rfl rfl jc_54 (by decide) (Nat.le_of_ble_eq_true rfl) ?_
        cases hf
        exact hJ31
  clear hf
  have hf := hqhJ4
  clear hqhJ4
  refine jx_icmp_ne (tgt := 21) dX1_handUp_14 (by decide) (fun c2 => ?_) (fun c2 => ?_)
  · rw [if_neg c2] at hf
    refine jx_iconst (v := 2) dX1_handUp_21 (by decide) ?_
    cases hf
    exact hJ4
  · rw [if_pos c2] at hf
    refine jx_iconst (v := 1) dX1_handUp_17 (by decide) ?_
    refine jx_goto (tgt := 22) dX1_handUp_18 (by decide) ?_
    cases hf
    exact hJ4
def l_X1_slotOf : Nat → Int32 → Int32 → Int32 → Int32 → Int32 → jw → Option (Int32 × jw)
  | 0, _, _, _, _, _, _ => none
  | n + 1, b1, b2, b3, b4, b5, w => (if b4 ≤ b5 then some ((-1), w) else (if (rat (w.2.2.2 29) b5) = b2 then jbd2 (f_X6_livesAt b5 b3 w) fun x5 w6 => (if (jb x5) = 0 then jl (b5 + 1) fun x8 => (l_X1_slotOf n b1 b2 b3 b4 x8 w6) else some (b5, w6)) else jl (b5 + 1) fun x3 => (l_X1_slotOf n b1 b2 b3 b4 x3 w)))
set_option maxRecDepth 20000 in
set_option maxHeartbeats 2000000 in
theorem sl_X1_slotOf {E : jE} (hE : jfull E) : ∀ (n : Nat) (b1 : Int32) (b2 : Int32) (b3 : Int32) (b4 : Int32) (b5 : Int32) (w : jw) (v : Int32) (w' : jw), l_X1_slotOf n b1 b2 b3 b4 b5 w = some (v, w') → jX E m_X1_slotOf 2 20 [(0, .ref (E.2.2.2 + 51)), (1, .int b1), (2, .int b2), (3, .int b3), (4, .int b4), (5, .int b5)] [] w (some (.int v)) w' := by
  intro n
  induction n with
  | zero => intro b1 b2 b3 b4 b5 w v w' hf; cases hf
  | succ n ih =>
    intro b1 b2 b3 b4 b5 w v w' hf
    unfold l_X1_slotOf at hf
    refine jx_iload dX1_slotOf_20 rfl ?_
    refine jx_iload dX1_slotOf_22 rfl ?_
    refine jx_icmp_ge (tgt := 65) dX1_slotOf_24 (by decide) (fun c1 => ?_) (fun c1 => ?_)
    · rw [if_pos c1] at hf
      refine jx_iconst (v := (-1)) dX1_slotOf_65 (by decide) ?_
      cases hf
      exact jx_iret dX1_slotOf_66 rfl rfl
    · rw [if_neg c1] at hf
      refine jx_aload_n dX1_slotOf_27 rfl ?_
      refine jx_getr dX1_slotOf_28 fl_X1_21 kj_51 sr_51_1 ?_
      refine jx_getr dX1_slotOf_31 fl_X1_126 kj_18 sr_18_5 ?_
      refine jx_iload dX1_slotOf_34 rfl ?_
      refine jx_cVi (a := 29) (As := [.int b5]) (rest := []) dX1_slotOf_36 ml_X1_64 mv_X8_at (c_row_at (k := 0) kj_29 (by decide)) rfl rfl jc_29 (by decide) (Nat.le_of_ble_eq_true rfl) ?_
      refine jx_iload_n dX1_slotOf_39 rfl ?_
      refine jx_icmp_ne (tgt := 59) dX1_slotOf_40 (by decide) (fun c2 => ?_) (fun c2 => ?_)
      · rw [if_neg c2] at hf
        obtain ⟨x3, hx3, hf⟩ := jl_inv hf
        refine jx_iinc (v := x3) (ls' := [(0, .ref (E.2.2.2 + 51)), (1, .int b1), (2, .int b2), (3, .int b3), (4, .int b4), (5, .int x3)]) dX1_slotOf_59 rfl (by rw [hx3]; rfl) (by decide) rfl ?_
        refine jx_goto (tgt := 20) dX1_slotOf_62 (by decide) ?_
        exact ih _ _ _ _ _ _ _ _ hf
      · rw [if_pos c2] at hf
        refine jx_aload_n dX1_slotOf_43 rfl ?_
        refine jx_getr dX1_slotOf_44 fl_X1_21 kj_51 sr_51_1 ?_
        refine jx_iload dX1_slotOf_47 rfl ?_
        refine jx_iload_n dX1_slotOf_49 rfl ?_
        obtain ⟨x5, w6, hq4, hf⟩ := jbd2_inv hf
        refine jx_cVi (a := 18) (As := [.int b5, .int b3]) (rest := []) dX1_slotOf_50 ml_X1_122 mv_X6_livesAt (s_X6_livesAt hE hq4) rfl rfl jc_18 (by decide) (Nat.le_of_ble_eq_true rfl) ?_
        refine jx_if_eq (tgt := 59) dX1_slotOf_53 (by decide) (fun c7 => ?_) (fun c7 => ?_)
        · rw [if_pos c7] at hf
          obtain ⟨x8, hx8, hf⟩ := jl_inv hf
          refine jx_iinc (v := x8) (ls' := [(0, .ref (E.2.2.2 + 51)), (1, .int b1), (2, .int b2), (3, .int b3), (4, .int b4), (5, .int x8)]) dX1_slotOf_59 rfl (by rw [hx8]; rfl) (by decide) rfl ?_
          refine jx_goto (tgt := 20) dX1_slotOf_62 (by decide) ?_
          exact ih _ _ _ _ _ _ _ _ hf
        · rw [if_neg c7] at hf
          refine jx_iload dX1_slotOf_56 rfl ?_
          cases hf
          exact jx_iret dX1_slotOf_58 rfl rfl
def f_X1_slotOf (a1 : Int32) (a2 : Int32) (a3 : Int32) (w : jw) : Option (Int32 × jw) := jbd2 (f_X6_endSlot a1 w) fun x10 w11 => jbd2 (f_X6_firstSlot a1 w11) fun x13 w14 => (l_X1_slotOf jfu a1 a2 a3 x10 x13 w14)
set_option maxRecDepth 20000 in
set_option maxHeartbeats 2000000 in
theorem s_X1_slotOf {E : jE} (hE : jfull E) {a1 : Int32} {a2 : Int32} {a3 : Int32} {w w' : jw} {v : Int32} (hf : f_X1_slotOf a1 a2 a3 w = some (v, w')) : jC E m_X1_slotOf 2 [.ref (E.2.2.2 + 51), .int a1, .int a2, .int a3] w (some (.int v)) w' := by
  refine jC_of (ls := [(0, .ref (E.2.2.2 + 51)), (1, .int a1), (2, .int a2), (3, .int a3)]) (by decide) rfl (fun _ => trivial) (Nat.le_of_ble_eq_true rfl) rfl ⟨.int, rfl, rfl⟩ ?_
  unfold f_X1_slotOf at hf
  refine jx_aload_n dX1_slotOf_0 rfl ?_
  refine jx_getr dX1_slotOf_1 fl_X1_21 kj_51 sr_51_1 ?_
  refine jx_iload_n dX1_slotOf_4 rfl ?_
  obtain ⟨x10, w11, hq9, hf⟩ := jbd2_inv hf
  refine jx_cVi (a := 18) (As := [.int a1]) (rest := []) dX1_slotOf_5 ml_X1_116 mv_X6_endSlot (s_X6_endSlot hE hq9) rfl rfl jc_18 (by decide) (Nat.le_of_ble_eq_true rfl) ?_
  refine jx_istore (ls' := [(0, .ref (E.2.2.2 + 51)), (1, .int a1), (2, .int a2), (3, .int a3), (4, .int x10)]) dX1_slotOf_8 (by decide) rfl ?_
  refine jx_aload_n dX1_slotOf_10 rfl ?_
  refine jx_getr dX1_slotOf_11 fl_X1_21 kj_51 sr_51_1 ?_
  refine jx_iload_n dX1_slotOf_14 rfl ?_
  obtain ⟨x13, w14, hq12, hf⟩ := jbd2_inv hf
  refine jx_cVi (a := 18) (As := [.int a1]) (rest := []) dX1_slotOf_15 ml_X1_119 mv_X6_firstSlot (s_X6_firstSlot hE hq12) rfl rfl jc_18 (by decide) (Nat.le_of_ble_eq_true rfl) ?_
  refine jx_istore (ls' := [(0, .ref (E.2.2.2 + 51)), (1, .int a1), (2, .int a2), (3, .int a3), (4, .int x10), (5, .int x13)]) dX1_slotOf_18 (by decide) rfl ?_
  exact sl_X1_slotOf hE jfu _ _ _ _ _ _ _ _ hf
def f_X1_leaveAbove (a1 : Int32) (a2 : Int32) (a3 : Int32) (w : jw) : Option (jw) := jbd2 (f_X1_slotOf a2 a1 a3 w) fun x2 w3 => jl (jsetI w3 51 5 (rat (w3.2.2.2 27) x2)) fun w4 => jbd2 (f_X6_weak  w4) fun x6 w7 => (if (x6 + 1) ≤ (w4.1 54 3) then (if ((-1) : Int32) = (-1) then jl (jsetR w7 33 (rset (w7.2.2.2 33) x2 a3)) fun w10 => some w10 else jl (rat (w7.2.2.2 29) (-1) : Int32) fun x11 => jbd (f_X1_gather x11 a3 w7) fun q12 => jl (jsetR q12 25 (rset (q12.2.2.2 25) x11 a3)) fun w13 => jl (jsetR w13 33 (rset (w13.2.2.2 33) (-1) a3)) fun w14 => jl (jsetI w14 51 5 (if (rat (w14.2.2.2 27) (-1)) < (w14.1 51 5) then rat (w14.2.2.2 27) (-1) else w14.1 51 5)) fun w15 => jl (jsetR w15 33 (rset (w15.2.2.2 33) x2 a3)) fun w16 => some w16) else jbd2 (f_X6_slotAfter a2 (w7.1 51 5) a3 w7) fun x18 w19 => (if x18 = (-1) then jbd2 (f_X6_slotToward a2 ((w19.1 51 5) - 1) a3 w19) fun x30 w31 => (if x30 = (-1) then jl (jsetR w31 33 (rset (w31.2.2.2 33) x2 a3)) fun w33 => some w33 else jl (rat (w31.2.2.2 29) x30 : Int32) fun x34 => jbd (f_X1_gather x34 a3 w31) fun q35 => jl (jsetR q35 25 (rset (q35.2.2.2 25) x34 a3)) fun w36 => jl (jsetR w36 33 (rset (w36.2.2.2 33) x30 a3)) fun w37 => jl (jsetI w37 51 5 (if (rat (w37.2.2.2 27) x30) < (w37.1 51 5) then rat (w37.2.2.2 27) x30 else w37.1 51 5)) fun w38 => jl (jsetR w38 33 (rset (w38.2.2.2 33) x2 a3)) fun w39 => some w39) else (if x18 = (-1) then jl (jsetR w19 33 (rset (w19.2.2.2 33) x2 a3)) fun w22 => some w22 else jl (rat (w19.2.2.2 29) x18 : Int32) fun x23 => jbd (f_X1_gather x23 a3 w19) fun q24 => jl (jsetR q24 25 (rset (q24.2.2.2 25) x23 a3)) fun w25 => jl (jsetR w25 33 (rset (w25.2.2.2 33) x18 a3)) fun w26 => jl (jsetI w26 51 5 (if (rat (w26.2.2.2 27) x18) < (w26.1 51 5) then rat (w26.2.2.2 27) x18 else w26.1 51 5)) fun w27 => jl (jsetR w27 33 (rset (w27.2.2.2 33) x2 a3)) fun w28 => some w28)))
set_option maxRecDepth 20000 in
set_option maxHeartbeats 2000000 in
theorem s_X1_leaveAbove {E : jE} (hE : jfull E) {a1 : Int32} {a2 : Int32} {a3 : Int32} {w w' : jw} (hf : f_X1_leaveAbove a1 a2 a3 w = some w') : jC E m_X1_leaveAbove 3 [.ref (E.2.2.2 + 51), .int a1, .int a2, .int a3] w none w' := by
  refine jC_of (ls := [(0, .ref (E.2.2.2 + 51)), (1, .int a1), (2, .int a2), (3, .int a3)]) (by decide) rfl (fun _ => trivial) (Nat.le_of_ble_eq_true rfl) rfl rfl ?_
  unfold f_X1_leaveAbove at hf
  refine jx_aload_n dX1_leaveAbove_0 rfl ?_
  refine jx_iload_n dX1_leaveAbove_1 rfl ?_
  refine jx_iload_n dX1_leaveAbove_2 rfl ?_
  refine jx_iload_n dX1_leaveAbove_3 rfl ?_
  obtain ⟨x2, w3, hq1, hf⟩ := jbd2_inv hf
  refine jx_cVi (a := 51) (As := [.int a2, .int a1, .int a3]) (rest := []) dX1_leaveAbove_4 ml_X1_147 mv_X1_slotOf (s_X1_slotOf hE hq1) rfl rfl jc_51 (by decide) (Nat.le_of_ble_eq_true rfl) ?_
  refine jx_istore (ls' := [(0, .ref (E.2.2.2 + 51)), (1, .int a1), (2, .int a2), (3, .int a3), (4, .int x2)]) dX1_leaveAbove_7 (by decide) rfl ?_
  refine jx_aload_n dX1_leaveAbove_9 rfl ?_
  refine jx_aload_n dX1_leaveAbove_10 rfl ?_
  refine jx_getr dX1_leaveAbove_11 fl_X1_21 kj_51 sr_51_1 ?_
  refine jx_getr dX1_leaveAbove_14 fl_X1_107 kj_18 sr_18_4 ?_
  refine jx_iload dX1_leaveAbove_17 rfl ?_
  refine jx_cVi (a := 27) (As := [.int x2]) (rest := [.ref (E.2.2.2 + 51)]) dX1_leaveAbove_19 ml_X1_64 mv_X8_at (c_row_at (k := 0) kj_27 (by decide)) rfl rfl jc_27 (by decide) (Nat.le_of_ble_eq_true rfl) ?_
  refine jx_puti dX1_leaveAbove_22 fp_X1_150 kj_51 sr_51_5 rfl rfl ?_
  obtain ⟨w4, hw4, hf⟩ := jl_inv hf
  refine jx_nw hw4 ?_
  refine jx_iconst (v := (-1)) dX1_leaveAbove_25 (by decide) ?_
  refine jx_istore (ls' := [(0, .ref (E.2.2.2 + 51)), (1, .int a1), (2, .int a2), (3, .int a3), (4, .int x2), (5, .int (-1))]) dX1_leaveAbove_26 (by decide) rfl ?_
  refine jx_aload_n dX1_leaveAbove_28 rfl ?_
  refine jx_getr dX1_leaveAbove_29 fl_X1_34 kj_51 sr_51_3 ?_
  refine jx_geti dX1_leaveAbove_32 fl_X1_75 kj_54 sr_54_3 ?_
  refine jx_aload_n dX1_leaveAbove_35 rfl ?_
  refine jx_getr dX1_leaveAbove_36 fl_X1_21 kj_51 sr_51_1 ?_
  obtain ⟨x6, w7, hq5, hf⟩ := jbd2_inv hf
  refine jx_cVi (a := 18) (As := []) (rest := [.int (w4.1 54 3)]) dX1_leaveAbove_39 ml_X1_97 mv_X6_weak (s_X6_weak hE hq5) rfl rfl jc_18 (by decide) (Nat.le_of_ble_eq_true rfl) ?_
  refine jx_iconst (v := 1) dX1_leaveAbove_42 (by decide) ?_
  refine jx_iadd dX1_leaveAbove_43 ?_
  refine jx_icmp_ge (tgt := 85) dX1_leaveAbove_44 (by decide) (fun c8 => ?_) (fun c8 => ?_)
  · rw [if_pos c8] at hf
    refine jx_iload dX1_leaveAbove_85 rfl ?_
    refine jx_iconst (v := (-1)) dX1_leaveAbove_87 (by decide) ?_
    refine jx_icmp_eq (tgt := 161) dX1_leaveAbove_88 (by decide) (fun c9 => ?_) (fun c9 => ?_)
    · rw [if_pos c9] at hf
      refine jx_aload_n dX1_leaveAbove_161 rfl ?_
      refine jx_getr dX1_leaveAbove_162 fl_X1_21 kj_51 sr_51_1 ?_
      refine jx_getr dX1_leaveAbove_165 fl_X1_110 kj_18 sr_18_7 ?_
      refine jx_iload dX1_leaveAbove_168 rfl ?_
      refine jx_iload_n dX1_leaveAbove_170 rfl ?_
      refine jx_cVv (a := 33) (As := [.int x2, .int a3]) (rest := []) dX1_leaveAbove_171 ml_X1_113 mv_X8_change (c_row_change (k := 0) kj_33 (by decide)) rfl rfl jc_33 (by decide) (Nat.le_of_ble_eq_true rfl) ?_
      obtain ⟨w10, hw10, hf⟩ := jl_inv hf
      refine jx_nw hw10 ?_
      cases hf
      exact jx_vret dX1_leaveAbove_174 rfl rfl
    · rw [if_neg c9] at hf
      refine jx_aload_n dX1_leaveAbove_91 rfl ?_
      refine jx_getr dX1_leaveAbove_92 fl_X1_21 kj_51 sr_51_1 ?_
      refine jx_getr dX1_leaveAbove_95 fl_X1_126 kj_18 sr_18_5 ?_
      refine jx_iload dX1_leaveAbove_98 rfl ?_
      refine jx_cVi (a := 29) (As := [.int (-1)]) (rest := []) dX1_leaveAbove_100 ml_X1_64 mv_X8_at (c_row_at (k := 0) kj_29 (by decide)) rfl rfl jc_29 (by decide) (Nat.le_of_ble_eq_true rfl) ?_
      obtain ⟨x11, hx11, hf⟩ := jl_inv hf
      refine jx_nm hx11 ?_
      refine jx_istore (ls' := [(0, .ref (E.2.2.2 + 51)), (1, .int a1), (2, .int a2), (3, .int a3), (4, .int x2), (5, .int (-1)), (6, .int x11)]) dX1_leaveAbove_103 (by decide) rfl ?_
      refine jx_aload_n dX1_leaveAbove_105 rfl ?_
      refine jx_iload dX1_leaveAbove_106 rfl ?_
      refine jx_iload_n dX1_leaveAbove_108 rfl ?_
      obtain ⟨q12, hq12, hf⟩ := jbd_inv hf
      refine jx_cVv (a := 51) (As := [.int x11, .int a3]) (rest := []) dX1_leaveAbove_109 ml_X1_76 mv_X1_gather (s_X1_gather hE hq12) rfl rfl jc_51 (by decide) (Nat.le_of_ble_eq_true rfl) ?_
      refine jx_aload_n dX1_leaveAbove_112 rfl ?_
      refine jx_getr dX1_leaveAbove_113 fl_X1_21 kj_51 sr_51_1 ?_
      refine jx_getr dX1_leaveAbove_116 fl_X1_135 kj_18 sr_18_3 ?_
      refine jx_iload dX1_leaveAbove_119 rfl ?_
      refine jx_iload_n dX1_leaveAbove_121 rfl ?_
      refine jx_cVv (a := 25) (As := [.int x11, .int a3]) (rest := []) dX1_leaveAbove_122 ml_X1_113 mv_X8_change (c_row_change (k := 0) kj_25 (by decide)) rfl rfl jc_25 (by decide) (Nat.le_of_ble_eq_true rfl) ?_
      obtain ⟨w13, hw13, hf⟩ := jl_inv hf
      refine jx_nw hw13 ?_
      refine jx_aload_n dX1_leaveAbove_125 rfl ?_
      refine jx_getr dX1_leaveAbove_126 fl_X1_21 kj_51 sr_51_1 ?_
      refine jx_getr dX1_leaveAbove_129 fl_X1_110 kj_18 sr_18_7 ?_
      refine jx_iload dX1_leaveAbove_132 rfl ?_
      refine jx_iload_n dX1_leaveAbove_134 rfl ?_
      refine jx_cVv (a := 33) (As := [.int (-1), .int a3]) (rest := []) dX1_leaveAbove_135 ml_X1_113 mv_X8_change (c_row_change (k := 0) kj_33 (by decide)) rfl rfl jc_33 (by decide) (Nat.le_of_ble_eq_true rfl) ?_
      obtain ⟨w14, hw14, hf⟩ := jl_inv hf
      refine jx_nw hw14 ?_
      refine jx_aload_n dX1_leaveAbove_138 rfl ?_
      refine jx_aload_n dX1_leaveAbove_139 rfl ?_
      refine jx_geti dX1_leaveAbove_140 fl_X1_150 kj_51 sr_51_5 ?_
      refine jx_aload_n dX1_leaveAbove_143 rfl ?_
      refine jx_getr dX1_leaveAbove_144 fl_X1_21 kj_51 sr_51_1 ?_
      refine jx_getr dX1_leaveAbove_147 fl_X1_107 kj_18 sr_18_4 ?_
      refine jx_iload dX1_leaveAbove_150 rfl ?_
      refine jx_cVi (a := 27) (As := [.int (-1)]) (rest := [.int (w14.1 51 5), .ref (E.2.2.2 + 51)]) dX1_leaveAbove_152 ml_X1_64 mv_X8_at (c_row_at (k := 0) kj_27 (by decide)) rfl rfl jc_27 (by decide) (Nat.le_of_ble_eq_true rfl) ?_
      refine jx_mmin dX1_leaveAbove_155 ml_min (by decide) (Nat.le_of_ble_eq_true rfl) ?_
      refine jx_puti dX1_leaveAbove_158 fp_X1_150 kj_51 sr_51_5 rfl rfl ?_
      obtain ⟨w15, hw15, hf⟩ := jl_inv hf
      refine jx_nw hw15 ?_
      refine jx_aload_n dX1_leaveAbove_161 rfl ?_
      refine jx_getr dX1_leaveAbove_162 fl_X1_21 kj_51 sr_51_1 ?_
      refine jx_getr dX1_leaveAbove_165 fl_X1_110 kj_18 sr_18_7 ?_
      refine jx_iload dX1_leaveAbove_168 rfl ?_
      refine jx_iload_n dX1_leaveAbove_170 rfl ?_
      refine jx_cVv (a := 33) (As := [.int x2, .int a3]) (rest := []) dX1_leaveAbove_171 ml_X1_113 mv_X8_change (c_row_change (k := 0) kj_33 (by decide)) rfl rfl jc_33 (by decide) (Nat.le_of_ble_eq_true rfl) ?_
      obtain ⟨w16, hw16, hf⟩ := jl_inv hf
      refine jx_nw hw16 ?_
      cases hf
      exact jx_vret dX1_leaveAbove_174 rfl rfl
  · rw [if_neg c8] at hf
    refine jx_aload_n dX1_leaveAbove_47 rfl ?_
    refine jx_getr dX1_leaveAbove_48 fl_X1_21 kj_51 sr_51_1 ?_
    refine jx_iload_n dX1_leaveAbove_51 rfl ?_
    refine jx_aload_n dX1_leaveAbove_52 rfl ?_
    refine jx_geti dX1_leaveAbove_53 fl_X1_150 kj_51 sr_51_5 ?_
    refine jx_iload_n dX1_leaveAbove_56 rfl ?_
    obtain ⟨x18, w19, hq17, hf⟩ := jbd2_inv hf
    refine jx_cVi (a := 18) (As := [.int a2, .int (w7.1 51 5), .int a3]) (rest := []) dX1_leaveAbove_57 ml_X1_153 mv_X6_slotAfter (s_X6_slotAfter hE hq17) rfl rfl jc_18 (by decide) (Nat.le_of_ble_eq_true rfl) ?_
    refine jx_istore (ls' := [(0, .ref (E.2.2.2 + 51)), (1, .int a1), (2, .int a2), (3, .int a3), (4, .int x2), (5, .int x18)]) dX1_leaveAbove_60 (by decide) rfl ?_
    refine jx_iload dX1_leaveAbove_62 rfl ?_
    refine jx_iconst (v := (-1)) dX1_leaveAbove_64 (by decide) ?_
    refine jx_icmp_ne (tgt := 85) dX1_leaveAbove_65 (by decide) (fun c20 => ?_) (fun c20 => ?_)
    · rw [if_neg c20] at hf
      refine jx_iload dX1_leaveAbove_85 rfl ?_
      refine jx_iconst (v := (-1)) dX1_leaveAbove_87 (by decide) ?_
      refine jx_icmp_eq (tgt := 161) dX1_leaveAbove_88 (by decide) (fun c21 => ?_) (fun c21 => ?_)
      · rw [if_pos c21] at hf
        refine jx_aload_n dX1_leaveAbove_161 rfl ?_
        refine jx_getr dX1_leaveAbove_162 fl_X1_21 kj_51 sr_51_1 ?_
        refine jx_getr dX1_leaveAbove_165 fl_X1_110 kj_18 sr_18_7 ?_
        refine jx_iload dX1_leaveAbove_168 rfl ?_
        refine jx_iload_n dX1_leaveAbove_170 rfl ?_
        refine jx_cVv (a := 33) (As := [.int x2, .int a3]) (rest := []) dX1_leaveAbove_171 ml_X1_113 mv_X8_change (c_row_change (k := 0) kj_33 (by decide)) rfl rfl jc_33 (by decide) (Nat.le_of_ble_eq_true rfl) ?_
        obtain ⟨w22, hw22, hf⟩ := jl_inv hf
        refine jx_nw hw22 ?_
        cases hf
        exact jx_vret dX1_leaveAbove_174 rfl rfl
      · rw [if_neg c21] at hf
        refine jx_aload_n dX1_leaveAbove_91 rfl ?_
        refine jx_getr dX1_leaveAbove_92 fl_X1_21 kj_51 sr_51_1 ?_
        refine jx_getr dX1_leaveAbove_95 fl_X1_126 kj_18 sr_18_5 ?_
        refine jx_iload dX1_leaveAbove_98 rfl ?_
        refine jx_cVi (a := 29) (As := [.int x18]) (rest := []) dX1_leaveAbove_100 ml_X1_64 mv_X8_at (c_row_at (k := 0) kj_29 (by decide)) rfl rfl jc_29 (by decide) (Nat.le_of_ble_eq_true rfl) ?_
        obtain ⟨x23, hx23, hf⟩ := jl_inv hf
        refine jx_nm hx23 ?_
        refine jx_istore (ls' := [(0, .ref (E.2.2.2 + 51)), (1, .int a1), (2, .int a2), (3, .int a3), (4, .int x2), (5, .int x18), (6, .int x23)]) dX1_leaveAbove_103 (by decide) rfl ?_
        refine jx_aload_n dX1_leaveAbove_105 rfl ?_
        refine jx_iload dX1_leaveAbove_106 rfl ?_
        refine jx_iload_n dX1_leaveAbove_108 rfl ?_
        obtain ⟨q24, hq24, hf⟩ := jbd_inv hf
        refine jx_cVv (a := 51) (As := [.int x23, .int a3]) (rest := []) dX1_leaveAbove_109 ml_X1_76 mv_X1_gather (s_X1_gather hE hq24) rfl rfl jc_51 (by decide) (Nat.le_of_ble_eq_true rfl) ?_
        refine jx_aload_n dX1_leaveAbove_112 rfl ?_
        refine jx_getr dX1_leaveAbove_113 fl_X1_21 kj_51 sr_51_1 ?_
        refine jx_getr dX1_leaveAbove_116 fl_X1_135 kj_18 sr_18_3 ?_
        refine jx_iload dX1_leaveAbove_119 rfl ?_
        refine jx_iload_n dX1_leaveAbove_121 rfl ?_
        refine jx_cVv (a := 25) (As := [.int x23, .int a3]) (rest := []) dX1_leaveAbove_122 ml_X1_113 mv_X8_change (c_row_change (k := 0) kj_25 (by decide)) rfl rfl jc_25 (by decide) (Nat.le_of_ble_eq_true rfl) ?_
        obtain ⟨w25, hw25, hf⟩ := jl_inv hf
        refine jx_nw hw25 ?_
        refine jx_aload_n dX1_leaveAbove_125 rfl ?_
        refine jx_getr dX1_leaveAbove_126 fl_X1_21 kj_51 sr_51_1 ?_
        refine jx_getr dX1_leaveAbove_129 fl_X1_110 kj_18 sr_18_7 ?_
        refine jx_iload dX1_leaveAbove_132 rfl ?_
        refine jx_iload_n dX1_leaveAbove_134 rfl ?_
        refine jx_cVv (a := 33) (As := [.int x18, .int a3]) (rest := []) dX1_leaveAbove_135 ml_X1_113 mv_X8_change (c_row_change (k := 0) kj_33 (by decide)) rfl rfl jc_33 (by decide) (Nat.le_of_ble_eq_true rfl) ?_
        obtain ⟨w26, hw26, hf⟩ := jl_inv hf
        refine jx_nw hw26 ?_
        refine jx_aload_n dX1_leaveAbove_138 rfl ?_
        refine jx_aload_n dX1_leaveAbove_139 rfl ?_
        refine jx_geti dX1_leaveAbove_140 fl_X1_150 kj_51 sr_51_5 ?_
        refine jx_aload_n dX1_leaveAbove_143 rfl ?_
        refine jx_getr dX1_leaveAbove_144 fl_X1_21 kj_51 sr_51_1 ?_
        refine jx_getr dX1_leaveAbove_147 fl_X1_107 kj_18 sr_18_4 ?_
        refine jx_iload dX1_leaveAbove_150 rfl ?_
        refine jx_cVi (a := 27) (As := [.int x18]) (rest := [.int (w26.1 51 5), .ref (E.2.2.2 + 51)]) dX1_leaveAbove_152 ml_X1_64 mv_X8_at (c_row_at (k := 0) kj_27 (by decide)) rfl rfl jc_27 (by decide) (Nat.le_of_ble_eq_true rfl) ?_
        refine jx_mmin dX1_leaveAbove_155 ml_min (by decide) (Nat.le_of_ble_eq_true rfl) ?_
        refine jx_puti dX1_leaveAbove_158 fp_X1_150 kj_51 sr_51_5 rfl rfl ?_
        obtain ⟨w27, hw27, hf⟩ := jl_inv hf
        refine jx_nw hw27 ?_
        refine jx_aload_n dX1_leaveAbove_161 rfl ?_
        refine jx_getr dX1_leaveAbove_162 fl_X1_21 kj_51 sr_51_1 ?_
        refine jx_getr dX1_leaveAbove_165 fl_X1_110 kj_18 sr_18_7 ?_
        refine jx_iload dX1_leaveAbove_168 rfl ?_
        refine jx_iload_n dX1_leaveAbove_170 rfl ?_
        refine jx_cVv (a := 33) (As := [.int x2, .int a3]) (rest := []) dX1_leaveAbove_171 ml_X1_113 mv_X8_change (c_row_change (k := 0) kj_33 (by decide)) rfl rfl jc_33 (by decide) (Nat.le_of_ble_eq_true rfl) ?_
        obtain ⟨w28, hw28, hf⟩ := jl_inv hf
        refine jx_nw hw28 ?_
        cases hf
        exact jx_vret dX1_leaveAbove_174 rfl rfl
    · rw [if_pos c20] at hf
      refine jx_aload_n dX1_leaveAbove_68 rfl ?_
      refine jx_getr dX1_leaveAbove_69 fl_X1_21 kj_51 sr_51_1 ?_
      refine jx_iload_n dX1_leaveAbove_72 rfl ?_
      refine jx_aload_n dX1_leaveAbove_73 rfl ?_
      refine jx_geti dX1_leaveAbove_74 fl_X1_150 kj_51 sr_51_5 ?_
      refine jx_iconst (v := 1) dX1_leaveAbove_77 (by decide) ?_
      refine jx_isub dX1_leaveAbove_78 ?_
      refine jx_iload_n dX1_leaveAbove_79 rfl ?_
      obtain ⟨x30, w31, hq29, hf⟩ := jbd2_inv hf
      refine jx_cVi (a := 18) (As := [.int a2, .int ((w19.1 51 5) - 1), .int a3]) (rest := []) dX1_leaveAbove_80 ml_X1_104 mv_X6_slotToward (s_X6_slotToward hE hq29) rfl rfl jc_18 (by decide) (Nat.le_of_ble_eq_true rfl) ?_
      refine jx_istore (ls' := [(0, .ref (E.2.2.2 + 51)), (1, .int a1), (2, .int a2), (3, .int a3), (4, .int x2), (5, .int x30)]) dX1_leaveAbove_83 (by decide) rfl ?_
      refine jx_iload dX1_leaveAbove_85 rfl ?_
      refine jx_iconst (v := (-1)) dX1_leaveAbove_87 (by decide) ?_
      refine jx_icmp_eq (tgt := 161) dX1_leaveAbove_88 (by decide) (fun c32 => ?_) (fun c32 => ?_)
      · rw [if_pos c32] at hf
        refine jx_aload_n dX1_leaveAbove_161 rfl ?_
        refine jx_getr dX1_leaveAbove_162 fl_X1_21 kj_51 sr_51_1 ?_
        refine jx_getr dX1_leaveAbove_165 fl_X1_110 kj_18 sr_18_7 ?_
        refine jx_iload dX1_leaveAbove_168 rfl ?_
        refine jx_iload_n dX1_leaveAbove_170 rfl ?_
        refine jx_cVv (a := 33) (As := [.int x2, .int a3]) (rest := []) dX1_leaveAbove_171 ml_X1_113 mv_X8_change (c_row_change (k := 0) kj_33 (by decide)) rfl rfl jc_33 (by decide) (Nat.le_of_ble_eq_true rfl) ?_
        obtain ⟨w33, hw33, hf⟩ := jl_inv hf
        refine jx_nw hw33 ?_
        cases hf
        exact jx_vret dX1_leaveAbove_174 rfl rfl
      · rw [if_neg c32] at hf
        refine jx_aload_n dX1_leaveAbove_91 rfl ?_
        refine jx_getr dX1_leaveAbove_92 fl_X1_21 kj_51 sr_51_1 ?_
        refine jx_getr dX1_leaveAbove_95 fl_X1_126 kj_18 sr_18_5 ?_
        refine jx_iload dX1_leaveAbove_98 rfl ?_
        refine jx_cVi (a := 29) (As := [.int x30]) (rest := []) dX1_leaveAbove_100 ml_X1_64 mv_X8_at (c_row_at (k := 0) kj_29 (by decide)) rfl rfl jc_29 (by decide) (Nat.le_of_ble_eq_true rfl) ?_
        obtain ⟨x34, hx34, hf⟩ := jl_inv hf
        refine jx_nm hx34 ?_
        refine jx_istore (ls' := [(0, .ref (E.2.2.2 + 51)), (1, .int a1), (2, .int a2), (3, .int a3), (4, .int x2), (5, .int x30), (6, .int x34)]) dX1_leaveAbove_103 (by decide) rfl ?_
        refine jx_aload_n dX1_leaveAbove_105 rfl ?_
        refine jx_iload dX1_leaveAbove_106 rfl ?_
        refine jx_iload_n dX1_leaveAbove_108 rfl ?_
        obtain ⟨q35, hq35, hf⟩ := jbd_inv hf
        refine jx_cVv (a := 51) (As := [.int x34, .int a3]) (rest := []) dX1_leaveAbove_109 ml_X1_76 mv_X1_gather (s_X1_gather hE hq35) rfl rfl jc_51 (by decide) (Nat.le_of_ble_eq_true rfl) ?_
        refine jx_aload_n dX1_leaveAbove_112 rfl ?_
        refine jx_getr dX1_leaveAbove_113 fl_X1_21 kj_51 sr_51_1 ?_
        refine jx_getr dX1_leaveAbove_116 fl_X1_135 kj_18 sr_18_3 ?_
        refine jx_iload dX1_leaveAbove_119 rfl ?_
        refine jx_iload_n dX1_leaveAbove_121 rfl ?_
        refine jx_cVv (a := 25) (As := [.int x34, .int a3]) (rest := []) dX1_leaveAbove_122 ml_X1_113 mv_X8_change (c_row_change (k := 0) kj_25 (by decide)) rfl rfl jc_25 (by decide) (Nat.le_of_ble_eq_true rfl) ?_
        obtain ⟨w36, hw36, hf⟩ := jl_inv hf
        refine jx_nw hw36 ?_
        refine jx_aload_n dX1_leaveAbove_125 rfl ?_
        refine jx_getr dX1_leaveAbove_126 fl_X1_21 kj_51 sr_51_1 ?_
        refine jx_getr dX1_leaveAbove_129 fl_X1_110 kj_18 sr_18_7 ?_
        refine jx_iload dX1_leaveAbove_132 rfl ?_
        refine jx_iload_n dX1_leaveAbove_134 rfl ?_
        refine jx_cVv (a := 33) (As := [.int x30, .int a3]) (rest := []) dX1_leaveAbove_135 ml_X1_113 mv_X8_change (c_row_change (k := 0) kj_33 (by decide)) rfl rfl jc_33 (by decide) (Nat.le_of_ble_eq_true rfl) ?_
        obtain ⟨w37, hw37, hf⟩ := jl_inv hf
        refine jx_nw hw37 ?_
        refine jx_aload_n dX1_leaveAbove_138 rfl ?_
        refine jx_aload_n dX1_leaveAbove_139 rfl ?_
        refine jx_geti dX1_leaveAbove_140 fl_X1_150 kj_51 sr_51_5 ?_
        refine jx_aload_n dX1_leaveAbove_143 rfl ?_
        refine jx_getr dX1_leaveAbove_144 fl_X1_21 kj_51 sr_51_1 ?_
        refine jx_getr dX1_leaveAbove_147 fl_X1_107 kj_18 sr_18_4 ?_
        refine jx_iload dX1_leaveAbove_150 rfl ?_
        refine jx_cVi (a := 27) (As := [.int x30]) (rest := [.int (w37.1 51 5), .ref (E.2.2.2 + 51)]) dX1_leaveAbove_152 ml_X1_64 mv_X8_at (c_row_at (k := 0) kj_27 (by decide)) rfl rfl jc_27 (by decide) (Nat.le_of_ble_eq_true rfl) ?_
        refine jx_mmin dX1_leaveAbove_155 ml_min (by decide) (Nat.le_of_ble_eq_true rfl) ?_
        refine jx_puti dX1_leaveAbove_158 fp_X1_150 kj_51 sr_51_5 rfl rfl ?_
        obtain ⟨w38, hw38, hf⟩ := jl_inv hf
        refine jx_nw hw38 ?_
        refine jx_aload_n dX1_leaveAbove_161 rfl ?_
        refine jx_getr dX1_leaveAbove_162 fl_X1_21 kj_51 sr_51_1 ?_
        refine jx_getr dX1_leaveAbove_165 fl_X1_110 kj_18 sr_18_7 ?_
        refine jx_iload dX1_leaveAbove_168 rfl ?_
        refine jx_iload_n dX1_leaveAbove_170 rfl ?_
        refine jx_cVv (a := 33) (As := [.int x2, .int a3]) (rest := []) dX1_leaveAbove_171 ml_X1_113 mv_X8_change (c_row_change (k := 0) kj_33 (by decide)) rfl rfl jc_33 (by decide) (Nat.le_of_ble_eq_true rfl) ?_
        obtain ⟨w39, hw39, hf⟩ := jl_inv hf
        refine jx_nw hw39 ?_
        cases hf
        exact jx_vret dX1_leaveAbove_174 rfl rfl
