def f_X6_weak  (w : jw) : Option (Int32 × jw) := some ((w.1 18 8) / 4, w)
set_option maxRecDepth 20000 in
set_option maxHeartbeats 2000000 in
theorem s_X6_weak {E : jE} (hE : jfull E)  {w w' : jw} {v : Int32} (hf : f_X6_weak  w = some (v, w')) : jC E m_X6_weak 0 [.ref (E.2.2.2 + 18)] w (some (.int v)) w' := by
  refine jC_of (ls := [(0, .ref (E.2.2.2 + 18))]) (by decide) rfl (fun _ => trivial) (Nat.le_of_ble_eq_true rfl) rfl ⟨.int, rfl, rfl⟩ ?_
  unfold f_X6_weak at hf
  refine jx_aload_n dX6_weak_0 rfl ?_
  refine jx_geti dX6_weak_1 fl_X6_41 kj_18 sr_18_8 ?_
  refine jx_iconst (v := 4) dX6_weak_4 (by decide) ?_
  refine jx_idiv dX6_weak_5 (by decide) ?_
  cases hf
  exact jx_iret dX6_weak_6 rfl rfl
def f_X6_isPage (a1 : Int32) (w : jw) : Option (Bool × jw) := (if a1 < 0 then some (false, w) else (if (nI (w.2.2.2 19).length) ≤ a1 then some (false, w) else some (true, w)))
set_option maxRecDepth 20000 in
set_option maxHeartbeats 2000000 in
theorem s_X6_isPage {E : jE} (hE : jfull E) {a1 : Int32} {w w' : jw} {v : Bool} (hf : f_X6_isPage a1 w = some (v, w')) : jC E m_X6_isPage 0 [.ref (E.2.2.2 + 18), .int a1] w (some (.int (jb v))) w' := by
  refine jC_of (ls := [(0, .ref (E.2.2.2 + 18)), (1, .int a1)]) (by decide) rfl (fun _ => trivial) (Nat.le_of_ble_eq_true rfl) rfl jb_ans ?_
  unfold f_X6_isPage at hf
  refine jx_iload_n dX6_isPage_0 rfl ?_
  refine jx_if_lt (tgt := 19) dX6_isPage_1 (by decide) (fun c1 => ?_) (fun c1 => ?_)
  · rw [if_pos c1] at hf
    refine jx_iconst (v := 0) dX6_isPage_19 (by decide) ?_
    cases hf
    exact jx_iret dX6_isPage_20 rfl rfl
  · rw [if_neg c1] at hf
    refine jx_iload_n dX6_isPage_4 rfl ?_
    refine jx_aload_n dX6_isPage_5 rfl ?_
    refine jx_getr dX6_isPage_6 fl_X6_14 kj_18 sr_18_0 ?_
    refine jx_getn dX6_isPage_9 fl_X6_52 kj_19 (by decide) ?_
    refine jx_icmp_ge (tgt := 19) dX6_isPage_12 (by decide) (fun c2 => ?_) (fun c2 => ?_)
    · rw [if_pos c2] at hf
      refine jx_iconst (v := 0) dX6_isPage_19 (by decide) ?_
      cases hf
      exact jx_iret dX6_isPage_20 rfl rfl
    · rw [if_neg c2] at hf
      refine jx_iconst (v := 1) dX6_isPage_15 (by decide) ?_
      refine jx_goto (tgt := 20) dX6_isPage_16 (by decide) ?_
      cases hf
      exact jx_iret dX6_isPage_20 rfl rfl
def f_X6_isLeaf (a1 : Int32) (w : jw) : Option (Bool × jw) := (if (rat (w.2.2.2 19) a1) = 1 then some (true, w) else some (false, w))
set_option maxRecDepth 20000 in
set_option maxHeartbeats 2000000 in
theorem s_X6_isLeaf {E : jE} (hE : jfull E) {a1 : Int32} {w w' : jw} {v : Bool} (hf : f_X6_isLeaf a1 w = some (v, w')) : jC E m_X6_isLeaf 1 [.ref (E.2.2.2 + 18), .int a1] w (some (.int (jb v))) w' := by
  refine jC_of (ls := [(0, .ref (E.2.2.2 + 18)), (1, .int a1)]) (by decide) rfl (fun _ => trivial) (Nat.le_of_ble_eq_true rfl) rfl jb_ans ?_
  unfold f_X6_isLeaf at hf
  refine jx_aload_n dX6_isLeaf_0 rfl ?_
  refine jx_getr dX6_isLeaf_1 fl_X6_14 kj_18 sr_18_0 ?_
  refine jx_iload_n dX6_isLeaf_4 rfl ?_
  refine jx_cVi (a := 19) (As := [.int a1]) (rest := []) dX6_isLeaf_5 ml_X6_55 mv_X8_at (c_row_at (k := 0) kj_19 (by decide)) rfl rfl jc_19 (by decide) (Nat.le_of_ble_eq_true rfl) ?_
  refine jx_iconst (v := 1) dX6_isLeaf_8 (by decide) ?_
  refine jx_icmp_ne (tgt := 16) dX6_isLeaf_9 (by decide) (fun c1 => ?_) (fun c1 => ?_)
  · rw [if_neg c1] at hf
    refine jx_iconst (v := 0) dX6_isLeaf_16 (by decide) ?_
    cases hf
    exact jx_iret dX6_isLeaf_17 rfl rfl
  · rw [if_pos c1] at hf
    refine jx_iconst (v := 1) dX6_isLeaf_12 (by decide) ?_
    refine jx_goto (tgt := 17) dX6_isLeaf_13 (by decide) ?_
    cases hf
    exact jx_iret dX6_isLeaf_17 rfl rfl
def f_X6_firstSlot (a1 : Int32) (w : jw) : Option (Int32 × jw) := some (a1 * (w.1 18 8), w)
set_option maxRecDepth 20000 in
set_option maxHeartbeats 2000000 in
theorem s_X6_firstSlot {E : jE} (hE : jfull E) {a1 : Int32} {w w' : jw} {v : Int32} (hf : f_X6_firstSlot a1 w = some (v, w')) : jC E m_X6_firstSlot 0 [.ref (E.2.2.2 + 18), .int a1] w (some (.int v)) w' := by
  refine jC_of (ls := [(0, .ref (E.2.2.2 + 18)), (1, .int a1)]) (by decide) rfl (fun _ => trivial) (Nat.le_of_ble_eq_true rfl) rfl ⟨.int, rfl, rfl⟩ ?_
  unfold f_X6_firstSlot at hf
  refine jx_iload_n dX6_firstSlot_0 rfl ?_
  refine jx_aload_n dX6_firstSlot_1 rfl ?_
  refine jx_geti dX6_firstSlot_2 fl_X6_41 kj_18 sr_18_8 ?_
  refine jx_imul dX6_firstSlot_5 ?_
  cases hf
  exact jx_iret dX6_firstSlot_6 rfl rfl
def f_X6_endSlot (a1 : Int32) (w : jw) : Option (Int32 × jw) := some ((a1 * (w.1 18 8)) + (rat (w.2.2.2 21) a1), w)
set_option maxRecDepth 20000 in
set_option maxHeartbeats 2000000 in
theorem s_X6_endSlot {E : jE} (hE : jfull E) {a1 : Int32} {w w' : jw} {v : Int32} (hf : f_X6_endSlot a1 w = some (v, w')) : jC E m_X6_endSlot 1 [.ref (E.2.2.2 + 18), .int a1] w (some (.int v)) w' := by
  refine jC_of (ls := [(0, .ref (E.2.2.2 + 18)), (1, .int a1)]) (by decide) rfl (fun _ => trivial) (Nat.le_of_ble_eq_true rfl) rfl ⟨.int, rfl, rfl⟩ ?_
  unfold f_X6_endSlot at hf
  refine jx_iload_n dX6_endSlot_0 rfl ?_
  refine jx_aload_n dX6_endSlot_1 rfl ?_
  refine jx_geti dX6_endSlot_2 fl_X6_41 kj_18 sr_18_8 ?_
  refine jx_imul dX6_endSlot_5 ?_
  refine jx_aload_n dX6_endSlot_6 rfl ?_
  refine jx_getr dX6_endSlot_7 fl_X6_20 kj_18 sr_18_1 ?_
  refine jx_iload_n dX6_endSlot_10 rfl ?_
  refine jx_cVi (a := 21) (As := [.int a1]) (rest := [.int (a1 * (w.1 18 8))]) dX6_endSlot_11 ml_X6_55 mv_X8_at (c_row_at (k := 0) kj_21 (by decide)) rfl rfl jc_21 (by decide) (Nat.le_of_ble_eq_true rfl) ?_
  refine jx_iadd dX6_endSlot_14 ?_
  cases hf
  exact jx_iret dX6_endSlot_15 rfl rfl
def l_X6_open : Nat → Int32 → Int32 → Int32 → jw → Option (Int32 × jw)
  | 0, _, _, _, _ => none
  | n + 1, b1, b2, b3, w => (if (w.1 18 8) ≤ b3 then some ((nI (w.2.2.2 19).length) - 1, w) else jg (decide ((w.2.2.2 27).length ≤ 4096)) (jl (jsetR w 27 (w.2.2.2 27 ++ [0])) fun w2 => jg (decide ((w2.2.2.2 29).length ≤ 4096)) (jl (jsetR w2 29 (w2.2.2.2 29 ++ [0])) fun w4 => jg (decide ((w4.2.2.2 31).length ≤ 4096)) (jl (jsetR w4 31 (w4.2.2.2 31 ++ [0])) fun w6 => jg (decide ((w6.2.2.2 33).length ≤ 4096)) (jl (jsetR w6 33 (w6.2.2.2 33 ++ [(-2)])) fun w8 => jl (b3 + 1) fun x10 => (l_X6_open n b1 b2 x10 w8))))))
set_option maxRecDepth 20000 in
set_option maxHeartbeats 2000000 in
theorem sl_X6_open {E : jE} (hE : jfull E) : ∀ (n : Nat) (b1 : Int32) (b2 : Int32) (b3 : Int32) (w : jw) (v : Int32) (w' : jw), l_X6_open n b1 b2 b3 w = some (v, w') → jX E m_X6_open 3 35 [(0, .ref (E.2.2.2 + 18)), (1, .int b1), (2, .int b2), (3, .int b3)] [] w (some (.int v)) w' := by
  intro n
  induction n with
  | zero => intro b1 b2 b3 w v w' hf; cases hf
  | succ n ih =>
    intro b1 b2 b3 w v w' hf
    unfold l_X6_open at hf
    refine jx_iload_n dX6_open_35 rfl ?_
    refine jx_aload_n dX6_open_36 rfl ?_
    refine jx_geti dX6_open_37 fl_X6_41 kj_18 sr_18_8 ?_
    refine jx_icmp_ge (tgt := 82) dX6_open_40 (by decide) (fun c1 => ?_) (fun c1 => ?_)
    · rw [if_pos c1] at hf
      refine jx_aload_n dX6_open_82 rfl ?_
      refine jx_getr dX6_open_83 fl_X6_14 kj_18 sr_18_0 ?_
      refine jx_getn dX6_open_86 fl_X6_52 kj_19 (by decide) ?_
      refine jx_iconst (v := 1) dX6_open_89 (by decide) ?_
      refine jx_isub dX6_open_90 ?_
      cases hf
      exact jx_iret dX6_open_91 rfl rfl
    · rw [if_neg c1] at hf
      refine jx_aload_n dX6_open_43 rfl ?_
      refine jx_getr dX6_open_44 fl_X6_29 kj_18 sr_18_4 ?_
      refine jx_iconst (v := 0) dX6_open_47 (by decide) ?_
      obtain ⟨c3, hf⟩ := jg_inv hf
      refine jx_cVv (a := 27) (As := [.int 0]) (rest := []) dX6_open_48 ml_X6_59 mv_X8_add (c_row_add kj_27 (of_decide_eq_true c3) (Or.inl hE)) rfl rfl jc_27 (by decide) (Nat.le_of_ble_eq_true rfl) ?_
      obtain ⟨w2, hw2, hf⟩ := jl_inv hf
      refine jx_nw hw2 ?_
      refine jx_aload_n dX6_open_51 rfl ?_
      refine jx_getr dX6_open_52 fl_X6_32 kj_18 sr_18_5 ?_
      refine jx_iconst (v := 0) dX6_open_55 (by decide) ?_
      obtain ⟨c5, hf⟩ := jg_inv hf
      refine jx_cVv (a := 29) (As := [.int 0]) (rest := []) dX6_open_56 ml_X6_59 mv_X8_add (c_row_add kj_29 (of_decide_eq_true c5) (Or.inl hE)) rfl rfl jc_29 (by decide) (Nat.le_of_ble_eq_true rfl) ?_
      obtain ⟨w4, hw4, hf⟩ := jl_inv hf
      refine jx_nw hw4 ?_
      refine jx_aload_n dX6_open_59 rfl ?_
      refine jx_getr dX6_open_60 fl_X6_35 kj_18 sr_18_6 ?_
      refine jx_iconst (v := 0) dX6_open_63 (by decide) ?_
      obtain ⟨c7, hf⟩ := jg_inv hf
      refine jx_cVv (a := 31) (As := [.int 0]) (rest := []) dX6_open_64 ml_X6_59 mv_X8_add (c_row_add kj_31 (of_decide_eq_true c7) (Or.inl hE)) rfl rfl jc_31 (by decide) (Nat.le_of_ble_eq_true rfl) ?_
      obtain ⟨w6, hw6, hf⟩ := jl_inv hf
      refine jx_nw hw6 ?_
      refine jx_aload_n dX6_open_67 rfl ?_
      refine jx_getr dX6_open_68 fl_X6_38 kj_18 sr_18_7 ?_
      refine jx_bipush (v := (-2)) dX6_open_71 (by decide) ?_
      obtain ⟨c9, hf⟩ := jg_inv hf
      refine jx_cVv (a := 33) (As := [.int (-2)]) (rest := []) dX6_open_73 ml_X6_59 mv_X8_add (c_row_add kj_33 (of_decide_eq_true c9) (Or.inl hE)) rfl rfl jc_33 (by decide) (Nat.le_of_ble_eq_true rfl) ?_
      obtain ⟨w8, hw8, hf⟩ := jl_inv hf
      refine jx_nw hw8 ?_
      obtain ⟨x10, hx10, hf⟩ := jl_inv hf
      refine jx_iinc (v := x10) (ls' := [(0, .ref (E.2.2.2 + 18)), (1, .int b1), (2, .int b2), (3, .int x10)]) dX6_open_76 rfl (by rw [hx10]; rfl) (by decide) rfl ?_
      refine jx_goto (tgt := 35) dX6_open_79 (by decide) ?_
      exact ih _ _ _ _ _ _ hf
def f_X6_open (a1 : Int32) (a2 : Int32) (w : jw) : Option (Int32 × jw) := jg (decide ((w.2.2.2 19).length ≤ 4096)) (jl (jsetR w 19 (w.2.2.2 19 ++ [a1])) fun w11 => jg (decide ((w11.2.2.2 21).length ≤ 4096)) (jl (jsetR w11 21 (w11.2.2.2 21 ++ [0])) fun w13 => jg (decide ((w13.2.2.2 23).length ≤ 4096)) (jl (jsetR w13 23 (w13.2.2.2 23 ++ [a2])) fun w15 => jg (decide ((w15.2.2.2 25).length ≤ 4096)) (jl (jsetR w15 25 (w15.2.2.2 25 ++ [(-2)])) fun w17 => (l_X6_open jfu a1 a2 0 w17)))))
set_option maxRecDepth 20000 in
set_option maxHeartbeats 2000000 in
theorem s_X6_open {E : jE} (hE : jfull E) {a1 : Int32} {a2 : Int32} {w w' : jw} {v : Int32} (hf : f_X6_open a1 a2 w = some (v, w')) : jC E m_X6_open 3 [.ref (E.2.2.2 + 18), .int a1, .int a2] w (some (.int v)) w' := by
  refine jC_of (ls := [(0, .ref (E.2.2.2 + 18)), (1, .int a1), (2, .int a2)]) (by decide) rfl (fun _ => trivial) (Nat.le_of_ble_eq_true rfl) rfl ⟨.int, rfl, rfl⟩ ?_
  unfold f_X6_open at hf
  refine jx_aload_n dX6_open_0 rfl ?_
  refine jx_getr dX6_open_1 fl_X6_14 kj_18 sr_18_0 ?_
  refine jx_iload_n dX6_open_4 rfl ?_
  obtain ⟨c12, hf⟩ := jg_inv hf
  refine jx_cVv (a := 19) (As := [.int a1]) (rest := []) dX6_open_5 ml_X6_59 mv_X8_add (c_row_add kj_19 (of_decide_eq_true c12) (Or.inl hE)) rfl rfl jc_19 (by decide) (Nat.le_of_ble_eq_true rfl) ?_
  obtain ⟨w11, hw11, hf⟩ := jl_inv hf
  refine jx_nw hw11 ?_
  refine jx_aload_n dX6_open_8 rfl ?_
  refine jx_getr dX6_open_9 fl_X6_20 kj_18 sr_18_1 ?_
  refine jx_iconst (v := 0) dX6_open_12 (by decide) ?_
  obtain ⟨c14, hf⟩ := jg_inv hf
  refine jx_cVv (a := 21) (As := [.int 0]) (rest := []) dX6_open_13 ml_X6_59 mv_X8_add (c_row_add kj_21 (of_decide_eq_true c14) (Or.inl hE)) rfl rfl jc_21 (by decide) (Nat.le_of_ble_eq_true rfl) ?_
  obtain ⟨w13, hw13, hf⟩ := jl_inv hf
  refine jx_nw hw13 ?_
  refine jx_aload_n dX6_open_16 rfl ?_
  refine jx_getr dX6_open_17 fl_X6_23 kj_18 sr_18_2 ?_
  refine jx_iload_n dX6_open_20 rfl ?_
  obtain ⟨c16, hf⟩ := jg_inv hf
  refine jx_cVv (a := 23) (As := [.int a2]) (rest := []) dX6_open_21 ml_X6_59 mv_X8_add (c_row_add kj_23 (of_decide_eq_true c16) (Or.inl hE)) rfl rfl jc_23 (by decide) (Nat.le_of_ble_eq_true rfl) ?_
  obtain ⟨w15, hw15, hf⟩ := jl_inv hf
  refine jx_nw hw15 ?_
  refine jx_aload_n dX6_open_24 rfl ?_
  refine jx_getr dX6_open_25 fl_X6_26 kj_18 sr_18_3 ?_
  refine jx_bipush (v := (-2)) dX6_open_28 (by decide) ?_
  obtain ⟨c18, hf⟩ := jg_inv hf
  refine jx_cVv (a := 25) (As := [.int (-2)]) (rest := []) dX6_open_30 ml_X6_59 mv_X8_add (c_row_add kj_25 (of_decide_eq_true c18) (Or.inl hE)) rfl rfl jc_25 (by decide) (Nat.le_of_ble_eq_true rfl) ?_
  obtain ⟨w17, hw17, hf⟩ := jl_inv hf
  refine jx_nw hw17 ?_
  refine jx_iconst (v := 0) dX6_open_33 (by decide) ?_
  refine jx_istore_n (ls' := [(0, .ref (E.2.2.2 + 18)), (1, .int a1), (2, .int a2), (3, .int 0)]) dX6_open_34 (by decide) rfl ?_
  exact sl_X6_open hE jfu _ _ _ _ _ _ hf
def f_X6_append (a1 : Int32) (a2 : Int32) (a3 : Int32) (a4 : Int32) (w : jw) : Option (jw) := jl (rat (w.2.2.2 21) a1 : Int32) fun x1 => (if x1 < (w.1 18 8) then jl ((a1 * (w.1 18 8)) + x1 : Int32) fun x3 => jl (jsetR w 27 (rset (w.2.2.2 27) x3 a2)) fun w4 => jl (jsetR w4 29 (rset (w4.2.2.2 29) x3 a3)) fun w5 => jl (jsetR w5 31 (rset (w5.2.2.2 31) x3 a4)) fun w6 => jl (jsetR w6 21 (rset (w6.2.2.2 21) a1 (x1 + 1))) fun w7 => some w7 else some w)
set_option maxRecDepth 20000 in
set_option maxHeartbeats 2000000 in
theorem s_X6_append {E : jE} (hE : jfull E) {a1 : Int32} {a2 : Int32} {a3 : Int32} {a4 : Int32} {w w' : jw} (hf : f_X6_append a1 a2 a3 a4 w = some w') : jC E m_X6_append 1 [.ref (E.2.2.2 + 18), .int a1, .int a2, .int a3, .int a4] w none w' := by
  refine jC_of (ls := [(0, .ref (E.2.2.2 + 18)), (1, .int a1), (2, .int a2), (3, .int a3), (4, .int a4)]) (by decide) rfl (fun _ => trivial) (Nat.le_of_ble_eq_true rfl) rfl rfl ?_
  unfold f_X6_append at hf
  refine jx_aload_n dX6_append_0 rfl ?_
  refine jx_getr dX6_append_1 fl_X6_20 kj_18 sr_18_1 ?_
  refine jx_iload_n dX6_append_4 rfl ?_
  refine jx_cVi (a := 21) (As := [.int a1]) (rest := []) dX6_append_5 ml_X6_55 mv_X8_at (c_row_at (k := 0) kj_21 (by decide)) rfl rfl jc_21 (by decide) (Nat.le_of_ble_eq_true rfl) ?_
  obtain ⟨x1, hx1, hf⟩ := jl_inv hf
  refine jx_nm hx1 ?_
  refine jx_istore (ls' := [(0, .ref (E.2.2.2 + 18)), (1, .int a1), (2, .int a2), (3, .int a3), (4, .int a4), (5, .int x1)]) dX6_append_8 (by decide) rfl ?_
  refine jx_iload dX6_append_10 rfl ?_
  refine jx_aload_n dX6_append_12 rfl ?_
  refine jx_geti dX6_append_13 fl_X6_41 kj_18 sr_18_8 ?_
  refine jx_icmp_lt (tgt := 20) dX6_append_16 (by decide) (fun c2 => ?_) (fun c2 => ?_)
  · rw [if_pos c2] at hf
    refine jx_iload_n dX6_append_20 rfl ?_
    refine jx_aload_n dX6_append_21 rfl ?_
    refine jx_geti dX6_append_22 fl_X6_41 kj_18 sr_18_8 ?_
    refine jx_imul dX6_append_25 ?_
    refine jx_iload dX6_append_26 rfl ?_
    refine jx_iadd dX6_append_28 ?_
    obtain ⟨x3, hx3, hf⟩ := jl_inv hf
    refine jx_nm hx3 ?_
    refine jx_istore (ls' := [(0, .ref (E.2.2.2 + 18)), (1, .int a1), (2, .int a2), (3, .int a3), (4, .int a4), (5, .int x1), (6, .int x3)]) dX6_append_29 (by decide) rfl ?_
    refine jx_aload_n dX6_append_31 rfl ?_
    refine jx_getr dX6_append_32 fl_X6_29 kj_18 sr_18_4 ?_
    refine jx_iload dX6_append_35 rfl ?_
    refine jx_iload_n dX6_append_37 rfl ?_
    refine jx_cVv (a := 27) (As := [.int x3, .int a2]) (rest := []) dX6_append_38 ml_X6_62 mv_X8_change (c_row_change (k := 0) kj_27 (by decide)) rfl rfl jc_27 (by decide) (Nat.le_of_ble_eq_true rfl) ?_
    obtain ⟨w4, hw4, hf⟩ := jl_inv hf
    refine jx_nw hw4 ?_
    refine jx_aload_n dX6_append_41 rfl ?_
    refine jx_getr dX6_append_42 fl_X6_32 kj_18 sr_18_5 ?_
    refine jx_iload dX6_append_45 rfl ?_
    refine jx_iload_n dX6_append_47 rfl ?_
    refine jx_cVv (a := 29) (As := [.int x3, .int a3]) (rest := []) dX6_append_48 ml_X6_62 mv_X8_change (c_row_change (k := 0) kj_29 (by decide)) rfl rfl jc_29 (by decide) (Nat.le_of_ble_eq_true rfl) ?_
    obtain ⟨w5, hw5, hf⟩ := jl_inv hf
    refine jx_nw hw5 ?_
    refine jx_aload_n dX6_append_51 rfl ?_
    refine jx_getr dX6_append_52 fl_X6_35 kj_18 sr_18_6 ?_
    refine jx_iload dX6_append_55 rfl ?_
    refine jx_iload dX6_append_57 rfl ?_
    refine jx_cVv (a := 31) (As := [.int x3, .int a4]) (rest := []) dX6_append_59 ml_X6_62 mv_X8_change (c_row_change (k := 0) kj_31 (by decide)) rfl rfl jc_31 (by decide) (Nat.le_of_ble_eq_true rfl) ?_
    obtain ⟨w6, hw6, hf⟩ := jl_inv hf
    refine jx_nw hw6 ?_
    refine jx_aload_n dX6_append_62 rfl ?_
    refine jx_getr dX6_append_63 fl_X6_20 kj_18 sr_18_1 ?_
    refine jx_iload_n dX6_append_66 rfl ?_
    refine jx_iload dX6_append_67 rfl ?_
    refine jx_iconst (v := 1) dX6_append_69 (by decide) ?_
    refine jx_iadd dX6_append_70 ?_
    refine jx_cVv (a := 21) (As := [.int a1, .int (x1 + 1)]) (rest := []) dX6_append_71 ml_X6_62 mv_X8_change (c_row_change (k := 0) kj_21 (by decide)) rfl rfl jc_21 (by decide) (Nat.le_of_ble_eq_true rfl) ?_
    obtain ⟨w7, hw7, hf⟩ := jl_inv hf
    refine jx_nw hw7 ?_
    cases hf
    exact jx_vret dX6_append_74 rfl rfl
  · rw [if_neg c2] at hf
    cases hf
    exact jx_vret dX6_append_19 rfl rfl
def f_X6_livesAt (a1 : Int32) (a2 : Int32) (w : jw) : Option (Bool × jw) := jl (rat (w.2.2.2 33) a1 : Int32) fun x1 => (if a2 < (rat (w.2.2.2 31) a1) then some (false, w) else (if x1 = (-2) then some (true, w) else (if x1 ≤ a2 then some (false, w) else some (true, w))))
set_option maxRecDepth 20000 in
set_option maxHeartbeats 2000000 in
theorem s_X6_livesAt {E : jE} (hE : jfull E) {a1 : Int32} {a2 : Int32} {w w' : jw} {v : Bool} (hf : f_X6_livesAt a1 a2 w = some (v, w')) : jC E m_X6_livesAt 1 [.ref (E.2.2.2 + 18), .int a1, .int a2] w (some (.int (jb v))) w' := by
  refine jC_of (ls := [(0, .ref (E.2.2.2 + 18)), (1, .int a1), (2, .int a2)]) (by decide) rfl (fun _ => trivial) (Nat.le_of_ble_eq_true rfl) rfl jb_ans ?_
  unfold f_X6_livesAt at hf
  refine jx_aload_n dX6_livesAt_0 rfl ?_
  refine jx_getr dX6_livesAt_1 fl_X6_38 kj_18 sr_18_7 ?_
  refine jx_iload_n dX6_livesAt_4 rfl ?_
  refine jx_cVi (a := 33) (As := [.int a1]) (rest := []) dX6_livesAt_5 ml_X6_55 mv_X8_at (c_row_at (k := 0) kj_33 (by decide)) rfl rfl jc_33 (by decide) (Nat.le_of_ble_eq_true rfl) ?_
  obtain ⟨x1, hx1, hf⟩ := jl_inv hf
  refine jx_nm hx1 ?_
  refine jx_istore_n (ls' := [(0, .ref (E.2.2.2 + 18)), (1, .int a1), (2, .int a2), (3, .int x1)]) dX6_livesAt_8 (by decide) rfl ?_
  refine jx_aload_n dX6_livesAt_9 rfl ?_
  refine jx_getr dX6_livesAt_10 fl_X6_35 kj_18 sr_18_6 ?_
  refine jx_iload_n dX6_livesAt_13 rfl ?_
  refine jx_cVi (a := 31) (As := [.int a1]) (rest := []) dX6_livesAt_14 ml_X6_55 mv_X8_at (c_row_at (k := 0) kj_31 (by decide)) rfl rfl jc_31 (by decide) (Nat.le_of_ble_eq_true rfl) ?_
  refine jx_iload_n dX6_livesAt_17 rfl ?_
  refine jx_icmp_gt (tgt := 36) dX6_livesAt_18 (by decide) (fun c2 => ?_) (fun c2 => ?_)
  · rw [if_pos c2] at hf
    refine jx_iconst (v := 0) dX6_livesAt_36 (by decide) ?_
    cases hf
    exact jx_iret dX6_livesAt_37 rfl rfl
  · rw [if_neg c2] at hf
    refine jx_iload_n dX6_livesAt_21 rfl ?_
    refine jx_bipush (v := (-2)) dX6_livesAt_22 (by decide) ?_
    refine jx_icmp_eq (tgt := 32) dX6_livesAt_24 (by decide) (fun c3 => ?_) (fun c3 => ?_)
    · rw [if_pos c3] at hf
      refine jx_iconst (v := 1) dX6_livesAt_32 (by decide) ?_
      refine jx_goto (tgt := 37) dX6_livesAt_33 (by decide) ?_
      cases hf
      exact jx_iret dX6_livesAt_37 rfl rfl
    · rw [if_neg c3] at hf
      refine jx_iload_n dX6_livesAt_27 rfl ?_
      refine jx_iload_n dX6_livesAt_28 rfl ?_
      refine jx_icmp_ge (tgt := 36) dX6_livesAt_29 (by decide) (fun c4 => ?_) (fun c4 => ?_)
      · rw [if_pos c4] at hf
        refine jx_iconst (v := 0) dX6_livesAt_36 (by decide) ?_
        cases hf
        exact jx_iret dX6_livesAt_37 rfl rfl
      · rw [if_neg c4] at hf
        refine jx_iconst (v := 1) dX6_livesAt_32 (by decide) ?_
        refine jx_goto (tgt := 37) dX6_livesAt_33 (by decide) ?_
        cases hf
        exact jx_iret dX6_livesAt_37 rfl rfl
def l_X6_livingIn : Nat → Int32 → Int32 → Int32 → Int32 → Int32 → jw → Option (Int32 × jw)
  | 0, _, _, _, _, _, _ => none
  | n + 1, b1, b2, b3, b4, b5, w => (if b4 ≤ b5 then some (b3, w) else jbd2 (f_X6_livesAt b5 b2 w) fun x3 w4 => (if (jb x3) = 0 then jl (b5 + 1) fun x6 => (l_X6_livingIn n b1 b2 b3 b4 x6 w4) else jl (b3 + 1) fun x7 => jl (b5 + 1) fun x8 => (l_X6_livingIn n b1 b2 x7 b4 x8 w4)))
set_option maxRecDepth 20000 in
set_option maxHeartbeats 2000000 in
theorem sl_X6_livingIn {E : jE} (hE : jfull E) : ∀ (n : Nat) (b1 : Int32) (b2 : Int32) (b3 : Int32) (b4 : Int32) (b5 : Int32) (w : jw) (v : Int32) (w' : jw), l_X6_livingIn n b1 b2 b3 b4 b5 w = some (v, w') → jX E m_X6_livingIn 2 16 [(0, .ref (E.2.2.2 + 18)), (1, .int b1), (2, .int b2), (3, .int b3), (4, .int b4), (5, .int b5)] [] w (some (.int v)) w' := by
  intro n
  induction n with
  | zero => intro b1 b2 b3 b4 b5 w v w' hf; cases hf
  | succ n ih =>
    intro b1 b2 b3 b4 b5 w v w' hf
    unfold l_X6_livingIn at hf
    refine jx_iload dX6_livingIn_16 rfl ?_
    refine jx_iload dX6_livingIn_18 rfl ?_
    refine jx_icmp_ge (tgt := 42) dX6_livingIn_20 (by decide) (fun c1 => ?_) (fun c1 => ?_)
    · rw [if_pos c1] at hf
      refine jx_iload_n dX6_livingIn_42 rfl ?_
      cases hf
      exact jx_iret dX6_livingIn_43 rfl rfl
    · rw [if_neg c1] at hf
      refine jx_aload_n dX6_livingIn_23 rfl ?_
      refine jx_iload dX6_livingIn_24 rfl ?_
      refine jx_iload_n dX6_livingIn_26 rfl ?_
      obtain ⟨x3, w4, hq2, hf⟩ := jbd2_inv hf
      refine jx_cVi (a := 18) (As := [.int b5, .int b2]) (rest := []) dX6_livingIn_27 ml_X6_72 mv_X6_livesAt (s_X6_livesAt hE hq2) rfl rfl jc_18 (by decide) (Nat.le_of_ble_eq_true rfl) ?_
      refine jx_if_eq (tgt := 36) dX6_livingIn_30 (by decide) (fun c5 => ?_) (fun c5 => ?_)
      · rw [if_pos c5] at hf
        obtain ⟨x6, hx6, hf⟩ := jl_inv hf
        refine jx_iinc (v := x6) (ls' := [(0, .ref (E.2.2.2 + 18)), (1, .int b1), (2, .int b2), (3, .int b3), (4, .int b4), (5, .int x6)]) dX6_livingIn_36 rfl (by rw [hx6]; rfl) (by decide) rfl ?_
        refine jx_goto (tgt := 16) dX6_livingIn_39 (by decide) ?_
        exact ih _ _ _ _ _ _ _ _ hf
      · rw [if_neg c5] at hf
        obtain ⟨x7, hx7, hf⟩ := jl_inv hf
        refine jx_iinc (v := x7) (ls' := [(0, .ref (E.2.2.2 + 18)), (1, .int b1), (2, .int b2), (3, .int x7), (4, .int b4), (5, .int b5)]) dX6_livingIn_33 rfl (by rw [hx7]; rfl) (by decide) rfl ?_
        obtain ⟨x8, hx8, hf⟩ := jl_inv hf
        refine jx_iinc (v := x8) (ls' := [(0, .ref (E.2.2.2 + 18)), (1, .int b1), (2, .int b2), (3, .int x7), (4, .int b4), (5, .int x8)]) dX6_livingIn_36 rfl (by rw [hx8]; rfl) (by decide) rfl ?_
        refine jx_goto (tgt := 16) dX6_livingIn_39 (by decide) ?_
        exact ih _ _ _ _ _ _ _ _ hf
def f_X6_livingIn (a1 : Int32) (a2 : Int32) (w : jw) : Option (Int32 × jw) := jbd2 (f_X6_endSlot a1 w) fun x10 w11 => jbd2 (f_X6_firstSlot a1 w11) fun x13 w14 => (l_X6_livingIn jfu a1 a2 0 x10 x13 w14)
set_option maxRecDepth 20000 in
set_option maxHeartbeats 2000000 in
theorem s_X6_livingIn {E : jE} (hE : jfull E) {a1 : Int32} {a2 : Int32} {w w' : jw} {v : Int32} (hf : f_X6_livingIn a1 a2 w = some (v, w')) : jC E m_X6_livingIn 2 [.ref (E.2.2.2 + 18), .int a1, .int a2] w (some (.int v)) w' := by
  refine jC_of (ls := [(0, .ref (E.2.2.2 + 18)), (1, .int a1), (2, .int a2)]) (by decide) rfl (fun _ => trivial) (Nat.le_of_ble_eq_true rfl) rfl ⟨.int, rfl, rfl⟩ ?_
  unfold f_X6_livingIn at hf
  refine jx_iconst (v := 0) dX6_livingIn_0 (by decide) ?_
  refine jx_istore_n (ls' := [(0, .ref (E.2.2.2 + 18)), (1, .int a1), (2, .int a2), (3, .int 0)]) dX6_livingIn_1 (by decide) rfl ?_
  refine jx_aload_n dX6_livingIn_2 rfl ?_
  refine jx_iload_n dX6_livingIn_3 rfl ?_
  obtain ⟨x10, w11, hq9, hf⟩ := jbd2_inv hf
  refine jx_cVi (a := 18) (As := [.int a1]) (rest := []) dX6_livingIn_4 ml_X6_66 mv_X6_endSlot (s_X6_endSlot hE hq9) rfl rfl jc_18 (by decide) (Nat.le_of_ble_eq_true rfl) ?_
  refine jx_istore (ls' := [(0, .ref (E.2.2.2 + 18)), (1, .int a1), (2, .int a2), (3, .int 0), (4, .int x10)]) dX6_livingIn_7 (by decide) rfl ?_
  refine jx_aload_n dX6_livingIn_9 rfl ?_
  refine jx_iload_n dX6_livingIn_10 rfl ?_
  obtain ⟨x13, w14, hq12, hf⟩ := jbd2_inv hf
  refine jx_cVi (a := 18) (As := [.int a1]) (rest := []) dX6_livingIn_11 ml_X6_69 mv_X6_firstSlot (s_X6_firstSlot hE hq12) rfl rfl jc_18 (by decide) (Nat.le_of_ble_eq_true rfl) ?_
  refine jx_istore (ls' := [(0, .ref (E.2.2.2 + 18)), (1, .int a1), (2, .int a2), (3, .int 0), (4, .int x10), (5, .int x13)]) dX6_livingIn_14 (by decide) rfl ?_
  exact sl_X6_livingIn hE jfu _ _ _ _ _ _ _ _ hf
def l_X6_slotToward : Nat → Int32 → Int32 → Int32 → Int32 → Int32 → Int32 → jw → Option (Int32 × jw)
  | 0, _, _, _, _, _, _, _ => none
  | n + 1, b1, b2, b3, b4, b5, b6, w => (if b5 ≤ b6 then some (b4, w) else jbd2 (f_X6_livesAt b6 b3 w) fun x3 w4 => (if (jb x3) = 0 then jl (b6 + 1) fun x6 => (l_X6_slotToward n b1 b2 b3 b4 b5 x6 w4) else (if b2 < (rat (w4.2.2.2 27) b6) then jl (b6 + 1) fun x8 => (l_X6_slotToward n b1 b2 b3 b4 b5 x8 w4) else (if b4 = (-1) then jl (b6 + 1) fun x10 => (l_X6_slotToward n b1 b2 b3 b6 b5 x10 w4) else (if (rat (w4.2.2.2 27) b6) ≤ (rat (w4.2.2.2 27) b4) then jl (b6 + 1) fun x12 => (l_X6_slotToward n b1 b2 b3 b4 b5 x12 w4) else jl (b6 + 1) fun x13 => (l_X6_slotToward n b1 b2 b3 b6 b5 x13 w4))))))
set_option maxRecDepth 20000 in
set_option maxHeartbeats 2000000 in
theorem sl_X6_slotToward {E : jE} (hE : jfull E) : ∀ (n : Nat) (b1 : Int32) (b2 : Int32) (b3 : Int32) (b4 : Int32) (b5 : Int32) (b6 : Int32) (w : jw) (v : Int32) (w' : jw), l_X6_slotToward n b1 b2 b3 b4 b5 b6 w = some (v, w') → jX E m_X6_slotToward 2 17 [(0, .ref (E.2.2.2 + 18)), (1, .int b1), (2, .int b2), (3, .int b3), (4, .int b4), (5, .int b5), (6, .int b6)] [] w (some (.int v)) w' := by
  intro n
  induction n with
  | zero => intro b1 b2 b3 b4 b5 b6 w v w' hf; cases hf
  | succ n ih =>
    intro b1 b2 b3 b4 b5 b6 w v w' hf
    unfold l_X6_slotToward at hf
    refine jx_iload dX6_slotToward_17 rfl ?_
    refine jx_iload dX6_slotToward_19 rfl ?_
    refine jx_icmp_ge (tgt := 84) dX6_slotToward_21 (by decide) (fun c1 => ?_) (fun c1 => ?_)
    · rw [if_pos c1] at hf
      refine jx_iload dX6_slotToward_84 rfl ?_
      cases hf
      exact jx_iret dX6_slotToward_86 rfl rfl
    · rw [if_neg c1] at hf
      refine jx_aload_n dX6_slotToward_24 rfl ?_
      refine jx_iload dX6_slotToward_25 rfl ?_
      refine jx_iload_n dX6_slotToward_27 rfl ?_
      obtain ⟨x3, w4, hq2, hf⟩ := jbd2_inv hf
      refine jx_cVi (a := 18) (As := [.int b6, .int b3]) (rest := []) dX6_slotToward_28 ml_X6_72 mv_X6_livesAt (s_X6_livesAt hE hq2) rfl rfl jc_18 (by decide) (Nat.le_of_ble_eq_true rfl) ?_
      refine jx_if_eq (tgt := 78) dX6_slotToward_31 (by decide) (fun c5 => ?_) (fun c5 => ?_)
      · rw [if_pos c5] at hf
        obtain ⟨x6, hx6, hf⟩ := jl_inv hf
        refine jx_iinc (v := x6) (ls' := [(0, .ref (E.2.2.2 + 18)), (1, .int b1), (2, .int b2), (3, .int b3), (4, .int b4), (5, .int b5), (6, .int x6)]) dX6_slotToward_78 rfl (by rw [hx6]; rfl) (by decide) rfl ?_
        refine jx_goto (tgt := 17) dX6_slotToward_81 (by decide) ?_
        exact ih _ _ _ _ _ _ _ _ _ hf
      · rw [if_neg c5] at hf
        refine jx_aload_n dX6_slotToward_34 rfl ?_
        refine jx_getr dX6_slotToward_35 fl_X6_29 kj_18 sr_18_4 ?_
        refine jx_iload dX6_slotToward_38 rfl ?_
        refine jx_cVi (a := 27) (As := [.int b6]) (rest := []) dX6_slotToward_40 ml_X6_55 mv_X8_at (c_row_at (k := 0) kj_27 (by decide)) rfl rfl jc_27 (by decide) (Nat.le_of_ble_eq_true rfl) ?_
        refine jx_iload_n dX6_slotToward_43 rfl ?_
        refine jx_icmp_gt (tgt := 78) dX6_slotToward_44 (by decide) (fun c7 => ?_) (fun c7 => ?_)
        · rw [if_pos c7] at hf
          obtain ⟨x8, hx8, hf⟩ := jl_inv hf
          refine jx_iinc (v := x8) (ls' := [(0, .ref (E.2.2.2 + 18)), (1, .int b1), (2, .int b2), (3, .int b3), (4, .int b4), (5, .int b5), (6, .int x8)]) dX6_slotToward_78 rfl (by rw [hx8]; rfl) (by decide) rfl ?_
          refine jx_goto (tgt := 17) dX6_slotToward_81 (by decide) ?_
          exact ih _ _ _ _ _ _ _ _ _ hf
        · rw [if_neg c7] at hf
          refine jx_iload dX6_slotToward_47 rfl ?_
          refine jx_iconst (v := (-1)) dX6_slotToward_49 (by decide) ?_
          refine jx_icmp_eq (tgt := 74) dX6_slotToward_50 (by decide) (fun c9 => ?_) (fun c9 => ?_)
          · rw [if_pos c9] at hf
            refine jx_iload dX6_slotToward_74 rfl ?_
            refine jx_istore (ls' := [(0, .ref (E.2.2.2 + 18)), (1, .int b1), (2, .int b2), (3, .int b3), (4, .int b6), (5, .int b5), (6, .int b6)]) dX6_slotToward_76 (by decide) rfl ?_
            obtain ⟨x10, hx10, hf⟩ := jl_inv hf
            refine jx_iinc (v := x10) (ls' := [(0, .ref (E.2.2.2 + 18)), (1, .int b1), (2, .int b2), (3, .int b3), (4, .int b6), (5, .int b5), (6, .int x10)]) dX6_slotToward_78 rfl (by rw [hx10]; rfl) (by decide) rfl ?_
            refine jx_goto (tgt := 17) dX6_slotToward_81 (by decide) ?_
            exact ih _ _ _ _ _ _ _ _ _ hf
          · rw [if_neg c9] at hf
            refine jx_aload_n dX6_slotToward_53 rfl ?_
            refine jx_getr dX6_slotToward_54 fl_X6_29 kj_18 sr_18_4 ?_
            refine jx_iload dX6_slotToward_57 rfl ?_
            refine jx_cVi (a := 27) (As := [.int b6]) (rest := []) dX6_slotToward_59 ml_X6_55 mv_X8_at (c_row_at (k := 0) kj_27 (by decide)) rfl rfl jc_27 (by decide) (Nat.le_of_ble_eq_true rfl) ?_
            refine jx_aload_n dX6_slotToward_62 rfl ?_
            refine jx_getr dX6_slotToward_63 fl_X6_29 kj_18 sr_18_4 ?_
            refine jx_iload dX6_slotToward_66 rfl ?_
            refine jx_cVi (a := 27) (As := [.int b4]) (rest := [.int (rat (w4.2.2.2 27) b6)]) dX6_slotToward_68 ml_X6_55 mv_X8_at (c_row_at (k := 0) kj_27 (by decide)) rfl rfl jc_27 (by decide) (Nat.le_of_ble_eq_true rfl) ?_
            refine jx_icmp_le (tgt := 78) dX6_slotToward_71 (by decide) (fun c11 => ?_) (fun c11 => ?_)
            · rw [if_pos c11] at hf
              obtain ⟨x12, hx12, hf⟩ := jl_inv hf
              refine jx_iinc (v := x12) (ls' := [(0, .ref (E.2.2.2 + 18)), (1, .int b1), (2, .int b2), (3, .int b3), (4, .int b4), (5, .int b5), (6, .int x12)]) dX6_slotToward_78 rfl (by rw [hx12]; rfl) (by decide) rfl ?_
              refine jx_goto (tgt := 17) dX6_slotToward_81 (by decide) ?_
              exact ih _ _ _ _ _ _ _ _ _ hf
            · rw [if_neg c11] at hf
              refine jx_iload dX6_slotToward_74 rfl ?_
              refine jx_istore (ls' := [(0, .ref (E.2.2.2 + 18)), (1, .int b1), (2, .int b2), (3, .int b3), (4, .int b6), (5, .int b5), (6, .int b6)]) dX6_slotToward_76 (by decide) rfl ?_
              obtain ⟨x13, hx13, hf⟩ := jl_inv hf
              refine jx_iinc (v := x13) (ls' := [(0, .ref (E.2.2.2 + 18)), (1, .int b1), (2, .int b2), (3, .int b3), (4, .int b6), (5, .int b5), (6, .int x13)]) dX6_slotToward_78 rfl (by rw [hx13]; rfl) (by decide) rfl ?_
              refine jx_goto (tgt := 17) dX6_slotToward_81 (by decide) ?_
              exact ih _ _ _ _ _ _ _ _ _ hf
def f_X6_slotToward (a1 : Int32) (a2 : Int32) (a3 : Int32) (w : jw) : Option (Int32 × jw) := jbd2 (f_X6_endSlot a1 w) fun x15 w16 => jbd2 (f_X6_firstSlot a1 w16) fun x18 w19 => (l_X6_slotToward jfu a1 a2 a3 (-1) x15 x18 w19)
set_option maxRecDepth 20000 in
set_option maxHeartbeats 2000000 in
theorem s_X6_slotToward {E : jE} (hE : jfull E) {a1 : Int32} {a2 : Int32} {a3 : Int32} {w w' : jw} {v : Int32} (hf : f_X6_slotToward a1 a2 a3 w = some (v, w')) : jC E m_X6_slotToward 2 [.ref (E.2.2.2 + 18), .int a1, .int a2, .int a3] w (some (.int v)) w' := by
  refine jC_of (ls := [(0, .ref (E.2.2.2 + 18)), (1, .int a1), (2, .int a2), (3, .int a3)]) (by decide) rfl (fun _ => trivial) (Nat.le_of_ble_eq_true rfl) rfl ⟨.int, rfl, rfl⟩ ?_
  unfold f_X6_slotToward at hf
  refine jx_iconst (v := (-1)) dX6_slotToward_0 (by decide) ?_
  refine jx_istore (ls' := [(0, .ref (E.2.2.2 + 18)), (1, .int a1), (2, .int a2), (3, .int a3), (4, .int (-1))]) dX6_slotToward_1 (by decide) rfl ?_
  refine jx_aload_n dX6_slotToward_3 rfl ?_
  refine jx_iload_n dX6_slotToward_4 rfl ?_
  obtain ⟨x15, w16, hq14, hf⟩ := jbd2_inv hf
  refine jx_cVi (a := 18) (As := [.int a1]) (rest := []) dX6_slotToward_5 ml_X6_66 mv_X6_endSlot (s_X6_endSlot hE hq14) rfl rfl jc_18 (by decide) (Nat.le_of_ble_eq_true rfl) ?_
  refine jx_istore (ls' := [(0, .ref (E.2.2.2 + 18)), (1, .int a1), (2, .int a2), (3, .int a3), (4, .int (-1)), (5, .int x15)]) dX6_slotToward_8 (by decide) rfl ?_
  refine jx_aload_n dX6_slotToward_10 rfl ?_
  refine jx_iload_n dX6_slotToward_11 rfl ?_
  obtain ⟨x18, w19, hq17, hf⟩ := jbd2_inv hf
  refine jx_cVi (a := 18) (As := [.int a1]) (rest := []) dX6_slotToward_12 ml_X6_69 mv_X6_firstSlot (s_X6_firstSlot hE hq17) rfl rfl jc_18 (by decide) (Nat.le_of_ble_eq_true rfl) ?_
  refine jx_istore (ls' := [(0, .ref (E.2.2.2 + 18)), (1, .int a1), (2, .int a2), (3, .int a3), (4, .int (-1)), (5, .int x15), (6, .int x18)]) dX6_slotToward_15 (by decide) rfl ?_
  exact sl_X6_slotToward hE jfu _ _ _ _ _ _ _ _ _ hf
def l_X6_slotAfter : Nat → Int32 → Int32 → Int32 → Int32 → Int32 → Int32 → jw → Option (Int32 × jw)
  | 0, _, _, _, _, _, _, _ => none
  | n + 1, b1, b2, b3, b4, b5, b6, w => (if b5 ≤ b6 then some (b4, w) else jbd2 (f_X6_livesAt b6 b3 w) fun x3 w4 => (if (jb x3) = 0 then jl (b6 + 1) fun x6 => (l_X6_slotAfter n b1 b2 b3 b4 b5 x6 w4) else (if (rat (w4.2.2.2 27) b6) ≤ b2 then jl (b6 + 1) fun x8 => (l_X6_slotAfter n b1 b2 b3 b4 b5 x8 w4) else (if b4 = (-1) then jl (b6 + 1) fun x10 => (l_X6_slotAfter n b1 b2 b3 b6 b5 x10 w4) else (if (rat (w4.2.2.2 27) b4) ≤ (rat (w4.2.2.2 27) b6) then jl (b6 + 1) fun x12 => (l_X6_slotAfter n b1 b2 b3 b4 b5 x12 w4) else jl (b6 + 1) fun x13 => (l_X6_slotAfter n b1 b2 b3 b6 b5 x13 w4))))))
set_option maxRecDepth 20000 in
set_option maxHeartbeats 2000000 in
theorem sl_X6_slotAfter {E : jE} (hE : jfull E) : ∀ (n : Nat) (b1 : Int32) (b2 : Int32) (b3 : Int32) (b4 : Int32) (b5 : Int32) (b6 : Int32) (w : jw) (v : Int32) (w' : jw), l_X6_slotAfter n b1 b2 b3 b4 b5 b6 w = some (v, w') → jX E m_X6_slotAfter 2 17 [(0, .ref (E.2.2.2 + 18)), (1, .int b1), (2, .int b2), (3, .int b3), (4, .int b4), (5, .int b5), (6, .int b6)] [] w (some (.int v)) w' := by
  intro n
  induction n with
  | zero => intro b1 b2 b3 b4 b5 b6 w v w' hf; cases hf
  | succ n ih =>
    intro b1 b2 b3 b4 b5 b6 w v w' hf
    unfold l_X6_slotAfter at hf
    refine jx_iload dX6_slotAfter_17 rfl ?_
    refine jx_iload dX6_slotAfter_19 rfl ?_
    refine jx_icmp_ge (tgt := 84) dX6_slotAfter_21 (by decide) (fun c1 => ?_) (fun c1 => ?_)
    · rw [if_pos c1] at hf
      refine jx_iload dX6_slotAfter_84 rfl ?_
      cases hf
      exact jx_iret dX6_slotAfter_86 rfl rfl
    · rw [if_neg c1] at hf
      refine jx_aload_n dX6_slotAfter_24 rfl ?_
      refine jx_iload dX6_slotAfter_25 rfl ?_
      refine jx_iload_n dX6_slotAfter_27 rfl ?_
      obtain ⟨x3, w4, hq2, hf⟩ := jbd2_inv hf
      refine jx_cVi (a := 18) (As := [.int b6, .int b3]) (rest := []) dX6_slotAfter_28 ml_X6_72 mv_X6_livesAt (s_X6_livesAt hE hq2) rfl rfl jc_18 (by decide) (Nat.le_of_ble_eq_true rfl) ?_
      refine jx_if_eq (tgt := 78) dX6_slotAfter_31 (by decide) (fun c5 => ?_) (fun c5 => ?_)
      · rw [if_pos c5] at hf
        obtain ⟨x6, hx6, hf⟩ := jl_inv hf
        refine jx_iinc (v := x6) (ls' := [(0, .ref (E.2.2.2 + 18)), (1, .int b1), (2, .int b2), (3, .int b3), (4, .int b4), (5, .int b5), (6, .int x6)]) dX6_slotAfter_78 rfl (by rw [hx6]; rfl) (by decide) rfl ?_
        refine jx_goto (tgt := 17) dX6_slotAfter_81 (by decide) ?_
        exact ih _ _ _ _ _ _ _ _ _ hf
      · rw [if_neg c5] at hf
        refine jx_aload_n dX6_slotAfter_34 rfl ?_
        refine jx_getr dX6_slotAfter_35 fl_X6_29 kj_18 sr_18_4 ?_
        refine jx_iload dX6_slotAfter_38 rfl ?_
        refine jx_cVi (a := 27) (As := [.int b6]) (rest := []) dX6_slotAfter_40 ml_X6_55 mv_X8_at (c_row_at (k := 0) kj_27 (by decide)) rfl rfl jc_27 (by decide) (Nat.le_of_ble_eq_true rfl) ?_
        refine jx_iload_n dX6_slotAfter_43 rfl ?_
        refine jx_icmp_le (tgt := 78) dX6_slotAfter_44 (by decide) (fun c7 => ?_) (fun c7 => ?_)
        · rw [if_pos c7] at hf
          obtain ⟨x8, hx8, hf⟩ := jl_inv hf
          refine jx_iinc (v := x8) (ls' := [(0, .ref (E.2.2.2 + 18)), (1, .int b1), (2, .int b2), (3, .int b3), (4, .int b4), (5, .int b5), (6, .int x8)]) dX6_slotAfter_78 rfl (by rw [hx8]; rfl) (by decide) rfl ?_
          refine jx_goto (tgt := 17) dX6_slotAfter_81 (by decide) ?_
          exact ih _ _ _ _ _ _ _ _ _ hf
        · rw [if_neg c7] at hf
          refine jx_iload dX6_slotAfter_47 rfl ?_
          refine jx_iconst (v := (-1)) dX6_slotAfter_49 (by decide) ?_
          refine jx_icmp_eq (tgt := 74) dX6_slotAfter_50 (by decide) (fun c9 => ?_) (fun c9 => ?_)
          · rw [if_pos c9] at hf
            refine jx_iload dX6_slotAfter_74 rfl ?_
            refine jx_istore (ls' := [(0, .ref (E.2.2.2 + 18)), (1, .int b1), (2, .int b2), (3, .int b3), (4, .int b6), (5, .int b5), (6, .int b6)]) dX6_slotAfter_76 (by decide) rfl ?_
            obtain ⟨x10, hx10, hf⟩ := jl_inv hf
            refine jx_iinc (v := x10) (ls' := [(0, .ref (E.2.2.2 + 18)), (1, .int b1), (2, .int b2), (3, .int b3), (4, .int b6), (5, .int b5), (6, .int x10)]) dX6_slotAfter_78 rfl (by rw [hx10]; rfl) (by decide) rfl ?_
            refine jx_goto (tgt := 17) dX6_slotAfter_81 (by decide) ?_
            exact ih _ _ _ _ _ _ _ _ _ hf
          · rw [if_neg c9] at hf
            refine jx_aload_n dX6_slotAfter_53 rfl ?_
            refine jx_getr dX6_slotAfter_54 fl_X6_29 kj_18 sr_18_4 ?_
            refine jx_iload dX6_slotAfter_57 rfl ?_
            refine jx_cVi (a := 27) (As := [.int b6]) (rest := []) dX6_slotAfter_59 ml_X6_55 mv_X8_at (c_row_at (k := 0) kj_27 (by decide)) rfl rfl jc_27 (by decide) (Nat.le_of_ble_eq_true rfl) ?_
            refine jx_aload_n dX6_slotAfter_62 rfl ?_
            refine jx_getr dX6_slotAfter_63 fl_X6_29 kj_18 sr_18_4 ?_
            refine jx_iload dX6_slotAfter_66 rfl ?_
            refine jx_cVi (a := 27) (As := [.int b4]) (rest := [.int (rat (w4.2.2.2 27) b6)]) dX6_slotAfter_68 ml_X6_55 mv_X8_at (c_row_at (k := 0) kj_27 (by decide)) rfl rfl jc_27 (by decide) (Nat.le_of_ble_eq_true rfl) ?_
            refine jx_icmp_ge (tgt := 78) dX6_slotAfter_71 (by decide) (fun c11 => ?_) (fun c11 => ?_)
            · rw [if_pos c11] at hf
              obtain ⟨x12, hx12, hf⟩ := jl_inv hf
              refine jx_iinc (v := x12) (ls' := [(0, .ref (E.2.2.2 + 18)), (1, .int b1), (2, .int b2), (3, .int b3), (4, .int b4), (5, .int b5), (6, .int x12)]) dX6_slotAfter_78 rfl (by rw [hx12]; rfl) (by decide) rfl ?_
              refine jx_goto (tgt := 17) dX6_slotAfter_81 (by decide) ?_
              exact ih _ _ _ _ _ _ _ _ _ hf
            · rw [if_neg c11] at hf
              refine jx_iload dX6_slotAfter_74 rfl ?_
              refine jx_istore (ls' := [(0, .ref (E.2.2.2 + 18)), (1, .int b1), (2, .int b2), (3, .int b3), (4, .int b6), (5, .int b5), (6, .int b6)]) dX6_slotAfter_76 (by decide) rfl ?_
              obtain ⟨x13, hx13, hf⟩ := jl_inv hf
              refine jx_iinc (v := x13) (ls' := [(0, .ref (E.2.2.2 + 18)), (1, .int b1), (2, .int b2), (3, .int b3), (4, .int b6), (5, .int b5), (6, .int x13)]) dX6_slotAfter_78 rfl (by rw [hx13]; rfl) (by decide) rfl ?_
              refine jx_goto (tgt := 17) dX6_slotAfter_81 (by decide) ?_
              exact ih _ _ _ _ _ _ _ _ _ hf
def f_X6_slotAfter (a1 : Int32) (a2 : Int32) (a3 : Int32) (w : jw) : Option (Int32 × jw) := jbd2 (f_X6_endSlot a1 w) fun x15 w16 => jbd2 (f_X6_firstSlot a1 w16) fun x18 w19 => (l_X6_slotAfter jfu a1 a2 a3 (-1) x15 x18 w19)
set_option maxRecDepth 20000 in
set_option maxHeartbeats 2000000 in
theorem s_X6_slotAfter {E : jE} (hE : jfull E) {a1 : Int32} {a2 : Int32} {a3 : Int32} {w w' : jw} {v : Int32} (hf : f_X6_slotAfter a1 a2 a3 w = some (v, w')) : jC E m_X6_slotAfter 2 [.ref (E.2.2.2 + 18), .int a1, .int a2, .int a3] w (some (.int v)) w' := by
  refine jC_of (ls := [(0, .ref (E.2.2.2 + 18)), (1, .int a1), (2, .int a2), (3, .int a3)]) (by decide) rfl (fun _ => trivial) (Nat.le_of_ble_eq_true rfl) rfl ⟨.int, rfl, rfl⟩ ?_
  unfold f_X6_slotAfter at hf
  refine jx_iconst (v := (-1)) dX6_slotAfter_0 (by decide) ?_
  refine jx_istore (ls' := [(0, .ref (E.2.2.2 + 18)), (1, .int a1), (2, .int a2), (3, .int a3), (4, .int (-1))]) dX6_slotAfter_1 (by decide) rfl ?_
  refine jx_aload_n dX6_slotAfter_3 rfl ?_
  refine jx_iload_n dX6_slotAfter_4 rfl ?_
  obtain ⟨x15, w16, hq14, hf⟩ := jbd2_inv hf
  refine jx_cVi (a := 18) (As := [.int a1]) (rest := []) dX6_slotAfter_5 ml_X6_66 mv_X6_endSlot (s_X6_endSlot hE hq14) rfl rfl jc_18 (by decide) (Nat.le_of_ble_eq_true rfl) ?_
  refine jx_istore (ls' := [(0, .ref (E.2.2.2 + 18)), (1, .int a1), (2, .int a2), (3, .int a3), (4, .int (-1)), (5, .int x15)]) dX6_slotAfter_8 (by decide) rfl ?_
  refine jx_aload_n dX6_slotAfter_10 rfl ?_
  refine jx_iload_n dX6_slotAfter_11 rfl ?_
  obtain ⟨x18, w19, hq17, hf⟩ := jbd2_inv hf
  refine jx_cVi (a := 18) (As := [.int a1]) (rest := []) dX6_slotAfter_12 ml_X6_69 mv_X6_firstSlot (s_X6_firstSlot hE hq17) rfl rfl jc_18 (by decide) (Nat.le_of_ble_eq_true rfl) ?_
  refine jx_istore (ls' := [(0, .ref (E.2.2.2 + 18)), (1, .int a1), (2, .int a2), (3, .int a3), (4, .int (-1)), (5, .int x15), (6, .int x18)]) dX6_slotAfter_15 (by decide) rfl ?_
  exact sl_X6_slotAfter hE jfu _ _ _ _ _ _ _ _ _ hf
def l_X6_openIn : Nat → Int32 → Int32 → Int32 → Int32 → jw → Option (Int32 × jw)
  | 0, _, _, _, _, _ => none
  | n + 1, b1, b2, b3, b4, w => (if b3 ≤ b4 then some (b2, w) else (if (rat (w.2.2.2 33) b4) = (-2) then jl (b2 + 1) fun x4 => jl (b4 + 1) fun x5 => (l_X6_openIn n b1 x4 b3 x5 w) else jl (b4 + 1) fun x3 => (l_X6_openIn n b1 b2 b3 x3 w)))
set_option maxRecDepth 20000 in
set_option maxHeartbeats 2000000 in
theorem sl_X6_openIn {E : jE} (hE : jfull E) : ∀ (n : Nat) (b1 : Int32) (b2 : Int32) (b3 : Int32) (b4 : Int32) (w : jw) (v : Int32) (w' : jw), l_X6_openIn n b1 b2 b3 b4 w = some (v, w') → jX E m_X6_openIn 2 15 [(0, .ref (E.2.2.2 + 18)), (1, .int b1), (2, .int b2), (3, .int b3), (4, .int b4)] [] w (some (.int v)) w' := by
  intro n
  induction n with
  | zero => intro b1 b2 b3 b4 w v w' hf; cases hf
  | succ n ih =>
    intro b1 b2 b3 b4 w v w' hf
    unfold l_X6_openIn at hf
    refine jx_iload dX6_openIn_15 rfl ?_
    refine jx_iload_n dX6_openIn_17 rfl ?_
    refine jx_icmp_ge (tgt := 44) dX6_openIn_18 (by decide) (fun c1 => ?_) (fun c1 => ?_)
    · rw [if_pos c1] at hf
      refine jx_iload_n dX6_openIn_44 rfl ?_
      cases hf
      exact jx_iret dX6_openIn_45 rfl rfl
    · rw [if_neg c1] at hf
      refine jx_aload_n dX6_openIn_21 rfl ?_
      refine jx_getr dX6_openIn_22 fl_X6_38 kj_18 sr_18_7 ?_
      refine jx_iload dX6_openIn_25 rfl ?_
      refine jx_cVi (a := 33) (As := [.int b4]) (rest := []) dX6_openIn_27 ml_X6_55 mv_X8_at (c_row_at (k := 0) kj_33 (by decide)) rfl rfl jc_33 (by decide) (Nat.le_of_ble_eq_true rfl) ?_
      refine jx_bipush (v := (-2)) dX6_openIn_30 (by decide) ?_
      refine jx_icmp_ne (tgt := 38) dX6_openIn_32 (by decide) (fun c2 => ?_) (fun c2 => ?_)
      · rw [if_neg c2] at hf
        obtain ⟨x3, hx3, hf⟩ := jl_inv hf
        refine jx_iinc (v := x3) (ls' := [(0, .ref (E.2.2.2 + 18)), (1, .int b1), (2, .int b2), (3, .int b3), (4, .int x3)]) dX6_openIn_38 rfl (by rw [hx3]; rfl) (by decide) rfl ?_
        refine jx_goto (tgt := 15) dX6_openIn_41 (by decide) ?_
        exact ih _ _ _ _ _ _ _ hf
      · rw [if_pos c2] at hf
        obtain ⟨x4, hx4, hf⟩ := jl_inv hf
        refine jx_iinc (v := x4) (ls' := [(0, .ref (E.2.2.2 + 18)), (1, .int b1), (2, .int x4), (3, .int b3), (4, .int b4)]) dX6_openIn_35 rfl (by rw [hx4]; rfl) (by decide) rfl ?_
        obtain ⟨x5, hx5, hf⟩ := jl_inv hf
        refine jx_iinc (v := x5) (ls' := [(0, .ref (E.2.2.2 + 18)), (1, .int b1), (2, .int x4), (3, .int b3), (4, .int x5)]) dX6_openIn_38 rfl (by rw [hx5]; rfl) (by decide) rfl ?_
        refine jx_goto (tgt := 15) dX6_openIn_41 (by decide) ?_
        exact ih _ _ _ _ _ _ _ hf
def f_X6_openIn (a1 : Int32) (w : jw) : Option (Int32 × jw) := jbd2 (f_X6_endSlot a1 w) fun x7 w8 => jbd2 (f_X6_firstSlot a1 w8) fun x10 w11 => (l_X6_openIn jfu a1 0 x7 x10 w11)
set_option maxRecDepth 20000 in
set_option maxHeartbeats 2000000 in
theorem s_X6_openIn {E : jE} (hE : jfull E) {a1 : Int32} {w w' : jw} {v : Int32} (hf : f_X6_openIn a1 w = some (v, w')) : jC E m_X6_openIn 2 [.ref (E.2.2.2 + 18), .int a1] w (some (.int v)) w' := by
  refine jC_of (ls := [(0, .ref (E.2.2.2 + 18)), (1, .int a1)]) (by decide) rfl (fun _ => trivial) (Nat.le_of_ble_eq_true rfl) rfl ⟨.int, rfl, rfl⟩ ?_
  unfold f_X6_openIn at hf
  refine jx_iconst (v := 0) dX6_openIn_0 (by decide) ?_
  refine jx_istore_n (ls' := [(0, .ref (E.2.2.2 + 18)), (1, .int a1), (2, .int 0)]) dX6_openIn_1 (by decide) rfl ?_
  refine jx_aload_n dX6_openIn_2 rfl ?_
  refine jx_iload_n dX6_openIn_3 rfl ?_
  obtain ⟨x7, w8, hq6, hf⟩ := jbd2_inv hf
  refine jx_cVi (a := 18) (As := [.int a1]) (rest := []) dX6_openIn_4 ml_X6_66 mv_X6_endSlot (s_X6_endSlot hE hq6) rfl rfl jc_18 (by decide) (Nat.le_of_ble_eq_true rfl) ?_
  refine jx_istore_n (ls' := [(0, .ref (E.2.2.2 + 18)), (1, .int a1), (2, .int 0), (3, .int x7)]) dX6_openIn_7 (by decide) rfl ?_
  refine jx_aload_n dX6_openIn_8 rfl ?_
  refine jx_iload_n dX6_openIn_9 rfl ?_
  obtain ⟨x10, w11, hq9, hf⟩ := jbd2_inv hf
  refine jx_cVi (a := 18) (As := [.int a1]) (rest := []) dX6_openIn_10 ml_X6_69 mv_X6_firstSlot (s_X6_firstSlot hE hq9) rfl rfl jc_18 (by decide) (Nat.le_of_ble_eq_true rfl) ?_
  refine jx_istore (ls' := [(0, .ref (E.2.2.2 + 18)), (1, .int a1), (2, .int 0), (3, .int x7), (4, .int x10)]) dX6_openIn_13 (by decide) rfl ?_
  exact sl_X6_openIn hE jfu _ _ _ _ _ _ _ hf
def l_X6_allEntries : Nat → Int32 → Int32 → jw → Option (Int32 × jw)
  | 0, _, _, _ => none
  | n + 1, b1, b2, w => (if (nI (w.2.2.2 19).length) ≤ b2 then some (b1, w) else jl (b1 + (rat (w.2.2.2 21) b2) : Int32) fun x2 => jl (b2 + 1) fun x3 => (l_X6_allEntries n x2 x3 w))
set_option maxRecDepth 20000 in
set_option maxHeartbeats 2000000 in
theorem sl_X6_allEntries {E : jE} (hE : jfull E) : ∀ (n : Nat) (b1 : Int32) (b2 : Int32) (w : jw) (v : Int32) (w' : jw), l_X6_allEntries n b1 b2 w = some (v, w') → jX E m_X6_allEntries 1 4 [(0, .ref (E.2.2.2 + 18)), (1, .int b1), (2, .int b2)] [] w (some (.int v)) w' := by
  intro n
  induction n with
  | zero => intro b1 b2 w v w' hf; cases hf
  | succ n ih =>
    intro b1 b2 w v w' hf
    unfold l_X6_allEntries at hf
    refine jx_iload_n dX6_allEntries_4 rfl ?_
    refine jx_aload_n dX6_allEntries_5 rfl ?_
    refine jx_getr dX6_allEntries_6 fl_X6_14 kj_18 sr_18_0 ?_
    refine jx_getn dX6_allEntries_9 fl_X6_52 kj_19 (by decide) ?_
    refine jx_icmp_ge (tgt := 32) dX6_allEntries_12 (by decide) (fun c1 => ?_) (fun c1 => ?_)
    · rw [if_pos c1] at hf
      refine jx_iload_n dX6_allEntries_32 rfl ?_
      cases hf
      exact jx_iret dX6_allEntries_33 rfl rfl
    · rw [if_neg c1] at hf
      refine jx_iload_n dX6_allEntries_15 rfl ?_
      refine jx_aload_n dX6_allEntries_16 rfl ?_
      refine jx_getr dX6_allEntries_17 fl_X6_20 kj_18 sr_18_1 ?_
      refine jx_iload_n dX6_allEntries_20 rfl ?_
      refine jx_cVi (a := 21) (As := [.int b2]) (rest := [.int b1]) dX6_allEntries_21 ml_X6_55 mv_X8_at (c_row_at (k := 0) kj_21 (by decide)) rfl rfl jc_21 (by decide) (Nat.le_of_ble_eq_true rfl) ?_
      refine jx_iadd dX6_allEntries_24 ?_
      obtain ⟨x2, hx2, hf⟩ := jl_inv hf
      refine jx_nm hx2 ?_
      refine jx_istore_n (ls' := [(0, .ref (E.2.2.2 + 18)), (1, .int x2), (2, .int b2)]) dX6_allEntries_25 (by decide) rfl ?_
      obtain ⟨x3, hx3, hf⟩ := jl_inv hf
      refine jx_iinc (v := x3) (ls' := [(0, .ref (E.2.2.2 + 18)), (1, .int x2), (2, .int x3)]) dX6_allEntries_26 rfl (by rw [hx3]; rfl) (by decide) rfl ?_
      refine jx_goto (tgt := 4) dX6_allEntries_29 (by decide) ?_
      exact ih _ _ _ _ _ hf
def f_X6_allEntries  (w : jw) : Option (Int32 × jw) := (l_X6_allEntries jfu 0 0 w)
set_option maxRecDepth 20000 in
set_option maxHeartbeats 2000000 in
theorem s_X6_allEntries {E : jE} (hE : jfull E)  {w w' : jw} {v : Int32} (hf : f_X6_allEntries  w = some (v, w')) : jC E m_X6_allEntries 1 [.ref (E.2.2.2 + 18)] w (some (.int v)) w' := by
  refine jC_of (ls := [(0, .ref (E.2.2.2 + 18))]) (by decide) rfl (fun _ => trivial) (Nat.le_of_ble_eq_true rfl) rfl ⟨.int, rfl, rfl⟩ ?_
  unfold f_X6_allEntries at hf
  refine jx_iconst (v := 0) dX6_allEntries_0 (by decide) ?_
  refine jx_istore_n (ls' := [(0, .ref (E.2.2.2 + 18)), (1, .int 0)]) dX6_allEntries_1 (by decide) rfl ?_
  refine jx_iconst (v := 0) dX6_allEntries_2 (by decide) ?_
  refine jx_istore_n (ls' := [(0, .ref (E.2.2.2 + 18)), (1, .int 0), (2, .int 0)]) dX6_allEntries_3 (by decide) rfl ?_
  exact sl_X6_allEntries hE jfu _ _ _ _ _ hf
def l_X6_endedPages : Nat → Int32 → Int32 → jw → Option (Int32 × jw)
  | 0, _, _, _ => none
  | n + 1, b1, b2, w => (if (nI (w.2.2.2 19).length) ≤ b2 then some (b1, w) else (if (rat (w.2.2.2 25) b2) = (-2) then jl (b2 + 1) fun x3 => (l_X6_endedPages n b1 x3 w) else jl (b1 + 1) fun x4 => jl (b2 + 1) fun x5 => (l_X6_endedPages n x4 x5 w)))
set_option maxRecDepth 20000 in
set_option maxHeartbeats 2000000 in
theorem sl_X6_endedPages {E : jE} (hE : jfull E) : ∀ (n : Nat) (b1 : Int32) (b2 : Int32) (w : jw) (v : Int32) (w' : jw), l_X6_endedPages n b1 b2 w = some (v, w') → jX E m_X6_endedPages 1 4 [(0, .ref (E.2.2.2 + 18)), (1, .int b1), (2, .int b2)] [] w (some (.int v)) w' := by
  intro n
  induction n with
  | zero => intro b1 b2 w v w' hf; cases hf
  | succ n ih =>
    intro b1 b2 w v w' hf
    unfold l_X6_endedPages at hf
    refine jx_iload_n dX6_endedPages_4 rfl ?_
    refine jx_aload_n dX6_endedPages_5 rfl ?_
    refine jx_getr dX6_endedPages_6 fl_X6_14 kj_18 sr_18_0 ?_
    refine jx_getn dX6_endedPages_9 fl_X6_52 kj_19 (by decide) ?_
    refine jx_icmp_ge (tgt := 37) dX6_endedPages_12 (by decide) (fun c1 => ?_) (fun c1 => ?_)
    · rw [if_pos c1] at hf
      refine jx_iload_n dX6_endedPages_37 rfl ?_
      cases hf
      exact jx_iret dX6_endedPages_38 rfl rfl
    · rw [if_neg c1] at hf
      refine jx_aload_n dX6_endedPages_15 rfl ?_
      refine jx_getr dX6_endedPages_16 fl_X6_26 kj_18 sr_18_3 ?_
      refine jx_iload_n dX6_endedPages_19 rfl ?_
      refine jx_cVi (a := 25) (As := [.int b2]) (rest := []) dX6_endedPages_20 ml_X6_55 mv_X8_at (c_row_at (k := 0) kj_25 (by decide)) rfl rfl jc_25 (by decide) (Nat.le_of_ble_eq_true rfl) ?_
      refine jx_bipush (v := (-2)) dX6_endedPages_23 (by decide) ?_
      refine jx_icmp_eq (tgt := 31) dX6_endedPages_25 (by decide) (fun c2 => ?_) (fun c2 => ?_)
      · rw [if_pos c2] at hf
        obtain ⟨x3, hx3, hf⟩ := jl_inv hf
        refine jx_iinc (v := x3) (ls' := [(0, .ref (E.2.2.2 + 18)), (1, .int b1), (2, .int x3)]) dX6_endedPages_31 rfl (by rw [hx3]; rfl) (by decide) rfl ?_
        refine jx_goto (tgt := 4) dX6_endedPages_34 (by decide) ?_
        exact ih _ _ _ _ _ hf
      · rw [if_neg c2] at hf
        obtain ⟨x4, hx4, hf⟩ := jl_inv hf
        refine jx_iinc (v := x4) (ls' := [(0, .ref (E.2.2.2 + 18)), (1, .int x4), (2, .int b2)]) dX6_endedPages_28 rfl (by rw [hx4]; rfl) (by decide) rfl ?_
        obtain ⟨x5, hx5, hf⟩ := jl_inv hf
        refine jx_iinc (v := x5) (ls' := [(0, .ref (E.2.2.2 + 18)), (1, .int x4), (2, .int x5)]) dX6_endedPages_31 rfl (by rw [hx5]; rfl) (by decide) rfl ?_
        refine jx_goto (tgt := 4) dX6_endedPages_34 (by decide) ?_
        exact ih _ _ _ _ _ hf
def f_X6_endedPages  (w : jw) : Option (Int32 × jw) := (l_X6_endedPages jfu 0 0 w)
set_option maxRecDepth 20000 in
set_option maxHeartbeats 2000000 in
theorem s_X6_endedPages {E : jE} (hE : jfull E)  {w w' : jw} {v : Int32} (hf : f_X6_endedPages  w = some (v, w')) : jC E m_X6_endedPages 1 [.ref (E.2.2.2 + 18)] w (some (.int v)) w' := by
  refine jC_of (ls := [(0, .ref (E.2.2.2 + 18))]) (by decide) rfl (fun _ => trivial) (Nat.le_of_ble_eq_true rfl) rfl ⟨.int, rfl, rfl⟩ ?_
  unfold f_X6_endedPages at hf
  refine jx_iconst (v := 0) dX6_endedPages_0 (by decide) ?_
  refine jx_istore_n (ls' := [(0, .ref (E.2.2.2 + 18)), (1, .int 0)]) dX6_endedPages_1 (by decide) rfl ?_
  refine jx_iconst (v := 0) dX6_endedPages_2 (by decide) ?_
  refine jx_istore_n (ls' := [(0, .ref (E.2.2.2 + 18)), (1, .int 0), (2, .int 0)]) dX6_endedPages_3 (by decide) rfl ?_
  exact sl_X6_endedPages hE jfu _ _ _ _ _ hf
def l_X6_madeAt : Nat → Int32 → Int32 → Int32 → jw → Option (Int32 × jw)
  | 0, _, _, _, _ => none
  | n + 1, b1, b2, b3, w => (if (nI (w.2.2.2 19).length) ≤ b3 then some (b2, w) else (if (rat (w.2.2.2 23) b3) = b1 then jl (b2 + 1) fun x4 => jl (b3 + 1) fun x5 => (l_X6_madeAt n b1 x4 x5 w) else jl (b3 + 1) fun x3 => (l_X6_madeAt n b1 b2 x3 w)))
set_option maxRecDepth 20000 in
set_option maxHeartbeats 2000000 in
theorem sl_X6_madeAt {E : jE} (hE : jfull E) : ∀ (n : Nat) (b1 : Int32) (b2 : Int32) (b3 : Int32) (w : jw) (v : Int32) (w' : jw), l_X6_madeAt n b1 b2 b3 w = some (v, w') → jX E m_X6_madeAt 1 4 [(0, .ref (E.2.2.2 + 18)), (1, .int b1), (2, .int b2), (3, .int b3)] [] w (some (.int v)) w' := by
  intro n
  induction n with
  | zero => intro b1 b2 b3 w v w' hf; cases hf
  | succ n ih =>
    intro b1 b2 b3 w v w' hf
    unfold l_X6_madeAt at hf
    refine jx_iload_n dX6_madeAt_4 rfl ?_
    refine jx_aload_n dX6_madeAt_5 rfl ?_
    refine jx_getr dX6_madeAt_6 fl_X6_14 kj_18 sr_18_0 ?_
    refine jx_getn dX6_madeAt_9 fl_X6_52 kj_19 (by decide) ?_
    refine jx_icmp_ge (tgt := 36) dX6_madeAt_12 (by decide) (fun c1 => ?_) (fun c1 => ?_)
    · rw [if_pos c1] at hf
      refine jx_iload_n dX6_madeAt_36 rfl ?_
      cases hf
      exact jx_iret dX6_madeAt_37 rfl rfl
    · rw [if_neg c1] at hf
      refine jx_aload_n dX6_madeAt_15 rfl ?_
      refine jx_getr dX6_madeAt_16 fl_X6_23 kj_18 sr_18_2 ?_
      refine jx_iload_n dX6_madeAt_19 rfl ?_
      refine jx_cVi (a := 23) (As := [.int b3]) (rest := []) dX6_madeAt_20 ml_X6_55 mv_X8_at (c_row_at (k := 0) kj_23 (by decide)) rfl rfl jc_23 (by decide) (Nat.le_of_ble_eq_true rfl) ?_
      refine jx_iload_n dX6_madeAt_23 rfl ?_
      refine jx_icmp_ne (tgt := 30) dX6_madeAt_24 (by decide) (fun c2 => ?_) (fun c2 => ?_)
      · rw [if_neg c2] at hf
        obtain ⟨x3, hx3, hf⟩ := jl_inv hf
        refine jx_iinc (v := x3) (ls' := [(0, .ref (E.2.2.2 + 18)), (1, .int b1), (2, .int b2), (3, .int x3)]) dX6_madeAt_30 rfl (by rw [hx3]; rfl) (by decide) rfl ?_
        refine jx_goto (tgt := 4) dX6_madeAt_33 (by decide) ?_
        exact ih _ _ _ _ _ _ hf
      · rw [if_pos c2] at hf
        obtain ⟨x4, hx4, hf⟩ := jl_inv hf
        refine jx_iinc (v := x4) (ls' := [(0, .ref (E.2.2.2 + 18)), (1, .int b1), (2, .int x4), (3, .int b3)]) dX6_madeAt_27 rfl (by rw [hx4]; rfl) (by decide) rfl ?_
        obtain ⟨x5, hx5, hf⟩ := jl_inv hf
        refine jx_iinc (v := x5) (ls' := [(0, .ref (E.2.2.2 + 18)), (1, .int b1), (2, .int x4), (3, .int x5)]) dX6_madeAt_30 rfl (by rw [hx5]; rfl) (by decide) rfl ?_
        refine jx_goto (tgt := 4) dX6_madeAt_33 (by decide) ?_
        exact ih _ _ _ _ _ _ hf
def f_X6_madeAt (a1 : Int32) (w : jw) : Option (Int32 × jw) := (l_X6_madeAt jfu a1 0 0 w)
set_option maxRecDepth 20000 in
set_option maxHeartbeats 2000000 in
theorem s_X6_madeAt {E : jE} (hE : jfull E) {a1 : Int32} {w w' : jw} {v : Int32} (hf : f_X6_madeAt a1 w = some (v, w')) : jC E m_X6_madeAt 1 [.ref (E.2.2.2 + 18), .int a1] w (some (.int v)) w' := by
  refine jC_of (ls := [(0, .ref (E.2.2.2 + 18)), (1, .int a1)]) (by decide) rfl (fun _ => trivial) (Nat.le_of_ble_eq_true rfl) rfl ⟨.int, rfl, rfl⟩ ?_
  unfold f_X6_madeAt at hf
  refine jx_iconst (v := 0) dX6_madeAt_0 (by decide) ?_
  refine jx_istore_n (ls' := [(0, .ref (E.2.2.2 + 18)), (1, .int a1), (2, .int 0)]) dX6_madeAt_1 (by decide) rfl ?_
  refine jx_iconst (v := 0) dX6_madeAt_2 (by decide) ?_
  refine jx_istore_n (ls' := [(0, .ref (E.2.2.2 + 18)), (1, .int a1), (2, .int 0), (3, .int 0)]) dX6_madeAt_3 (by decide) rfl ?_
  exact sl_X6_madeAt hE jfu _ _ _ _ _ _ hf
def f_X6_reset (a1 : Int32) (w : jw) : Option (jw) := jl (jsetI w 18 8 a1) fun w1 => jl (jsetR w1 19 (rcut (w1.2.2.2 19) 0)) fun w2 => jl (jsetR w2 21 (rcut (w2.2.2.2 21) 0)) fun w3 => jl (jsetR w3 23 (rcut (w3.2.2.2 23) 0)) fun w4 => jl (jsetR w4 25 (rcut (w4.2.2.2 25) 0)) fun w5 => jl (jsetR w5 27 (rcut (w5.2.2.2 27) 0)) fun w6 => jl (jsetR w6 29 (rcut (w6.2.2.2 29) 0)) fun w7 => jl (jsetR w7 31 (rcut (w7.2.2.2 31) 0)) fun w8 => jl (jsetR w8 33 (rcut (w8.2.2.2 33) 0)) fun w9 => some w9
set_option maxRecDepth 20000 in
set_option maxHeartbeats 2000000 in
theorem s_X6_reset {E : jE} (hE : jfull E) {a1 : Int32} {w w' : jw} (hf : f_X6_reset a1 w = some w') : jC E m_X6_reset 1 [.ref (E.2.2.2 + 18), .int a1] w none w' := by
  refine jC_of (ls := [(0, .ref (E.2.2.2 + 18)), (1, .int a1)]) (by decide) rfl (fun _ => trivial) (Nat.le_of_ble_eq_true rfl) rfl rfl ?_
  unfold f_X6_reset at hf
  refine jx_aload_n dX6_reset_0 rfl ?_
  refine jx_iload_n dX6_reset_1 rfl ?_
  refine jx_puti dX6_reset_2 fp_X6_41 kj_18 sr_18_8 rfl rfl ?_
  obtain ⟨w1, hw1, hf⟩ := jl_inv hf
  refine jx_nw hw1 ?_
  refine jx_aload_n dX6_reset_5 rfl ?_
  refine jx_getr dX6_reset_6 fl_X6_14 kj_18 sr_18_0 ?_
  refine jx_iconst (v := 0) dX6_reset_9 (by decide) ?_
  refine jx_cVv (a := 19) (As := [.int 0]) (rest := []) dX6_reset_10 ml_X6_45 mv_X8_shorten (c_row_shorten (k := 0) kj_19 (by decide)) rfl rfl jc_19 (by decide) (Nat.le_of_ble_eq_true rfl) ?_
  obtain ⟨w2, hw2, hf⟩ := jl_inv hf
  refine jx_nw hw2 ?_
  refine jx_aload_n dX6_reset_13 rfl ?_
  refine jx_getr dX6_reset_14 fl_X6_20 kj_18 sr_18_1 ?_
  refine jx_iconst (v := 0) dX6_reset_17 (by decide) ?_
  refine jx_cVv (a := 21) (As := [.int 0]) (rest := []) dX6_reset_18 ml_X6_45 mv_X8_shorten (c_row_shorten (k := 0) kj_21 (by decide)) rfl rfl jc_21 (by decide) (Nat.le_of_ble_eq_true rfl) ?_
  obtain ⟨w3, hw3, hf⟩ := jl_inv hf
  refine jx_nw hw3 ?_
  refine jx_aload_n dX6_reset_21 rfl ?_
  refine jx_getr dX6_reset_22 fl_X6_23 kj_18 sr_18_2 ?_
  refine jx_iconst (v := 0) dX6_reset_25 (by decide) ?_
  refine jx_cVv (a := 23) (As := [.int 0]) (rest := []) dX6_reset_26 ml_X6_45 mv_X8_shorten (c_row_shorten (k := 0) kj_23 (by decide)) rfl rfl jc_23 (by decide) (Nat.le_of_ble_eq_true rfl) ?_
  obtain ⟨w4, hw4, hf⟩ := jl_inv hf
  refine jx_nw hw4 ?_
  refine jx_aload_n dX6_reset_29 rfl ?_
  refine jx_getr dX6_reset_30 fl_X6_26 kj_18 sr_18_3 ?_
  refine jx_iconst (v := 0) dX6_reset_33 (by decide) ?_
  refine jx_cVv (a := 25) (As := [.int 0]) (rest := []) dX6_reset_34 ml_X6_45 mv_X8_shorten (c_row_shorten (k := 0) kj_25 (by decide)) rfl rfl jc_25 (by decide) (Nat.le_of_ble_eq_true rfl) ?_
  obtain ⟨w5, hw5, hf⟩ := jl_inv hf
  refine jx_nw hw5 ?_
  refine jx_aload_n dX6_reset_37 rfl ?_
  refine jx_getr dX6_reset_38 fl_X6_29 kj_18 sr_18_4 ?_
  refine jx_iconst (v := 0) dX6_reset_41 (by decide) ?_
  refine jx_cVv (a := 27) (As := [.int 0]) (rest := []) dX6_reset_42 ml_X6_45 mv_X8_shorten (c_row_shorten (k := 0) kj_27 (by decide)) rfl rfl jc_27 (by decide) (Nat.le_of_ble_eq_true rfl) ?_
  obtain ⟨w6, hw6, hf⟩ := jl_inv hf
  refine jx_nw hw6 ?_
  refine jx_aload_n dX6_reset_45 rfl ?_
  refine jx_getr dX6_reset_46 fl_X6_32 kj_18 sr_18_5 ?_
  refine jx_iconst (v := 0) dX6_reset_49 (by decide) ?_
  refine jx_cVv (a := 29) (As := [.int 0]) (rest := []) dX6_reset_50 ml_X6_45 mv_X8_shorten (c_row_shorten (k := 0) kj_29 (by decide)) rfl rfl jc_29 (by decide) (Nat.le_of_ble_eq_true rfl) ?_
  obtain ⟨w7, hw7, hf⟩ := jl_inv hf
  refine jx_nw hw7 ?_
  refine jx_aload_n dX6_reset_53 rfl ?_
  refine jx_getr dX6_reset_54 fl_X6_35 kj_18 sr_18_6 ?_
  refine jx_iconst (v := 0) dX6_reset_57 (by decide) ?_
  refine jx_cVv (a := 31) (As := [.int 0]) (rest := []) dX6_reset_58 ml_X6_45 mv_X8_shorten (c_row_shorten (k := 0) kj_31 (by decide)) rfl rfl jc_31 (by decide) (Nat.le_of_ble_eq_true rfl) ?_
  obtain ⟨w8, hw8, hf⟩ := jl_inv hf
  refine jx_nw hw8 ?_
  refine jx_aload_n dX6_reset_61 rfl ?_
  refine jx_getr dX6_reset_62 fl_X6_38 kj_18 sr_18_7 ?_
  refine jx_iconst (v := 0) dX6_reset_65 (by decide) ?_
  refine jx_cVv (a := 33) (As := [.int 0]) (rest := []) dX6_reset_66 ml_X6_45 mv_X8_shorten (c_row_shorten (k := 0) kj_33 (by decide)) rfl rfl jc_33 (by decide) (Nat.le_of_ble_eq_true rfl) ?_
  obtain ⟨w9, hw9, hf⟩ := jl_inv hf
  refine jx_nw hw9 ?_
  cases hf
  exact jx_vret dX6_reset_69 rfl rfl
def f_X2_now  (w : jw) : Option (Int32 × jw) := some ((nI (w.2.2.2 36).length) - 1, w)
set_option maxRecDepth 20000 in
set_option maxHeartbeats 2000000 in
theorem s_X2_now {E : jE} (hE : jfull E)  {w w' : jw} {v : Int32} (hf : f_X2_now  w = some (v, w')) : jC E m_X2_now 0 [.ref (E.2.2.2 + 35)] w (some (.int v)) w' := by
  refine jC_of (ls := [(0, .ref (E.2.2.2 + 35))]) (by decide) rfl (fun _ => trivial) (Nat.le_of_ble_eq_true rfl) rfl ⟨.int, rfl, rfl⟩ ?_
  unfold f_X2_now at hf
  refine jx_aload_n dX2_now_0 rfl ?_
  refine jx_getr dX2_now_1 fl_X2_14 kj_35 sr_35_0 ?_
  refine jx_getn dX2_now_4 fl_X2_41 kj_36 (by decide) ?_
  refine jx_iconst (v := 1) dX2_now_7 (by decide) ?_
  refine jx_isub dX2_now_8 ?_
  cases hf
  exact jx_iret dX2_now_9 rfl rfl
def l_X2_livingFrom : Nat → Int32 → Int32 → Int32 → jw → Option (Int32 × jw)
  | 0, _, _, _, _ => none
  | n + 1, b1, b2, b3, w => (if b3 ≤ 0 then some ((-1), w) else (if (rat (w.2.2.2 36) b3) = b1 then (if (rat (w.2.2.2 38) b3) = 1 then some (b3, w) else some ((-1), w)) else jl (b3 + (-1)) fun x3 => (l_X2_livingFrom n b1 b2 x3 w)))
set_option maxRecDepth 20000 in
set_option maxHeartbeats 2000000 in
theorem sl_X2_livingFrom {E : jE} (hE : jfull E) : ∀ (n : Nat) (b1 : Int32) (b2 : Int32) (b3 : Int32) (w : jw) (v : Int32) (w' : jw), l_X2_livingFrom n b1 b2 b3 w = some (v, w') → jX E m_X2_livingFrom 1 2 [(0, .ref (E.2.2.2 + 35)), (1, .int b1), (2, .int b2), (3, .int b3)] [] w (some (.int v)) w' := by
  intro n
  induction n with
  | zero => intro b1 b2 b3 w v w' hf; cases hf
  | succ n ih =>
    intro b1 b2 b3 w v w' hf
    unfold l_X2_livingFrom at hf
    refine jx_iload_n dX2_livingFrom_2 rfl ?_
    refine jx_if_le (tgt := 42) dX2_livingFrom_3 (by decide) (fun c1 => ?_) (fun c1 => ?_)
    · rw [if_pos c1] at hf
      refine jx_iconst (v := (-1)) dX2_livingFrom_42 (by decide) ?_
      cases hf
      exact jx_iret dX2_livingFrom_43 rfl rfl
    · rw [if_neg c1] at hf
      refine jx_aload_n dX2_livingFrom_6 rfl ?_
      refine jx_getr dX2_livingFrom_7 fl_X2_14 kj_35 sr_35_0 ?_
      refine jx_iload_n dX2_livingFrom_10 rfl ?_
      refine jx_cVi (a := 36) (As := [.int b3]) (rest := []) dX2_livingFrom_11 ml_X2_54 mv_X8_at (c_row_at (k := 0) kj_36 (by decide)) rfl rfl jc_36 (by decide) (Nat.le_of_ble_eq_true rfl) ?_
      refine jx_iload_n dX2_livingFrom_14 rfl ?_
      refine jx_icmp_ne (tgt := 36) dX2_livingFrom_15 (by decide) (fun c2 => ?_) (fun c2 => ?_)
      · rw [if_neg c2] at hf
        obtain ⟨x3, hx3, hf⟩ := jl_inv hf
        refine jx_iinc (v := x3) (ls' := [(0, .ref (E.2.2.2 + 35)), (1, .int b1), (2, .int b2), (3, .int x3)]) dX2_livingFrom_36 rfl (by rw [hx3]; rfl) (by decide) rfl ?_
        refine jx_goto (tgt := 2) dX2_livingFrom_39 (by decide) ?_
        exact ih _ _ _ _ _ _ hf
      · rw [if_pos c2] at hf
        refine jx_aload_n dX2_livingFrom_18 rfl ?_
        refine jx_getr dX2_livingFrom_19 fl_X2_20 kj_35 sr_35_1 ?_
        refine jx_iload_n dX2_livingFrom_22 rfl ?_
        refine jx_cVi (a := 38) (As := [.int b3]) (rest := []) dX2_livingFrom_23 ml_X2_54 mv_X8_at (c_row_at (k := 0) kj_38 (by decide)) rfl rfl jc_38 (by decide) (Nat.le_of_ble_eq_true rfl) ?_
        refine jx_iconst (v := 1) dX2_livingFrom_26 (by decide) ?_
        refine jx_icmp_ne (tgt := 34) dX2_livingFrom_27 (by decide) (fun c4 => ?_) (fun c4 => ?_)
        · rw [if_neg c4] at hf
          refine jx_iconst (v := (-1)) dX2_livingFrom_34 (by decide) ?_
          cases hf
          exact jx_iret dX2_livingFrom_35 rfl rfl
        · rw [if_pos c4] at hf
          refine jx_iload_n dX2_livingFrom_30 rfl ?_
          refine jx_goto (tgt := 35) dX2_livingFrom_31 (by decide) ?_
          cases hf
          exact jx_iret dX2_livingFrom_35 rfl rfl
def f_X2_livingFrom (a1 : Int32) (a2 : Int32) (w : jw) : Option (Int32 × jw) := (l_X2_livingFrom jfu a1 a2 a2 w)
set_option maxRecDepth 20000 in
set_option maxHeartbeats 2000000 in
theorem s_X2_livingFrom {E : jE} (hE : jfull E) {a1 : Int32} {a2 : Int32} {w w' : jw} {v : Int32} (hf : f_X2_livingFrom a1 a2 w = some (v, w')) : jC E m_X2_livingFrom 1 [.ref (E.2.2.2 + 35), .int a1, .int a2] w (some (.int v)) w' := by
  refine jC_of (ls := [(0, .ref (E.2.2.2 + 35)), (1, .int a1), (2, .int a2)]) (by decide) rfl (fun _ => trivial) (Nat.le_of_ble_eq_true rfl) rfl ⟨.int, rfl, rfl⟩ ?_
  unfold f_X2_livingFrom at hf
  refine jx_iload_n dX2_livingFrom_0 rfl ?_
  refine jx_istore_n (ls' := [(0, .ref (E.2.2.2 + 35)), (1, .int a1), (2, .int a2), (3, .int a2)]) dX2_livingFrom_1 (by decide) rfl ?_
  exact sl_X2_livingFrom hE jfu _ _ _ _ _ _ hf
def f_X2_livesAt (a1 : Int32) (a2 : Int32) (w : jw) : Option (Bool × jw) := jl (rat (w.2.2.2 42) a1 : Int32) fun x1 => (if (rat (w.2.2.2 38) a1) = 1 then (if a2 < a1 then some (false, w) else (if x1 = (-2) then some (true, w) else (if x1 ≤ a2 then some (false, w) else some (true, w)))) else some (false, w))
set_option maxRecDepth 20000 in
set_option maxHeartbeats 2000000 in
theorem s_X2_livesAt {E : jE} (hE : jfull E) {a1 : Int32} {a2 : Int32} {w w' : jw} {v : Bool} (hf : f_X2_livesAt a1 a2 w = some (v, w')) : jC E m_X2_livesAt 1 [.ref (E.2.2.2 + 35), .int a1, .int a2] w (some (.int (jb v))) w' := by
  refine jC_of (ls := [(0, .ref (E.2.2.2 + 35)), (1, .int a1), (2, .int a2)]) (by decide) rfl (fun _ => trivial) (Nat.le_of_ble_eq_true rfl) rfl jb_ans ?_
  unfold f_X2_livesAt at hf
  refine jx_aload_n dX2_livesAt_0 rfl ?_
  refine jx_getr dX2_livesAt_1 fl_X2_26 kj_35 sr_35_3 ?_
  refine jx_iload_n dX2_livesAt_4 rfl ?_
  refine jx_cVi (a := 42) (As := [.int a1]) (rest := []) dX2_livesAt_5 ml_X2_54 mv_X8_at (c_row_at (k := 0) kj_42 (by decide)) rfl rfl jc_42 (by decide) (Nat.le_of_ble_eq_true rfl) ?_
  obtain ⟨x1, hx1, hf⟩ := jl_inv hf
  refine jx_nm hx1 ?_
  refine jx_istore_n (ls' := [(0, .ref (E.2.2.2 + 35)), (1, .int a1), (2, .int a2), (3, .int x1)]) dX2_livesAt_8 (by decide) rfl ?_
  refine jx_aload_n dX2_livesAt_9 rfl ?_
  refine jx_getr dX2_livesAt_10 fl_X2_20 kj_35 sr_35_1 ?_
  refine jx_iload_n dX2_livesAt_13 rfl ?_
  refine jx_cVi (a := 38) (As := [.int a1]) (rest := []) dX2_livesAt_14 ml_X2_54 mv_X8_at (c_row_at (k := 0) kj_38 (by decide)) rfl rfl jc_38 (by decide) (Nat.le_of_ble_eq_true rfl) ?_
  refine jx_iconst (v := 1) dX2_livesAt_17 (by decide) ?_
  refine jx_icmp_ne (tgt := 41) dX2_livesAt_18 (by decide) (fun c2 => ?_) (fun c2 => ?_)
  · rw [if_neg c2] at hf
    refine jx_iconst (v := 0) dX2_livesAt_41 (by decide) ?_
    cases hf
    exact jx_iret dX2_livesAt_42 rfl rfl
  · rw [if_pos c2] at hf
    refine jx_iload_n dX2_livesAt_21 rfl ?_
    refine jx_iload_n dX2_livesAt_22 rfl ?_
    refine jx_icmp_gt (tgt := 41) dX2_livesAt_23 (by decide) (fun c3 => ?_) (fun c3 => ?_)
    · rw [if_pos c3] at hf
      refine jx_iconst (v := 0) dX2_livesAt_41 (by decide) ?_
      cases hf
      exact jx_iret dX2_livesAt_42 rfl rfl
    · rw [if_neg c3] at hf
      refine jx_iload_n dX2_livesAt_26 rfl ?_
      refine jx_bipush (v := (-2)) dX2_livesAt_27 (by decide) ?_
      refine jx_icmp_eq (tgt := 37) dX2_livesAt_29 (by decide) (fun c4 => ?_) (fun c4 => ?_)
      · rw [if_pos c4] at hf
        refine jx_iconst (v := 1) dX2_livesAt_37 (by decide) ?_
        refine jx_goto (tgt := 42) dX2_livesAt_38 (by decide) ?_
        cases hf
        exact jx_iret dX2_livesAt_42 rfl rfl
      · rw [if_neg c4] at hf
        refine jx_iload_n dX2_livesAt_32 rfl ?_
        refine jx_iload_n dX2_livesAt_33 rfl ?_
        refine jx_icmp_ge (tgt := 41) dX2_livesAt_34 (by decide) (fun c5 => ?_) (fun c5 => ?_)
        · rw [if_pos c5] at hf
          refine jx_iconst (v := 0) dX2_livesAt_41 (by decide) ?_
          cases hf
          exact jx_iret dX2_livesAt_42 rfl rfl
        · rw [if_neg c5] at hf
          refine jx_iconst (v := 1) dX2_livesAt_37 (by decide) ?_
          refine jx_goto (tgt := 42) dX2_livesAt_38 (by decide) ?_
          cases hf
          exact jx_iret dX2_livesAt_42 rfl rfl
def f_X2_isVersion (a1 : Int32) (a2 : Int32) (w : jw) : Option (Bool × jw) := (if (rat (w.2.2.2 36) a1) = a2 then (if (rat (w.2.2.2 38) a1) = 1 then some (true, w) else some (false, w)) else some (false, w))
set_option maxRecDepth 20000 in
set_option maxHeartbeats 2000000 in
theorem s_X2_isVersion {E : jE} (hE : jfull E) {a1 : Int32} {a2 : Int32} {w w' : jw} {v : Bool} (hf : f_X2_isVersion a1 a2 w = some (v, w')) : jC E m_X2_isVersion 1 [.ref (E.2.2.2 + 35), .int a1, .int a2] w (some (.int (jb v))) w' := by
  refine jC_of (ls := [(0, .ref (E.2.2.2 + 35)), (1, .int a1), (2, .int a2)]) (by decide) rfl (fun _ => trivial) (Nat.le_of_ble_eq_true rfl) rfl jb_ans ?_
  unfold f_X2_isVersion at hf
  refine jx_aload_n dX2_isVersion_0 rfl ?_
  refine jx_getr dX2_isVersion_1 fl_X2_14 kj_35 sr_35_0 ?_
  refine jx_iload_n dX2_isVersion_4 rfl ?_
  refine jx_cVi (a := 36) (As := [.int a1]) (rest := []) dX2_isVersion_5 ml_X2_54 mv_X8_at (c_row_at (k := 0) kj_36 (by decide)) rfl rfl jc_36 (by decide) (Nat.le_of_ble_eq_true rfl) ?_
  refine jx_iload_n dX2_isVersion_8 rfl ?_
  refine jx_icmp_ne (tgt := 28) dX2_isVersion_9 (by decide) (fun c1 => ?_) (fun c1 => ?_)
  · rw [if_neg c1] at hf
    refine jx_iconst (v := 0) dX2_isVersion_28 (by decide) ?_
    cases hf
    exact jx_iret dX2_isVersion_29 rfl rfl
  · rw [if_pos c1] at hf
    refine jx_aload_n dX2_isVersion_12 rfl ?_
    refine jx_getr dX2_isVersion_13 fl_X2_20 kj_35 sr_35_1 ?_
    refine jx_iload_n dX2_isVersion_16 rfl ?_
    refine jx_cVi (a := 38) (As := [.int a1]) (rest := []) dX2_isVersion_17 ml_X2_54 mv_X8_at (c_row_at (k := 0) kj_38 (by decide)) rfl rfl jc_38 (by decide) (Nat.le_of_ble_eq_true rfl) ?_
    refine jx_iconst (v := 1) dX2_isVersion_20 (by decide) ?_
    refine jx_icmp_ne (tgt := 28) dX2_isVersion_21 (by decide) (fun c2 => ?_) (fun c2 => ?_)
    · rw [if_neg c2] at hf
      refine jx_iconst (v := 0) dX2_isVersion_28 (by decide) ?_
      cases hf
      exact jx_iret dX2_isVersion_29 rfl rfl
    · rw [if_pos c2] at hf
      refine jx_iconst (v := 1) dX2_isVersion_24 (by decide) ?_
      refine jx_goto (tgt := 29) dX2_isVersion_25 (by decide) ?_
      cases hf
      exact jx_iret dX2_isVersion_29 rfl rfl
def l_X2_versionsOf : Nat → Int32 → Int32 → Int32 → jw → Option (Int32 × jw)
  | 0, _, _, _, _ => none
  | n + 1, b1, b2, b3, w => (if (nI (w.2.2.2 36).length) ≤ b3 then some (b2, w) else jbd2 (f_X2_isVersion b3 b1 w) fun x3 w4 => (if (jb x3) = 0 then jl (b3 + 1) fun x6 => (l_X2_versionsOf n b1 b2 x6 w4) else jl (b2 + 1) fun x7 => jl (b3 + 1) fun x8 => (l_X2_versionsOf n b1 x7 x8 w4)))
set_option maxRecDepth 20000 in
set_option maxHeartbeats 2000000 in
theorem sl_X2_versionsOf {E : jE} (hE : jfull E) : ∀ (n : Nat) (b1 : Int32) (b2 : Int32) (b3 : Int32) (w : jw) (v : Int32) (w' : jw), l_X2_versionsOf n b1 b2 b3 w = some (v, w') → jX E m_X2_versionsOf 2 4 [(0, .ref (E.2.2.2 + 35)), (1, .int b1), (2, .int b2), (3, .int b3)] [] w (some (.int v)) w' := by
  intro n
  induction n with
  | zero => intro b1 b2 b3 w v w' hf; cases hf
  | succ n ih =>
    intro b1 b2 b3 w v w' hf
    unfold l_X2_versionsOf at hf
    refine jx_iload_n dX2_versionsOf_4 rfl ?_
    refine jx_aload_n dX2_versionsOf_5 rfl ?_
    refine jx_getr dX2_versionsOf_6 fl_X2_14 kj_35 sr_35_0 ?_
    refine jx_getn dX2_versionsOf_9 fl_X2_41 kj_36 (by decide) ?_
    refine jx_icmp_ge (tgt := 33) dX2_versionsOf_12 (by decide) (fun c1 => ?_) (fun c1 => ?_)
    · rw [if_pos c1] at hf
      refine jx_iload_n dX2_versionsOf_33 rfl ?_
      cases hf
      exact jx_iret dX2_versionsOf_34 rfl rfl
    · rw [if_neg c1] at hf
      refine jx_aload_n dX2_versionsOf_15 rfl ?_
      refine jx_iload_n dX2_versionsOf_16 rfl ?_
      refine jx_iload_n dX2_versionsOf_17 rfl ?_
      obtain ⟨x3, w4, hq2, hf⟩ := jbd2_inv hf
      refine jx_cVi (a := 35) (As := [.int b3, .int b1]) (rest := []) dX2_versionsOf_18 ml_X2_58 mv_X2_isVersion (s_X2_isVersion hE hq2) rfl rfl jc_35 (by decide) (Nat.le_of_ble_eq_true rfl) ?_
      refine jx_if_eq (tgt := 27) dX2_versionsOf_21 (by decide) (fun c5 => ?_) (fun c5 => ?_)
      · rw [if_pos c5] at hf
        obtain ⟨x6, hx6, hf⟩ := jl_inv hf
        refine jx_iinc (v := x6) (ls' := [(0, .ref (E.2.2.2 + 35)), (1, .int b1), (2, .int b2), (3, .int x6)]) dX2_versionsOf_27 rfl (by rw [hx6]; rfl) (by decide) rfl ?_
        refine jx_goto (tgt := 4) dX2_versionsOf_30 (by decide) ?_
        exact ih _ _ _ _ _ _ hf
      · rw [if_neg c5] at hf
        obtain ⟨x7, hx7, hf⟩ := jl_inv hf
        refine jx_iinc (v := x7) (ls' := [(0, .ref (E.2.2.2 + 35)), (1, .int b1), (2, .int x7), (3, .int b3)]) dX2_versionsOf_24 rfl (by rw [hx7]; rfl) (by decide) rfl ?_
        obtain ⟨x8, hx8, hf⟩ := jl_inv hf
        refine jx_iinc (v := x8) (ls' := [(0, .ref (E.2.2.2 + 35)), (1, .int b1), (2, .int x7), (3, .int x8)]) dX2_versionsOf_27 rfl (by rw [hx8]; rfl) (by decide) rfl ?_
        refine jx_goto (tgt := 4) dX2_versionsOf_30 (by decide) ?_
        exact ih _ _ _ _ _ _ hf
def f_X2_versionsOf (a1 : Int32) (w : jw) : Option (Int32 × jw) := (l_X2_versionsOf jfu a1 0 1 w)
set_option maxRecDepth 20000 in
set_option maxHeartbeats 2000000 in
theorem s_X2_versionsOf {E : jE} (hE : jfull E) {a1 : Int32} {w w' : jw} {v : Int32} (hf : f_X2_versionsOf a1 w = some (v, w')) : jC E m_X2_versionsOf 2 [.ref (E.2.2.2 + 35), .int a1] w (some (.int v)) w' := by
  refine jC_of (ls := [(0, .ref (E.2.2.2 + 35)), (1, .int a1)]) (by decide) rfl (fun _ => trivial) (Nat.le_of_ble_eq_true rfl) rfl ⟨.int, rfl, rfl⟩ ?_
  unfold f_X2_versionsOf at hf
  refine jx_iconst (v := 0) dX2_versionsOf_0 (by decide) ?_
  refine jx_istore_n (ls' := [(0, .ref (E.2.2.2 + 35)), (1, .int a1), (2, .int 0)]) dX2_versionsOf_1 (by decide) rfl ?_
  refine jx_iconst (v := 1) dX2_versionsOf_2 (by decide) ?_
  refine jx_istore_n (ls' := [(0, .ref (E.2.2.2 + 35)), (1, .int a1), (2, .int 0), (3, .int 1)]) dX2_versionsOf_3 (by decide) rfl ?_
  exact sl_X2_versionsOf hE jfu _ _ _ _ _ _ hf
def l_X2_versionFrom : Nat → Int32 → Int32 → Int32 → Int32 → jw → Option (Int32 × jw)
  | 0, _, _, _, _, _ => none
  | n + 1, b1, b2, b3, b4, w => (if (nI (w.2.2.2 36).length) ≤ b4 then some ((-1), w) else (if b3 < 0 then some ((-1), w) else jbd2 (f_X2_isVersion b4 b1 w) fun x4 w5 => (if (jb x4) = 0 then jl (b4 + 1) fun x7 => (l_X2_versionFrom n b1 b2 b3 x7 w5) else (if b3 = 0 then some (b4, w5) else jl (b3 + (-1)) fun x9 => jl (b4 + 1) fun x10 => (l_X2_versionFrom n b1 b2 x9 x10 w5)))))
set_option maxRecDepth 20000 in
set_option maxHeartbeats 2000000 in
theorem sl_X2_versionFrom {E : jE} (hE : jfull E) : ∀ (n : Nat) (b1 : Int32) (b2 : Int32) (b3 : Int32) (b4 : Int32) (w : jw) (v : Int32) (w' : jw), l_X2_versionFrom n b1 b2 b3 b4 w = some (v, w') → jX E m_X2_versionFrom 2 5 [(0, .ref (E.2.2.2 + 35)), (1, .int b1), (2, .int b2), (3, .int b3), (4, .int b4)] [] w (some (.int v)) w' := by
  intro n
  induction n with
  | zero => intro b1 b2 b3 b4 w v w' hf; cases hf
  | succ n ih =>
    intro b1 b2 b3 b4 w v w' hf
    unfold l_X2_versionFrom at hf
    refine jx_iload dX2_versionFrom_5 rfl ?_
    refine jx_aload_n dX2_versionFrom_7 rfl ?_
    refine jx_getr dX2_versionFrom_8 fl_X2_14 kj_35 sr_35_0 ?_
    refine jx_getn dX2_versionFrom_11 fl_X2_41 kj_36 (by decide) ?_
    refine jx_icmp_ge (tgt := 47) dX2_versionFrom_14 (by decide) (fun c1 => ?_) (fun c1 => ?_)
    · rw [if_pos c1] at hf
      refine jx_iconst (v := (-1)) dX2_versionFrom_47 (by decide) ?_
      cases hf
      exact jx_iret dX2_versionFrom_48 rfl rfl
    · rw [if_neg c1] at hf
      refine jx_iload_n dX2_versionFrom_17 rfl ?_
      refine jx_if_lt (tgt := 47) dX2_versionFrom_18 (by decide) (fun c2 => ?_) (fun c2 => ?_)
      · rw [if_pos c2] at hf
        refine jx_iconst (v := (-1)) dX2_versionFrom_47 (by decide) ?_
        cases hf
        exact jx_iret dX2_versionFrom_48 rfl rfl
      · rw [if_neg c2] at hf
        refine jx_aload_n dX2_versionFrom_21 rfl ?_
        refine jx_iload dX2_versionFrom_22 rfl ?_
        refine jx_iload_n dX2_versionFrom_24 rfl ?_
        obtain ⟨x4, w5, hq3, hf⟩ := jbd2_inv hf
        refine jx_cVi (a := 35) (As := [.int b4, .int b1]) (rest := []) dX2_versionFrom_25 ml_X2_58 mv_X2_isVersion (s_X2_isVersion hE hq3) rfl rfl jc_35 (by decide) (Nat.le_of_ble_eq_true rfl) ?_
        refine jx_if_eq (tgt := 41) dX2_versionFrom_28 (by decide) (fun c6 => ?_) (fun c6 => ?_)
        · rw [if_pos c6] at hf
          obtain ⟨x7, hx7, hf⟩ := jl_inv hf
          refine jx_iinc (v := x7) (ls' := [(0, .ref (E.2.2.2 + 35)), (1, .int b1), (2, .int b2), (3, .int b3), (4, .int x7)]) dX2_versionFrom_41 rfl (by rw [hx7]; rfl) (by decide) rfl ?_
          refine jx_goto (tgt := 5) dX2_versionFrom_44 (by decide) ?_
          exact ih _ _ _ _ _ _ _ hf
        · rw [if_neg c6] at hf
          refine jx_iload_n dX2_versionFrom_31 rfl ?_
          refine jx_if_ne (tgt := 38) dX2_versionFrom_32 (by decide) (fun c8 => ?_) (fun c8 => ?_)
          · rw [if_neg c8] at hf
            obtain ⟨x9, hx9, hf⟩ := jl_inv hf
            refine jx_iinc (v := x9) (ls' := [(0, .ref (E.2.2.2 + 35)), (1, .int b1), (2, .int b2), (3, .int x9), (4, .int b4)]) dX2_versionFrom_38 rfl (by rw [hx9]; rfl) (by decide) rfl ?_
            obtain ⟨x10, hx10, hf⟩ := jl_inv hf
            refine jx_iinc (v := x10) (ls' := [(0, .ref (E.2.2.2 + 35)), (1, .int b1), (2, .int b2), (3, .int x9), (4, .int x10)]) dX2_versionFrom_41 rfl (by rw [hx10]; rfl) (by decide) rfl ?_
            refine jx_goto (tgt := 5) dX2_versionFrom_44 (by decide) ?_
            exact ih _ _ _ _ _ _ _ hf
          · rw [if_pos c8] at hf
            refine jx_iload dX2_versionFrom_35 rfl ?_
            cases hf
            exact jx_iret dX2_versionFrom_37 rfl rfl
def f_X2_versionFrom (a1 : Int32) (a2 : Int32) (w : jw) : Option (Int32 × jw) := (l_X2_versionFrom jfu a1 a2 a2 1 w)
set_option maxRecDepth 20000 in
set_option maxHeartbeats 2000000 in
theorem s_X2_versionFrom {E : jE} (hE : jfull E) {a1 : Int32} {a2 : Int32} {w w' : jw} {v : Int32} (hf : f_X2_versionFrom a1 a2 w = some (v, w')) : jC E m_X2_versionFrom 2 [.ref (E.2.2.2 + 35), .int a1, .int a2] w (some (.int v)) w' := by
  refine jC_of (ls := [(0, .ref (E.2.2.2 + 35)), (1, .int a1), (2, .int a2)]) (by decide) rfl (fun _ => trivial) (Nat.le_of_ble_eq_true rfl) rfl ⟨.int, rfl, rfl⟩ ?_
  unfold f_X2_versionFrom at hf
  refine jx_iload_n dX2_versionFrom_0 rfl ?_
  refine jx_istore_n (ls' := [(0, .ref (E.2.2.2 + 35)), (1, .int a1), (2, .int a2), (3, .int a2)]) dX2_versionFrom_1 (by decide) rfl ?_
  refine jx_iconst (v := 1) dX2_versionFrom_2 (by decide) ?_
  refine jx_istore (ls' := [(0, .ref (E.2.2.2 + 35)), (1, .int a1), (2, .int a2), (3, .int a2), (4, .int 1)]) dX2_versionFrom_3 (by decide) rfl ?_
  exact sl_X2_versionFrom hE jfu _ _ _ _ _ _ _ hf
def f_X2_lengthOf (a1 : Int32) (w : jw) : Option (Int32 × jw) := jl (rat (w.2.2.2 42) a1 : Int32) fun x1 => (if x1 = (-2) then some ((nI (w.2.2.2 36).length) - a1, w) else some (x1 - a1, w))
set_option maxRecDepth 20000 in
set_option maxHeartbeats 2000000 in
theorem s_X2_lengthOf {E : jE} (hE : jfull E) {a1 : Int32} {w w' : jw} {v : Int32} (hf : f_X2_lengthOf a1 w = some (v, w')) : jC E m_X2_lengthOf 1 [.ref (E.2.2.2 + 35), .int a1] w (some (.int v)) w' := by
  refine jC_of (ls := [(0, .ref (E.2.2.2 + 35)), (1, .int a1)]) (by decide) rfl (fun _ => trivial) (Nat.le_of_ble_eq_true rfl) rfl ⟨.int, rfl, rfl⟩ ?_
  unfold f_X2_lengthOf at hf
  refine jx_aload_n dX2_lengthOf_0 rfl ?_
  refine jx_getr dX2_lengthOf_1 fl_X2_26 kj_35 sr_35_3 ?_
  refine jx_iload_n dX2_lengthOf_4 rfl ?_
  refine jx_cVi (a := 42) (As := [.int a1]) (rest := []) dX2_lengthOf_5 ml_X2_54 mv_X8_at (c_row_at (k := 0) kj_42 (by decide)) rfl rfl jc_42 (by decide) (Nat.le_of_ble_eq_true rfl) ?_
  obtain ⟨x1, hx1, hf⟩ := jl_inv hf
  refine jx_nm hx1 ?_
  refine jx_istore_n (ls' := [(0, .ref (E.2.2.2 + 35)), (1, .int a1), (2, .int x1)]) dX2_lengthOf_8 (by decide) rfl ?_
  refine jx_iload_n dX2_lengthOf_9 rfl ?_
  refine jx_bipush (v := (-2)) dX2_lengthOf_10 (by decide) ?_
  refine jx_icmp_ne (tgt := 25) dX2_lengthOf_12 (by decide) (fun c2 => ?_) (fun c2 => ?_)
  · rw [if_neg c2] at hf
    refine jx_iload_n dX2_lengthOf_25 rfl ?_
    refine jx_iload_n dX2_lengthOf_26 rfl ?_
    refine jx_isub dX2_lengthOf_27 ?_
    cases hf
    exact jx_iret dX2_lengthOf_28 rfl rfl
  · rw [if_pos c2] at hf
    refine jx_aload_n dX2_lengthOf_15 rfl ?_
    refine jx_getr dX2_lengthOf_16 fl_X2_14 kj_35 sr_35_0 ?_
    refine jx_getn dX2_lengthOf_19 fl_X2_41 kj_36 (by decide) ?_
    refine jx_goto (tgt := 26) dX2_lengthOf_22 (by decide) ?_
    refine jx_iload_n dX2_lengthOf_26 rfl ?_
    refine jx_isub dX2_lengthOf_27 ?_
    cases hf
    exact jx_iret dX2_lengthOf_28 rfl rfl
def f_X2_happen (a1 : Int32) (a2 : Int32) (a3 : Int32) (w : jw) : Option (Int32 × jw) := jl (nI (w.2.2.2 36).length : Int32) fun x1 => jbd2 (f_X2_livingFrom a2 (x1 - 1) w) fun x3 w4 => (if x3 = (-1) then jl (jsetI w4 35 4 ((w4.1 35 4) + a1)) fun w6 => jg (decide ((w6.2.2.2 36).length ≤ 4096)) (jl (jsetR w6 36 (w6.2.2.2 36 ++ [a2])) fun w7 => jg (decide ((w7.2.2.2 38).length ≤ 4096)) (jl (jsetR w7 38 (w7.2.2.2 38 ++ [a1])) fun w9 => jg (decide ((w9.2.2.2 40).length ≤ 4096)) (jl (jsetR w9 40 (w9.2.2.2 40 ++ [a3])) fun w11 => jg (decide ((w11.2.2.2 42).length ≤ 4096)) (jl (jsetR w11 42 (w11.2.2.2 42 ++ [(-2)])) fun w13 => some (x1, w13))))) else jl (jsetR w4 42 (rset (w4.2.2.2 42) x3 x1)) fun w15 => jl (jsetI w15 35 4 ((w15.1 35 4) - 1)) fun w16 => jl (jsetI w16 35 4 ((w16.1 35 4) + a1)) fun w17 => jg (decide ((w17.2.2.2 36).length ≤ 4096)) (jl (jsetR w17 36 (w17.2.2.2 36 ++ [a2])) fun w18 => jg (decide ((w18.2.2.2 38).length ≤ 4096)) (jl (jsetR w18 38 (w18.2.2.2 38 ++ [a1])) fun w20 => jg (decide ((w20.2.2.2 40).length ≤ 4096)) (jl (jsetR w20 40 (w20.2.2.2 40 ++ [a3])) fun w22 => jg (decide ((w22.2.2.2 42).length ≤ 4096)) (jl (jsetR w22 42 (w22.2.2.2 42 ++ [(-2)])) fun w24 => some (x1, w24))))))
set_option maxRecDepth 20000 in
set_option maxHeartbeats 2000000 in
theorem s_X2_happen {E : jE} (hE : jfull E) {a1 : Int32} {a2 : Int32} {a3 : Int32} {w w' : jw} {v : Int32} (hf : f_X2_happen a1 a2 a3 w = some (v, w')) : jC E m_X2_happen 3 [.ref (E.2.2.2 + 35), .int a1, .int a2, .int a3] w (some (.int v)) w' := by
  refine jC_of (ls := [(0, .ref (E.2.2.2 + 35)), (1, .int a1), (2, .int a2), (3, .int a3)]) (by decide) rfl (fun _ => trivial) (Nat.le_of_ble_eq_true rfl) rfl ⟨.int, rfl, rfl⟩ ?_
  unfold f_X2_happen at hf
  refine jx_aload_n dX2_happen_0 rfl ?_
  refine jx_getr dX2_happen_1 fl_X2_14 kj_35 sr_35_0 ?_
  refine jx_getn dX2_happen_4 fl_X2_41 kj_36 (by decide) ?_
  obtain ⟨x1, hx1, hf⟩ := jl_inv hf
  refine jx_nm hx1 ?_
  refine jx_istore (ls' := [(0, .ref (E.2.2.2 + 35)), (1, .int a1), (2, .int a2), (3, .int a3), (4, .int x1)]) dX2_happen_7 (by decide) rfl ?_
  refine jx_aload_n dX2_happen_9 rfl ?_
  refine jx_iload_n dX2_happen_10 rfl ?_
  refine jx_iload dX2_happen_11 rfl ?_
  refine jx_iconst (v := 1) dX2_happen_13 (by decide) ?_
  refine jx_isub dX2_happen_14 ?_
  obtain ⟨x3, w4, hq2, hf⟩ := jbd2_inv hf
  refine jx_cVi (a := 35) (As := [.int a2, .int (x1 - 1)]) (rest := []) dX2_happen_15 ml_X2_44 mv_X2_livingFrom (s_X2_livingFrom hE hq2) rfl rfl jc_35 (by decide) (Nat.le_of_ble_eq_true rfl) ?_
  refine jx_istore (ls' := [(0, .ref (E.2.2.2 + 35)), (1, .int a1), (2, .int a2), (3, .int a3), (4, .int x1), (5, .int x3)]) dX2_happen_18 (by decide) rfl ?_
  refine jx_iload dX2_happen_20 rfl ?_
  refine jx_iconst (v := (-1)) dX2_happen_22 (by decide) ?_
  refine jx_icmp_eq (tgt := 47) dX2_happen_23 (by decide) (fun c5 => ?_) (fun c5 => ?_)
  · rw [if_pos c5] at hf
    refine jx_aload_n dX2_happen_47 rfl ?_
    refine jx_dup dX2_happen_48 rfl ?_
    refine jx_geti dX2_happen_49 fl_X2_29 kj_35 sr_35_4 ?_
    refine jx_iload_n dX2_happen_52 rfl ?_
    refine jx_iadd dX2_happen_53 ?_
    refine jx_puti dX2_happen_54 fp_X2_29 kj_35 sr_35_4 rfl rfl ?_
    obtain ⟨w6, hw6, hf⟩ := jl_inv hf
    refine jx_nw hw6 ?_
    refine jx_aload_n dX2_happen_57 rfl ?_
    refine jx_getr dX2_happen_58 fl_X2_14 kj_35 sr_35_0 ?_
    refine jx_iload_n dX2_happen_61 rfl ?_
    obtain ⟨c8, hf⟩ := jg_inv hf
    refine jx_cVv (a := 36) (As := [.int a2]) (rest := []) dX2_happen_62 ml_X2_51 mv_X8_add (c_row_add kj_36 (of_decide_eq_true c8) (Or.inl hE)) rfl rfl jc_36 (by decide) (Nat.le_of_ble_eq_true rfl) ?_
    obtain ⟨w7, hw7, hf⟩ := jl_inv hf
    refine jx_nw hw7 ?_
    refine jx_aload_n dX2_happen_65 rfl ?_
    refine jx_getr dX2_happen_66 fl_X2_20 kj_35 sr_35_1 ?_
    refine jx_iload_n dX2_happen_69 rfl ?_
    obtain ⟨c10, hf⟩ := jg_inv hf
    refine jx_cVv (a := 38) (As := [.int a1]) (rest := []) dX2_happen_70 ml_X2_51 mv_X8_add (c_row_add kj_38 (of_decide_eq_true c10) (Or.inl hE)) rfl rfl jc_38 (by decide) (Nat.le_of_ble_eq_true rfl) ?_
    obtain ⟨w9, hw9, hf⟩ := jl_inv hf
    refine jx_nw hw9 ?_
    refine jx_aload_n dX2_happen_73 rfl ?_
    refine jx_getr dX2_happen_74 fl_X2_23 kj_35 sr_35_2 ?_
    refine jx_iload_n dX2_happen_77 rfl ?_
    obtain ⟨c12, hf⟩ := jg_inv hf
    refine jx_cVv (a := 40) (As := [.int a3]) (rest := []) dX2_happen_78 ml_X2_51 mv_X8_add (c_row_add kj_40 (of_decide_eq_true c12) (Or.inl hE)) rfl rfl jc_40 (by decide) (Nat.le_of_ble_eq_true rfl) ?_
    obtain ⟨w11, hw11, hf⟩ := jl_inv hf
    refine jx_nw hw11 ?_
    refine jx_aload_n dX2_happen_81 rfl ?_
    refine jx_getr dX2_happen_82 fl_X2_26 kj_35 sr_35_3 ?_
    refine jx_bipush (v := (-2)) dX2_happen_85 (by decide) ?_
    obtain ⟨c14, hf⟩ := jg_inv hf
    refine jx_cVv (a := 42) (As := [.int (-2)]) (rest := []) dX2_happen_87 ml_X2_51 mv_X8_add (c_row_add kj_42 (of_decide_eq_true c14) (Or.inl hE)) rfl rfl jc_42 (by decide) (Nat.le_of_ble_eq_true rfl) ?_
    obtain ⟨w13, hw13, hf⟩ := jl_inv hf
    refine jx_nw hw13 ?_
    refine jx_iload dX2_happen_90 rfl ?_
    cases hf
    exact jx_iret dX2_happen_92 rfl rfl
  · rw [if_neg c5] at hf
    refine jx_aload_n dX2_happen_26 rfl ?_
    refine jx_getr dX2_happen_27 fl_X2_26 kj_35 sr_35_3 ?_
    refine jx_iload dX2_happen_30 rfl ?_
    refine jx_iload dX2_happen_32 rfl ?_
    refine jx_cVv (a := 42) (As := [.int x3, .int x1]) (rest := []) dX2_happen_34 ml_X2_48 mv_X8_change (c_row_change (k := 0) kj_42 (by decide)) rfl rfl jc_42 (by decide) (Nat.le_of_ble_eq_true rfl) ?_
    obtain ⟨w15, hw15, hf⟩ := jl_inv hf
    refine jx_nw hw15 ?_
    refine jx_aload_n dX2_happen_37 rfl ?_
    refine jx_dup dX2_happen_38 rfl ?_
    refine jx_geti dX2_happen_39 fl_X2_29 kj_35 sr_35_4 ?_
    refine jx_iconst (v := 1) dX2_happen_42 (by decide) ?_
    refine jx_isub dX2_happen_43 ?_
    refine jx_puti dX2_happen_44 fp_X2_29 kj_35 sr_35_4 rfl rfl ?_
    obtain ⟨w16, hw16, hf⟩ := jl_inv hf
    refine jx_nw hw16 ?_
    refine jx_aload_n dX2_happen_47 rfl ?_
    refine jx_dup dX2_happen_48 rfl ?_
    refine jx_geti dX2_happen_49 fl_X2_29 kj_35 sr_35_4 ?_
    refine jx_iload_n dX2_happen_52 rfl ?_
    refine jx_iadd dX2_happen_53 ?_
    refine jx_puti dX2_happen_54 fp_X2_29 kj_35 sr_35_4 rfl rfl ?_
    obtain ⟨w17, hw17, hf⟩ := jl_inv hf
    refine jx_nw hw17 ?_
    refine jx_aload_n dX2_happen_57 rfl ?_
    refine jx_getr dX2_happen_58 fl_X2_14 kj_35 sr_35_0 ?_
    refine jx_iload_n dX2_happen_61 rfl ?_
    obtain ⟨c19, hf⟩ := jg_inv hf
    refine jx_cVv (a := 36) (As := [.int a2]) (rest := []) dX2_happen_62 ml_X2_51 mv_X8_add (c_row_add kj_36 (of_decide_eq_true c19) (Or.inl hE)) rfl rfl jc_36 (by decide) (Nat.le_of_ble_eq_true rfl) ?_
    obtain ⟨w18, hw18, hf⟩ := jl_inv hf
    refine jx_nw hw18 ?_
    refine jx_aload_n dX2_happen_65 rfl ?_
    refine jx_getr dX2_happen_66 fl_X2_20 kj_35 sr_35_1 ?_
    refine jx_iload_n dX2_happen_69 rfl ?_
    obtain ⟨c21, hf⟩ := jg_inv hf
    refine jx_cVv (a := 38) (As := [.int a1]) (rest := []) dX2_happen_70 ml_X2_51 mv_X8_add (c_row_add kj_38 (of_decide_eq_true c21) (Or.inl hE)) rfl rfl jc_38 (by decide) (Nat.le_of_ble_eq_true rfl) ?_
    obtain ⟨w20, hw20, hf⟩ := jl_inv hf
    refine jx_nw hw20 ?_
    refine jx_aload_n dX2_happen_73 rfl ?_
    refine jx_getr dX2_happen_74 fl_X2_23 kj_35 sr_35_2 ?_
    refine jx_iload_n dX2_happen_77 rfl ?_
    obtain ⟨c23, hf⟩ := jg_inv hf
    refine jx_cVv (a := 40) (As := [.int a3]) (rest := []) dX2_happen_78 ml_X2_51 mv_X8_add (c_row_add kj_40 (of_decide_eq_true c23) (Or.inl hE)) rfl rfl jc_40 (by decide) (Nat.le_of_ble_eq_true rfl) ?_
    obtain ⟨w22, hw22, hf⟩ := jl_inv hf
    refine jx_nw hw22 ?_
    refine jx_aload_n dX2_happen_81 rfl ?_
    refine jx_getr dX2_happen_82 fl_X2_26 kj_35 sr_35_3 ?_
    refine jx_bipush (v := (-2)) dX2_happen_85 (by decide) ?_
    obtain ⟨c25, hf⟩ := jg_inv hf
    refine jx_cVv (a := 42) (As := [.int (-2)]) (rest := []) dX2_happen_87 ml_X2_51 mv_X8_add (c_row_add kj_42 (of_decide_eq_true c25) (Or.inl hE)) rfl rfl jc_42 (by decide) (Nat.le_of_ble_eq_true rfl) ?_
    obtain ⟨w24, hw24, hf⟩ := jl_inv hf
    refine jx_nw hw24 ?_
    refine jx_iload dX2_happen_90 rfl ?_
    cases hf
    exact jx_iret dX2_happen_92 rfl rfl
def f_X2_reset  (w : jw) : Option (jw) := jl (jsetI w 35 4 0) fun w1 => jl (jsetR w1 36 (List.replicate 1 (-1))) fun w2 => jl (jsetR w2 38 (List.replicate 1 0)) fun w3 => jl (jsetR w3 40 (List.replicate 1 0)) fun w4 => jl (jsetR w4 42 (List.replicate 1 0)) fun w5 => some w5
set_option maxRecDepth 20000 in
set_option maxHeartbeats 2000000 in
theorem s_X2_reset {E : jE} (hE : jfull E)  {w w' : jw} (hf : f_X2_reset  w = some w') : jC E m_X2_reset 1 [.ref (E.2.2.2 + 35)] w none w' := by
  refine jC_of (ls := [(0, .ref (E.2.2.2 + 35))]) (by decide) rfl (fun _ => trivial) (Nat.le_of_ble_eq_true rfl) rfl rfl ?_
  unfold f_X2_reset at hf
  refine jx_aload_n dX2_reset_0 rfl ?_
  refine jx_iconst (v := 0) dX2_reset_1 (by decide) ?_
  refine jx_puti dX2_reset_2 fp_X2_29 kj_35 sr_35_4 rfl rfl ?_
  obtain ⟨w1, hw1, hf⟩ := jl_inv hf
  refine jx_nw hw1 ?_
  refine jx_aload_n dX2_reset_5 rfl ?_
  refine jx_getr dX2_reset_6 fl_X2_14 kj_35 sr_35_0 ?_
  refine jx_iconst (v := 1) dX2_reset_9 (by decide) ?_
  refine jx_iconst (v := (-1)) dX2_reset_10 (by decide) ?_
  refine jx_cVv (a := 36) (As := [.int 1, .int (-1)]) (rest := []) dX2_reset_11 ml_X2_33 mv_X8_fill (c_row_fill (k := 0) (N := 1) kj_36 (by decide) (Or.inr (by decide))) rfl rfl jc_36 (by decide) (Nat.le_of_ble_eq_true rfl) ?_
  obtain ⟨w2, hw2, hf⟩ := jl_inv hf
  refine jx_nw hw2 ?_
  refine jx_aload_n dX2_reset_14 rfl ?_
  refine jx_getr dX2_reset_15 fl_X2_20 kj_35 sr_35_1 ?_
  refine jx_iconst (v := 1) dX2_reset_18 (by decide) ?_
  refine jx_iconst (v := 0) dX2_reset_19 (by decide) ?_
  refine jx_cVv (a := 38) (As := [.int 1, .int 0]) (rest := []) dX2_reset_20 ml_X2_33 mv_X8_fill (c_row_fill (k := 0) (N := 1) kj_38 (by decide) (Or.inr (by decide))) rfl rfl jc_38 (by decide) (Nat.le_of_ble_eq_true rfl) ?_
  obtain ⟨w3, hw3, hf⟩ := jl_inv hf
  refine jx_nw hw3 ?_
  refine jx_aload_n dX2_reset_23 rfl ?_
  refine jx_getr dX2_reset_24 fl_X2_23 kj_35 sr_35_2 ?_
  refine jx_iconst (v := 1) dX2_reset_27 (by decide) ?_
  refine jx_iconst (v := 0) dX2_reset_28 (by decide) ?_
  refine jx_cVv (a := 40) (As := [.int 1, .int 0]) (rest := []) dX2_reset_29 ml_X2_33 mv_X8_fill (c_row_fill (k := 0) (N := 1) kj_40 (by decide) (Or.inr (by decide))) rfl rfl jc_40 (by decide) (Nat.le_of_ble_eq_true rfl) ?_
  obtain ⟨w4, hw4, hf⟩ := jl_inv hf
  refine jx_nw hw4 ?_
  refine jx_aload_n dX2_reset_32 rfl ?_
  refine jx_getr dX2_reset_33 fl_X2_26 kj_35 sr_35_3 ?_
  refine jx_iconst (v := 1) dX2_reset_36 (by decide) ?_
  refine jx_iconst (v := 0) dX2_reset_37 (by decide) ?_
  refine jx_cVv (a := 42) (As := [.int 1, .int 0]) (rest := []) dX2_reset_38 ml_X2_33 mv_X8_fill (c_row_fill (k := 0) (N := 1) kj_42 (by decide) (Or.inr (by decide))) rfl rfl jc_42 (by decide) (Nat.le_of_ble_eq_true rfl) ?_
  obtain ⟨w5, hw5, hf⟩ := jl_inv hf
  refine jx_nw hw5 ?_
  cases hf
  exact jx_vret dX2_reset_41 rfl rfl
def f_X9_addRoot (a1 : Int32) (a2 : Int32) (w : jw) : Option (jw) := jg (decide ((w.2.2.2 44).length ≤ 4096)) (jl (jsetR w 44 (w.2.2.2 44 ++ [a2])) fun w1 => jg (decide ((w1.2.2.2 46).length ≤ 4096)) (jl (jsetR w1 46 (w1.2.2.2 46 ++ [a1])) fun w3 => some w3))
set_option maxRecDepth 20000 in
set_option maxHeartbeats 2000000 in
theorem s_X9_addRoot {E : jE} (hE : jfull E) {a1 : Int32} {a2 : Int32} {w w' : jw} (hf : f_X9_addRoot a1 a2 w = some w') : jC E m_X9_addRoot 3 [.ref (E.2.2.2 + 17), .int a1, .int a2] w none w' := by
  refine jC_of (ls := [(0, .ref (E.2.2.2 + 17)), (1, .int a1), (2, .int a2)]) (by decide) rfl (fun _ => trivial) (Nat.le_of_ble_eq_true rfl) rfl rfl ?_
  unfold f_X9_addRoot at hf
  refine jx_aload_n dX9_addRoot_0 rfl ?_
  refine jx_getr dX9_addRoot_1 fl_X9_30 kj_17 sr_17_2 ?_
  refine jx_iload_n dX9_addRoot_4 rfl ?_
  obtain ⟨c2, hf⟩ := jg_inv hf
  refine jx_cVv (a := 44) (As := [.int a2]) (rest := []) dX9_addRoot_5 ml_X9_67 mv_X8_add (c_row_add kj_44 (of_decide_eq_true c2) (Or.inl hE)) rfl rfl jc_44 (by decide) (Nat.le_of_ble_eq_true rfl) ?_
  obtain ⟨w1, hw1, hf⟩ := jl_inv hf
  refine jx_nw hw1 ?_
  refine jx_aload_n dX9_addRoot_8 rfl ?_
  refine jx_getr dX9_addRoot_9 fl_X9_34 kj_17 sr_17_3 ?_
  refine jx_iload_n dX9_addRoot_12 rfl ?_
  obtain ⟨c4, hf⟩ := jg_inv hf
  refine jx_cVv (a := 46) (As := [.int a1]) (rest := []) dX9_addRoot_13 ml_X9_67 mv_X8_add (c_row_add kj_46 (of_decide_eq_true c4) (Or.inl hE)) rfl rfl jc_46 (by decide) (Nat.le_of_ble_eq_true rfl) ?_
  obtain ⟨w3, hw3, hf⟩ := jl_inv hf
  refine jx_nw hw3 ?_
  cases hf
  exact jx_vret dX9_addRoot_16 rfl rfl
def l_X9_rootAt : Nat → Int32 → Int32 → jw → Option (Int32 × jw)
  | 0, _, _, _ => none
  | n + 1, b1, b2, w => (if b2 ≤ 0 then some (rat (w.2.2.2 46) 0, w) else (if b1 < (rat (w.2.2.2 44) b2) then jl (b2 + (-1)) fun x3 => (l_X9_rootAt n b1 x3 w) else some (rat (w.2.2.2 46) b2, w)))
set_option maxRecDepth 20000 in
set_option maxHeartbeats 2000000 in
theorem sl_X9_rootAt {E : jE} (hE : jfull E) : ∀ (n : Nat) (b1 : Int32) (b2 : Int32) (w : jw) (v : Int32) (w' : jw), l_X9_rootAt n b1 b2 w = some (v, w') → jX E m_X9_rootAt 1 10 [(0, .ref (E.2.2.2 + 17)), (1, .int b1), (2, .int b2)] [] w (some (.int v)) w' := by
  intro n
  induction n with
  | zero => intro b1 b2 w v w' hf; cases hf
  | succ n ih =>
    intro b1 b2 w v w' hf
    unfold l_X9_rootAt at hf
    refine jx_iload_n dX9_rootAt_10 rfl ?_
    refine jx_if_le (tgt := 41) dX9_rootAt_11 (by decide) (fun c1 => ?_) (fun c1 => ?_)
    · rw [if_pos c1] at hf
      refine jx_aload_n dX9_rootAt_41 rfl ?_
      refine jx_getr dX9_rootAt_42 fl_X9_34 kj_17 sr_17_3 ?_
      refine jx_iconst (v := 0) dX9_rootAt_45 (by decide) ?_
      refine jx_cVi (a := 46) (As := [.int 0]) (rest := []) dX9_rootAt_46 ml_X9_74 mv_X8_at (c_row_at (k := 0) kj_46 (by decide)) rfl rfl jc_46 (by decide) (Nat.le_of_ble_eq_true rfl) ?_
      cases hf
      exact jx_iret dX9_rootAt_49 rfl rfl
    · rw [if_neg c1] at hf
      refine jx_aload_n dX9_rootAt_14 rfl ?_
      refine jx_getr dX9_rootAt_15 fl_X9_30 kj_17 sr_17_2 ?_
      refine jx_iload_n dX9_rootAt_18 rfl ?_
      refine jx_cVi (a := 44) (As := [.int b2]) (rest := []) dX9_rootAt_19 ml_X9_74 mv_X8_at (c_row_at (k := 0) kj_44 (by decide)) rfl rfl jc_44 (by decide) (Nat.le_of_ble_eq_true rfl) ?_
      refine jx_iload_n dX9_rootAt_22 rfl ?_
      refine jx_icmp_gt (tgt := 35) dX9_rootAt_23 (by decide) (fun c2 => ?_) (fun c2 => ?_)
      · rw [if_pos c2] at hf
        obtain ⟨x3, hx3, hf⟩ := jl_inv hf
        refine jx_iinc (v := x3) (ls' := [(0, .ref (E.2.2.2 + 17)), (1, .int b1), (2, .int x3)]) dX9_rootAt_35 rfl (by rw [hx3]; rfl) (by decide) rfl ?_
        refine jx_goto (tgt := 10) dX9_rootAt_38 (by decide) ?_
        exact ih _ _ _ _ _ hf
      · rw [if_neg c2] at hf
        refine jx_aload_n dX9_rootAt_26 rfl ?_
        refine jx_getr dX9_rootAt_27 fl_X9_34 kj_17 sr_17_3 ?_
        refine jx_iload_n dX9_rootAt_30 rfl ?_
        refine jx_cVi (a := 46) (As := [.int b2]) (rest := []) dX9_rootAt_31 ml_X9_74 mv_X8_at (c_row_at (k := 0) kj_46 (by decide)) rfl rfl jc_46 (by decide) (Nat.le_of_ble_eq_true rfl) ?_
        cases hf
        exact jx_iret dX9_rootAt_34 rfl rfl
def f_X9_rootAt (a1 : Int32) (w : jw) : Option (Int32 × jw) := jl ((nI (w.2.2.2 44).length) - 1 : Int32) fun x4 => (l_X9_rootAt jfu a1 x4 w)
set_option maxRecDepth 20000 in
set_option maxHeartbeats 2000000 in
theorem s_X9_rootAt {E : jE} (hE : jfull E) {a1 : Int32} {w w' : jw} {v : Int32} (hf : f_X9_rootAt a1 w = some (v, w')) : jC E m_X9_rootAt 1 [.ref (E.2.2.2 + 17), .int a1] w (some (.int v)) w' := by
  refine jC_of (ls := [(0, .ref (E.2.2.2 + 17)), (1, .int a1)]) (by decide) rfl (fun _ => trivial) (Nat.le_of_ble_eq_true rfl) rfl ⟨.int, rfl, rfl⟩ ?_
  unfold f_X9_rootAt at hf
  refine jx_aload_n dX9_rootAt_0 rfl ?_
  refine jx_getr dX9_rootAt_1 fl_X9_30 kj_17 sr_17_2 ?_
  refine jx_getn dX9_rootAt_4 fl_X9_70 kj_44 (by decide) ?_
  refine jx_iconst (v := 1) dX9_rootAt_7 (by decide) ?_
  refine jx_isub dX9_rootAt_8 ?_
  obtain ⟨x4, hx4, hf⟩ := jl_inv hf
  refine jx_nm hx4 ?_
  refine jx_istore_n (ls' := [(0, .ref (E.2.2.2 + 17)), (1, .int a1), (2, .int x4)]) dX9_rootAt_9 (by decide) rfl ?_
  exact sl_X9_rootAt hE jfu _ _ _ _ _ hf
def l_X0_insert : Nat → Int32 → Int32 → Int32 → Int32 → jw → Option (jw)
  | 0, _, _, _, _, _ => none
  | n + 1, b1, b2, b3, b4, w => (if b4 ≤ 0 then jg (jin b4 32) (jl (jsetX w 55 (Int32.toNatClampNeg b4) b1) fun w3 => jg (jin b4 32) (jl (jsetX w3 56 (Int32.toNatClampNeg b4) b2) fun w5 => jg (jin b4 32) (jl (jsetX w5 57 (Int32.toNatClampNeg b4) b3) fun w7 => jl (jsetI w7 54 3 ((w7.1 54 3) + 1)) fun w8 => some w8))) else jg (jin (b4 - 1) 32) ((if (w.2.1 55 (Int32.toNatClampNeg (b4 - 1))) ≤ b1 then jg (jin b4 32) (jl (jsetX w 55 (Int32.toNatClampNeg b4) b1) fun w12 => jg (jin b4 32) (jl (jsetX w12 56 (Int32.toNatClampNeg b4) b2) fun w14 => jg (jin b4 32) (jl (jsetX w14 57 (Int32.toNatClampNeg b4) b3) fun w16 => jl (jsetI w16 54 3 ((w16.1 54 3) + 1)) fun w17 => some w17))) else jg (jin (b4 - 1) 32) (jg (jin b4 32) (jl (jsetX w 55 (Int32.toNatClampNeg b4) (w.2.1 55 (Int32.toNatClampNeg (b4 - 1)))) fun w20 => jg (jin (b4 - 1) 32) (jg (jin b4 32) (jl (jsetX w20 56 (Int32.toNatClampNeg b4) (w20.2.1 56 (Int32.toNatClampNeg (b4 - 1)))) fun w23 => jg (jin (b4 - 1) 32) (jg (jin b4 32) (jl (jsetX w23 57 (Int32.toNatClampNeg b4) (w23.2.1 57 (Int32.toNatClampNeg (b4 - 1)))) fun w26 => jl (b4 + (-1)) fun x27 => (l_X0_insert n b1 b2 b3 x27 w26))))))))))
set_option maxRecDepth 20000 in
set_option maxHeartbeats 2000000 in
theorem sl_X0_insert {E : jE} (hE : jfull E) : ∀ (n : Nat) (b1 : Int32) (b2 : Int32) (b3 : Int32) (b4 : Int32) (w : jw) (w' : jw), l_X0_insert n b1 b2 b3 b4 w = some w' → jX E m_X0_insert 0 23 [(0, .ref (E.2.2.2 + 54)), (1, .int b1), (2, .int b2), (3, .int b3), (4, .int b4)] [] w none w' := by
  intro n
  induction n with
  | zero => intro b1 b2 b3 b4 w w' hf; cases hf
  | succ n ih =>
    intro b1 b2 b3 b4 w w' hf
    unfold l_X0_insert at hf
    refine jx_iload dX0_insert_23 rfl ?_
    refine jx_if_le (tgt := 95) dX0_insert_25 (by decide) (fun c1 => ?_) (fun c1 => ?_)
    · rw [if_pos c1] at hf
      refine jx_aload_n dX0_insert_95 rfl ?_
      refine jx_getr dX0_insert_96 fl_X0_9 kj_54 sr_54_0 ?_
      refine jx_iload dX0_insert_99 rfl ?_
      refine jx_iload_n dX0_insert_101 rfl ?_
      obtain ⟨c2, hf⟩ := jg_inv hf
      refine jx_iast dX0_insert_102 kj_55 (jin_vp c2) ?_
      obtain ⟨w3, hw3, hf⟩ := jl_inv hf
      refine jx_nw hw3 ?_
      refine jx_aload_n dX0_insert_103 rfl ?_
      refine jx_getr dX0_insert_104 fl_X0_13 kj_54 sr_54_1 ?_
      refine jx_iload dX0_insert_107 rfl ?_
      refine jx_iload_n dX0_insert_109 rfl ?_
      obtain ⟨c4, hf⟩ := jg_inv hf
      refine jx_iast dX0_insert_110 kj_56 (jin_vp c4) ?_
      obtain ⟨w5, hw5, hf⟩ := jl_inv hf
      refine jx_nw hw5 ?_
      refine jx_aload_n dX0_insert_111 rfl ?_
      refine jx_getr dX0_insert_112 fl_X0_16 kj_54 sr_54_2 ?_
      refine jx_iload dX0_insert_115 rfl ?_
      refine jx_iload_n dX0_insert_117 rfl ?_
      obtain ⟨c6, hf⟩ := jg_inv hf
      refine jx_iast dX0_insert_118 kj_57 (jin_vp c6) ?_
      obtain ⟨w7, hw7, hf⟩ := jl_inv hf
      refine jx_nw hw7 ?_
      refine jx_aload_n dX0_insert_119 rfl ?_
      refine jx_dup dX0_insert_120 rfl ?_
      refine jx_geti dX0_insert_121 fl_X0_19 kj_54 sr_54_3 ?_
      refine jx_iconst (v := 1) dX0_insert_124 (by decide) ?_
      refine jx_iadd dX0_insert_125 ?_
      refine jx_puti dX0_insert_126 fp_X0_19 kj_54 sr_54_3 rfl rfl ?_
      obtain ⟨w8, hw8, hf⟩ := jl_inv hf
      refine jx_nw hw8 ?_
      cases hf
      exact jx_vret dX0_insert_129 rfl rfl
    · rw [if_neg c1] at hf
      refine jx_aload_n dX0_insert_28 rfl ?_
      refine jx_getr dX0_insert_29 fl_X0_9 kj_54 sr_54_0 ?_
      refine jx_iload dX0_insert_32 rfl ?_
      refine jx_iconst (v := 1) dX0_insert_34 (by decide) ?_
      refine jx_isub dX0_insert_35 ?_
      obtain ⟨c9, hf⟩ := jg_inv hf
      refine jx_iald dX0_insert_36 kj_55 (jin_vp c9) ?_
      refine jx_iload_n dX0_insert_37 rfl ?_
      refine jx_icmp_le (tgt := 95) dX0_insert_38 (by decide) (fun c10 => ?_) (fun c10 => ?_)
      · rw [if_pos c10] at hf
        refine jx_aload_n dX0_insert_95 rfl ?_
        refine jx_getr dX0_insert_96 fl_X0_9 kj_54 sr_54_0 ?_
        refine jx_iload dX0_insert_99 rfl ?_
        refine jx_iload_n dX0_insert_101 rfl ?_
        obtain ⟨c11, hf⟩ := jg_inv hf
        refine jx_iast dX0_insert_102 kj_55 (jin_vp c11) ?_
        obtain ⟨w12, hw12, hf⟩ := jl_inv hf
        refine jx_nw hw12 ?_
        refine jx_aload_n dX0_insert_103 rfl ?_
        refine jx_getr dX0_insert_104 fl_X0_13 kj_54 sr_54_1 ?_
        refine jx_iload dX0_insert_107 rfl ?_
        refine jx_iload_n dX0_insert_109 rfl ?_
        obtain ⟨c13, hf⟩ := jg_inv hf
        refine jx_iast dX0_insert_110 kj_56 (jin_vp c13) ?_
        obtain ⟨w14, hw14, hf⟩ := jl_inv hf
        refine jx_nw hw14 ?_
        refine jx_aload_n dX0_insert_111 rfl ?_
        refine jx_getr dX0_insert_112 fl_X0_16 kj_54 sr_54_2 ?_
        refine jx_iload dX0_insert_115 rfl ?_
        refine jx_iload_n dX0_insert_117 rfl ?_
        obtain ⟨c15, hf⟩ := jg_inv hf
        refine jx_iast dX0_insert_118 kj_57 (jin_vp c15) ?_
        obtain ⟨w16, hw16, hf⟩ := jl_inv hf
        refine jx_nw hw16 ?_
        refine jx_aload_n dX0_insert_119 rfl ?_
        refine jx_dup dX0_insert_120 rfl ?_
        refine jx_geti dX0_insert_121 fl_X0_19 kj_54 sr_54_3 ?_
        refine jx_iconst (v := 1) dX0_insert_124 (by decide) ?_
        refine jx_iadd dX0_insert_125 ?_
        refine jx_puti dX0_insert_126 fp_X0_19 kj_54 sr_54_3 rfl rfl ?_
        obtain ⟨w17, hw17, hf⟩ := jl_inv hf
        refine jx_nw hw17 ?_
        cases hf
        exact jx_vret dX0_insert_129 rfl rfl
      · rw [if_neg c10] at hf
        refine jx_aload_n dX0_insert_41 rfl ?_
        refine jx_getr dX0_insert_42 fl_X0_9 kj_54 sr_54_0 ?_
        refine jx_iload dX0_insert_45 rfl ?_
        refine jx_aload_n dX0_insert_47 rfl ?_
        refine jx_getr dX0_insert_48 fl_X0_9 kj_54 sr_54_0 ?_
        refine jx_iload dX0_insert_51 rfl ?_
        refine jx_iconst (v := 1) dX0_insert_53 (by decide) ?_
        refine jx_isub dX0_insert_54 ?_
        obtain ⟨c18, hf⟩ := jg_inv hf
        refine jx_iald dX0_insert_55 kj_55 (jin_vp c18) ?_
        obtain ⟨c19, hf⟩ := jg_inv hf
        refine jx_iast dX0_insert_56 kj_55 (jin_vp c19) ?_
        obtain ⟨w20, hw20, hf⟩ := jl_inv hf
        refine jx_nw hw20 ?_
        refine jx_aload_n dX0_insert_57 rfl ?_
        refine jx_getr dX0_insert_58 fl_X0_13 kj_54 sr_54_1 ?_
        refine jx_iload dX0_insert_61 rfl ?_
        refine jx_aload_n dX0_insert_63 rfl ?_
        refine jx_getr dX0_insert_64 fl_X0_13 kj_54 sr_54_1 ?_
        refine jx_iload dX0_insert_67 rfl ?_
        refine jx_iconst (v := 1) dX0_insert_69 (by decide) ?_
        refine jx_isub dX0_insert_70 ?_
        obtain ⟨c21, hf⟩ := jg_inv hf
        refine jx_iald dX0_insert_71 kj_56 (jin_vp c21) ?_
        obtain ⟨c22, hf⟩ := jg_inv hf
        refine jx_iast dX0_insert_72 kj_56 (jin_vp c22) ?_
        obtain ⟨w23, hw23, hf⟩ := jl_inv hf
        refine jx_nw hw23 ?_
        refine jx_aload_n dX0_insert_73 rfl ?_
        refine jx_getr dX0_insert_74 fl_X0_16 kj_54 sr_54_2 ?_
        refine jx_iload dX0_insert_77 rfl ?_
        refine jx_aload_n dX0_insert_79 rfl ?_
        refine jx_getr dX0_insert_80 fl_X0_16 kj_54 sr_54_2 ?_
        refine jx_iload dX0_insert_83 rfl ?_
        refine jx_iconst (v := 1) dX0_insert_85 (by decide) ?_
        refine jx_isub dX0_insert_86 ?_
        obtain ⟨c24, hf⟩ := jg_inv hf
        refine jx_iald dX0_insert_87 kj_57 (jin_vp c24) ?_
        obtain ⟨c25, hf⟩ := jg_inv hf
        refine jx_iast dX0_insert_88 kj_57 (jin_vp c25) ?_
        obtain ⟨w26, hw26, hf⟩ := jl_inv hf
        refine jx_nw hw26 ?_
        obtain ⟨x27, hx27, hf⟩ := jl_inv hf
        refine jx_iinc (v := x27) (ls' := [(0, .ref (E.2.2.2 + 54)), (1, .int b1), (2, .int b2), (3, .int b3), (4, .int x27)]) dX0_insert_89 rfl (by rw [hx27]; rfl) (by decide) rfl ?_
        refine jx_goto (tgt := 23) dX0_insert_92 (by decide) ?_
        exact ih _ _ _ _ _ _ hf
def f_X0_insert (a1 : Int32) (a2 : Int32) (a3 : Int32) (w : jw) : Option (jw) := (if (w.1 54 3) < 0 then some w else (if (w.1 54 3) < 32 then jl (w.1 54 3 : Int32) fun x30 => (l_X0_insert jfu a1 a2 a3 x30 w) else some w))
set_option maxRecDepth 20000 in
set_option maxHeartbeats 2000000 in
theorem s_X0_insert {E : jE} (hE : jfull E) {a1 : Int32} {a2 : Int32} {a3 : Int32} {w w' : jw} (hf : f_X0_insert a1 a2 a3 w = some w') : jC E m_X0_insert 0 [.ref (E.2.2.2 + 54), .int a1, .int a2, .int a3] w none w' := by
  refine jC_of (ls := [(0, .ref (E.2.2.2 + 54)), (1, .int a1), (2, .int a2), (3, .int a3)]) (by decide) rfl (fun _ => trivial) (Nat.le_of_ble_eq_true rfl) rfl rfl ?_
  unfold f_X0_insert at hf
  refine jx_aload_n dX0_insert_0 rfl ?_
  refine jx_geti dX0_insert_1 fl_X0_19 kj_54 sr_54_3 ?_
  refine jx_if_lt (tgt := 16) dX0_insert_4 (by decide) (fun c28 => ?_) (fun c28 => ?_)
  · rw [if_pos c28] at hf
    cases hf
    exact jx_vret dX0_insert_16 rfl rfl
  · rw [if_neg c28] at hf
    refine jx_aload_n dX0_insert_7 rfl ?_
    refine jx_geti dX0_insert_8 fl_X0_19 kj_54 sr_54_3 ?_
    refine jx_bipush (v := 32) dX0_insert_11 (by decide) ?_
    refine jx_icmp_lt (tgt := 17) dX0_insert_13 (by decide) (fun c29 => ?_) (fun c29 => ?_)
    · rw [if_pos c29] at hf
      refine jx_aload_n dX0_insert_17 rfl ?_
      refine jx_geti dX0_insert_18 fl_X0_19 kj_54 sr_54_3 ?_
      obtain ⟨x30, hx30, hf⟩ := jl_inv hf
      refine jx_nm hx30 ?_
      refine jx_istore (ls' := [(0, .ref (E.2.2.2 + 54)), (1, .int a1), (2, .int a2), (3, .int a3), (4, .int x30)]) dX0_insert_21 (by decide) rfl ?_
      exact sl_X0_insert hE jfu _ _ _ _ _ _ hf
    · rw [if_neg c29] at hf
      cases hf
      exact jx_vret dX0_insert_16 rfl rfl
