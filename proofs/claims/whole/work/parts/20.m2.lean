def l_X12_joinsAll : Nat → Int32 → Int32 → jw → Option (jw)
  | 0, _, _, _ => none
  | n + 1, b1, b2, w => jbd2 (f_X12_entriesOf b1 w) fun x2 w3 => (if x2 ≤ b2 then some w3 else jbd2 (f_X12_entryAt b1 b2 w3) fun x6 w7 => jbd2 (f_X12_isLiving x6 w7) fun x9 w10 => (if (jb x9) = 0 then jl (b2 + 1) fun x12 => (l_X12_joinsAll n b1 x12 w10) else jg (jin x6 34700) (jg (jin (x6 + 1) 34700) (jg (jin (x6 + 3) 34700) (jbd (f_X12_joins (w10.2.1 182 (Int32.toNatClampNeg x6)) (w10.2.1 182 (Int32.toNatClampNeg (x6 + 1))) (w10.2.1 182 (Int32.toNatClampNeg (x6 + 3))) w10) fun q16 => jl (b2 + 1) fun x17 => (l_X12_joinsAll n b1 x17 q16))))))
set_option maxRecDepth 20000 in
set_option maxHeartbeats 2000000 in
theorem sl_X12_joinsAll {E : jE} (hE : jfull E) : ∀ (n : Nat) (b1 : Int32) (b2 : Int32) (w : jw) (w' : jw), l_X12_joinsAll n b1 b2 w = some w' → jX E m_X12_joinsAll 1 2 [(0, .ref (E.2.2.2 + 162)), (1, .int b1), (2, .int b2)] [] w none w' := by
  intro n
  induction n with
  | zero => intro b1 b2 w w' hf; cases hf
  | succ n ih =>
    intro b1 b2 w w' hf
    unfold l_X12_joinsAll at hf
    refine jx_iload_n dX12_joinsAll_2 rfl ?_
    refine jx_aload_n dX12_joinsAll_3 rfl ?_
    refine jx_iload_n dX12_joinsAll_4 rfl ?_
    obtain ⟨x2, w3, hq1, hf⟩ := jbd2_inv hf
    refine jx_cVi (a := 162) (As := [.int b1]) (rest := [.int b2]) dX12_joinsAll_5 ml_X12_249 mv_X12_entriesOf (s_X12_entriesOf hE hq1) rfl rfl (jc_162 hE) (by decide) (Nat.le_of_ble_eq_true rfl) ?_
    refine jx_icmp_ge (tgt := 57) dX12_joinsAll_8 (by decide) (fun c4 => ?_) (fun c4 => ?_)
    · rw [if_pos c4] at hf
      cases hf
      exact jx_vret dX12_joinsAll_57 rfl rfl
    · rw [if_neg c4] at hf
      refine jx_iload_n dX12_joinsAll_11 rfl ?_
      refine jx_iload_n dX12_joinsAll_12 rfl ?_
      obtain ⟨x6, w7, hq5, hf⟩ := jbd2_inv hf
      refine jx_cSi (As := [.int b1, .int b2]) (rest := []) dX12_joinsAll_13 ml_X12_252 ms_X12_entryAt (s_X12_entryAt hE hq5) rfl rfl rfl (by decide) (Nat.le_of_ble_eq_true rfl) ?_
      refine jx_istore_n (ls' := [(0, .ref (E.2.2.2 + 162)), (1, .int b1), (2, .int b2), (3, .int x6)]) dX12_joinsAll_16 (by decide) rfl ?_
      refine jx_aload_n dX12_joinsAll_17 rfl ?_
      refine jx_iload_n dX12_joinsAll_18 rfl ?_
      obtain ⟨x9, w10, hq8, hf⟩ := jbd2_inv hf
      refine jx_cVi (a := 162) (As := [.int x6]) (rest := []) dX12_joinsAll_19 ml_X12_255 mv_X12_isLiving (s_X12_isLiving hE hq8) rfl rfl (jc_162 hE) (by decide) (Nat.le_of_ble_eq_true rfl) ?_
      refine jx_if_eq (tgt := 51) dX12_joinsAll_22 (by decide) (fun c11 => ?_) (fun c11 => ?_)
      · rw [if_pos c11] at hf
        obtain ⟨x12, hx12, hf⟩ := jl_inv hf
        refine jx_iinc (v := x12) (ls' := [(0, .ref (E.2.2.2 + 162)), (1, .int b1), (2, .int x12), (3, .int x6)]) dX12_joinsAll_51 rfl (by rw [hx12]; rfl) (by decide) rfl ?_
        refine jx_goto (tgt := 2) dX12_joinsAll_54 (by decide) ?_
        refine jx_pick [0, 1, 2] rfl ?_
        exact ih _ _ _ _ hf
      · rw [if_neg c11] at hf
        refine jx_aload_n dX12_joinsAll_25 rfl ?_
        refine jx_aload_n dX12_joinsAll_26 rfl ?_
        refine jx_getr dX12_joinsAll_27 fl_X12_77 (kj_162 hE) sr_162_34 ?_
        refine jx_iload_n dX12_joinsAll_30 rfl ?_
        obtain ⟨c13, hf⟩ := jg_inv hf
        refine jx_iald dX12_joinsAll_31 (kj_182 hE) (jin_vp c13) ?_
        refine jx_aload_n dX12_joinsAll_32 rfl ?_
        refine jx_getr dX12_joinsAll_33 fl_X12_77 (kj_162 hE) sr_162_34 ?_
        refine jx_iload_n dX12_joinsAll_36 rfl ?_
        refine jx_iconst (v := 1) dX12_joinsAll_37 (by decide) ?_
        refine jx_iadd dX12_joinsAll_38 ?_
        obtain ⟨c14, hf⟩ := jg_inv hf
        refine jx_iald dX12_joinsAll_39 (kj_182 hE) (jin_vp c14) ?_
        refine jx_aload_n dX12_joinsAll_40 rfl ?_
        refine jx_getr dX12_joinsAll_41 fl_X12_77 (kj_162 hE) sr_162_34 ?_
        refine jx_iload_n dX12_joinsAll_44 rfl ?_
        refine jx_iconst (v := 3) dX12_joinsAll_45 (by decide) ?_
        refine jx_iadd dX12_joinsAll_46 ?_
        obtain ⟨c15, hf⟩ := jg_inv hf
        refine jx_iald dX12_joinsAll_47 (kj_182 hE) (jin_vp c15) ?_
        obtain ⟨q16, hq16, hf⟩ := jbd_inv hf
        refine jx_cVv (a := 162) (As := [.int (w10.2.1 182 (Int32.toNatClampNeg x6)), .int (w10.2.1 182 (Int32.toNatClampNeg (x6 + 1))), .int (w10.2.1 182 (Int32.toNatClampNeg (x6 + 3)))]) (rest := []) dX12_joinsAll_48 ml_X12_274 mv_X12_joins (s_X12_joins hE hq16) rfl rfl (jc_162 hE) (by decide) (Nat.le_of_ble_eq_true rfl) ?_
        obtain ⟨x17, hx17, hf⟩ := jl_inv hf
        refine jx_iinc (v := x17) (ls' := [(0, .ref (E.2.2.2 + 162)), (1, .int b1), (2, .int x17), (3, .int x6)]) dX12_joinsAll_51 rfl (by rw [hx17]; rfl) (by decide) rfl ?_
        refine jx_goto (tgt := 2) dX12_joinsAll_54 (by decide) ?_
        refine jx_pick [0, 1, 2] rfl ?_
        exact ih _ _ _ _ hf
def f_X12_joinsAll (a1 : Int32) (w : jw) : Option (jw) := (l_X12_joinsAll jfu a1 0 w)
set_option maxRecDepth 20000 in
set_option maxHeartbeats 2000000 in
theorem s_X12_joinsAll {E : jE} (hE : jfull E) {a1 : Int32} {w w' : jw} (hf : f_X12_joinsAll a1 w = some w') : jC E m_X12_joinsAll 1 [.ref (E.2.2.2 + 162), .int a1] w none w' := by
  refine jC_of (ls := [(0, .ref (E.2.2.2 + 162)), (1, .int a1)]) (by decide) rfl (fun _ => trivial) (Nat.le_of_ble_eq_true rfl) rfl rfl ?_
  unfold f_X12_joinsAll at hf
  refine jx_iconst (v := 0) dX12_joinsAll_0 (by decide) ?_
  refine jx_istore_n (ls' := [(0, .ref (E.2.2.2 + 162)), (1, .int a1), (2, .int 0)]) dX12_joinsAll_1 (by decide) rfl ?_
  exact sl_X12_joinsAll hE jfu _ _ _ _ hf
def l_X12_livingIn : Nat → Int32 → Int32 → Int32 → jw → Option (Int32 × jw)
  | 0, _, _, _, _ => none
  | n + 1, b1, b2, b3, w => jbd2 (f_X12_entriesOf b1 w) fun x2 w3 => (if x2 ≤ b3 then some (b2, w3) else jbd2 (f_X12_entryAt b1 b3 w3) fun x6 w7 => jbd2 (f_X12_isLiving x6 w7) fun x9 w10 => (if (jb x9) = 0 then jl (b3 + 1) fun x12 => (l_X12_livingIn n b1 b2 x12 w10) else jl (b2 + 1) fun x13 => jl (b3 + 1) fun x14 => (l_X12_livingIn n b1 x13 x14 w10)))
set_option maxRecDepth 20000 in
set_option maxHeartbeats 2000000 in
theorem sl_X12_livingIn {E : jE} (hE : jfull E) : ∀ (n : Nat) (b1 : Int32) (b2 : Int32) (b3 : Int32) (w : jw) (v : Int32) (w' : jw), l_X12_livingIn n b1 b2 b3 w = some (v, w') → jX E m_X12_livingIn 1 4 [(0, .ref (E.2.2.2 + 162)), (1, .int b1), (2, .int b2), (3, .int b3)] [] w (some (.int v)) w' := by
  intro n
  induction n with
  | zero => intro b1 b2 b3 w v w' hf; cases hf
  | succ n ih =>
    intro b1 b2 b3 w v w' hf
    unfold l_X12_livingIn at hf
    refine jx_iload_n dX12_livingIn_4 rfl ?_
    refine jx_aload_n dX12_livingIn_5 rfl ?_
    refine jx_iload_n dX12_livingIn_6 rfl ?_
    obtain ⟨x2, w3, hq1, hf⟩ := jbd2_inv hf
    refine jx_cVi (a := 162) (As := [.int b1]) (rest := [.int b3]) dX12_livingIn_7 ml_X12_249 mv_X12_entriesOf (s_X12_entriesOf hE hq1) rfl rfl (jc_162 hE) (by decide) (Nat.le_of_ble_eq_true rfl) ?_
    refine jx_icmp_ge (tgt := 34) dX12_livingIn_10 (by decide) (fun c4 => ?_) (fun c4 => ?_)
    · rw [if_pos c4] at hf
      refine jx_iload_n dX12_livingIn_34 rfl ?_
      cases hf
      exact jx_iret dX12_livingIn_35 rfl rfl
    · rw [if_neg c4] at hf
      refine jx_aload_n dX12_livingIn_13 rfl ?_
      refine jx_iload_n dX12_livingIn_14 rfl ?_
      refine jx_iload_n dX12_livingIn_15 rfl ?_
      obtain ⟨x6, w7, hq5, hf⟩ := jbd2_inv hf
      refine jx_cSi (As := [.int b1, .int b3]) (rest := [.ref (E.2.2.2 + 162)]) dX12_livingIn_16 ml_X12_252 ms_X12_entryAt (s_X12_entryAt hE hq5) rfl rfl rfl (by decide) (Nat.le_of_ble_eq_true rfl) ?_
      obtain ⟨x9, w10, hq8, hf⟩ := jbd2_inv hf
      refine jx_cVi (a := 162) (As := [.int x6]) (rest := []) dX12_livingIn_19 ml_X12_255 mv_X12_isLiving (s_X12_isLiving hE hq8) rfl rfl (jc_162 hE) (by decide) (Nat.le_of_ble_eq_true rfl) ?_
      refine jx_if_eq (tgt := 28) dX12_livingIn_22 (by decide) (fun c11 => ?_) (fun c11 => ?_)
      · rw [if_pos c11] at hf
        obtain ⟨x12, hx12, hf⟩ := jl_inv hf
        refine jx_iinc (v := x12) (ls' := [(0, .ref (E.2.2.2 + 162)), (1, .int b1), (2, .int b2), (3, .int x12)]) dX12_livingIn_28 rfl (by rw [hx12]; rfl) (by decide) rfl ?_
        refine jx_goto (tgt := 4) dX12_livingIn_31 (by decide) ?_
        exact ih _ _ _ _ _ _ hf
      · rw [if_neg c11] at hf
        obtain ⟨x13, hx13, hf⟩ := jl_inv hf
        refine jx_iinc (v := x13) (ls' := [(0, .ref (E.2.2.2 + 162)), (1, .int b1), (2, .int x13), (3, .int b3)]) dX12_livingIn_25 rfl (by rw [hx13]; rfl) (by decide) rfl ?_
        obtain ⟨x14, hx14, hf⟩ := jl_inv hf
        refine jx_iinc (v := x14) (ls' := [(0, .ref (E.2.2.2 + 162)), (1, .int b1), (2, .int x13), (3, .int x14)]) dX12_livingIn_28 rfl (by rw [hx14]; rfl) (by decide) rfl ?_
        refine jx_goto (tgt := 4) dX12_livingIn_31 (by decide) ?_
        exact ih _ _ _ _ _ _ hf
def f_X12_livingIn (a1 : Int32) (w : jw) : Option (Int32 × jw) := (l_X12_livingIn jfu a1 0 0 w)
set_option maxRecDepth 20000 in
set_option maxHeartbeats 2000000 in
theorem s_X12_livingIn {E : jE} (hE : jfull E) {a1 : Int32} {w w' : jw} {v : Int32} (hf : f_X12_livingIn a1 w = some (v, w')) : jC E m_X12_livingIn 1 [.ref (E.2.2.2 + 162), .int a1] w (some (.int v)) w' := by
  refine jC_of (ls := [(0, .ref (E.2.2.2 + 162)), (1, .int a1)]) (by decide) rfl (fun _ => trivial) (Nat.le_of_ble_eq_true rfl) rfl ⟨.int, rfl, rfl⟩ ?_
  unfold f_X12_livingIn at hf
  refine jx_iconst (v := 0) dX12_livingIn_0 (by decide) ?_
  refine jx_istore_n (ls' := [(0, .ref (E.2.2.2 + 162)), (1, .int a1), (2, .int 0)]) dX12_livingIn_1 (by decide) rfl ?_
  refine jx_iconst (v := 0) dX12_livingIn_2 (by decide) ?_
  refine jx_istore_n (ls' := [(0, .ref (E.2.2.2 + 162)), (1, .int a1), (2, .int 0), (3, .int 0)]) dX12_livingIn_3 (by decide) rfl ?_
  exact sl_X12_livingIn hE jfu _ _ _ _ _ _ hf
def f_X12_comes (a1 : Int32) (a2 : Int32) (a3 : Int32) (a4 : Int32) (w : jw) : Option (jw) := jbd2 (f_X12_entriesOf a1 w) fun x2 w3 => jbd2 (f_X12_entryAt a1 x2 w3) fun x5 w6 => jg (jin x5 34700) (jl (jsetX w6 182 (Int32.toNatClampNeg x5) a2) fun w8 => jg (jin (x5 + 1) 34700) (jl (jsetX w8 182 (Int32.toNatClampNeg (x5 + 1)) a3) fun w10 => jg (jin (x5 + 2) 34700) (jl (jsetX w10 182 (Int32.toNatClampNeg (x5 + 2)) (-2)) fun w12 => jg (jin (x5 + 3) 34700) (jl (jsetX w12 182 (Int32.toNatClampNeg (x5 + 3)) a4) fun w14 => jg (jin ((1410 + (4 * a1)) + 1) 34700) (jg (jin ((1410 + (4 * a1)) + 1) 34700) (jl (jsetX w14 182 (Int32.toNatClampNeg ((1410 + (4 * a1)) + 1)) ((w14.2.1 182 (Int32.toNatClampNeg ((1410 + (4 * a1)) + 1))) + 1)) fun w17 => some w17))))))
set_option maxRecDepth 20000 in
set_option maxHeartbeats 2000000 in
theorem s_X12_comes {E : jE} (hE : jfull E) {a1 : Int32} {a2 : Int32} {a3 : Int32} {a4 : Int32} {w w' : jw} (hf : f_X12_comes a1 a2 a3 a4 w = some w') : jC E m_X12_comes 1 [.ref (E.2.2.2 + 162), .int a1, .int a2, .int a3, .int a4] w none w' := by
  refine jC_of (ls := [(0, .ref (E.2.2.2 + 162)), (1, .int a1), (2, .int a2), (3, .int a3), (4, .int a4)]) (by decide) rfl (fun _ => trivial) (Nat.le_of_ble_eq_true rfl) rfl rfl ?_
  unfold f_X12_comes at hf
  refine jx_iload_n dX12_comes_0 rfl ?_
  refine jx_aload_n dX12_comes_1 rfl ?_
  refine jx_iload_n dX12_comes_2 rfl ?_
  obtain ⟨x2, w3, hq1, hf⟩ := jbd2_inv hf
  refine jx_cVi (a := 162) (As := [.int a1]) (rest := [.int a1]) dX12_comes_3 ml_X12_249 mv_X12_entriesOf (s_X12_entriesOf hE hq1) rfl rfl (jc_162 hE) (by decide) (Nat.le_of_ble_eq_true rfl) ?_
  obtain ⟨x5, w6, hq4, hf⟩ := jbd2_inv hf
  refine jx_cSi (As := [.int a1, .int x2]) (rest := []) dX12_comes_6 ml_X12_252 ms_X12_entryAt (s_X12_entryAt hE hq4) rfl rfl rfl (by decide) (Nat.le_of_ble_eq_true rfl) ?_
  refine jx_istore (ls' := [(0, .ref (E.2.2.2 + 162)), (1, .int a1), (2, .int a2), (3, .int a3), (4, .int a4), (5, .int x5)]) dX12_comes_9 (by decide) rfl ?_
  refine jx_aload_n dX12_comes_11 rfl ?_
  refine jx_getr dX12_comes_12 fl_X12_77 (kj_162 hE) sr_162_34 ?_
  refine jx_iload dX12_comes_15 rfl ?_
  refine jx_iload_n dX12_comes_17 rfl ?_
  obtain ⟨c7, hf⟩ := jg_inv hf
  refine jx_iast dX12_comes_18 (kj_182 hE) (jin_vp c7) ?_
  obtain ⟨w8, hw8, hf⟩ := jl_inv hf
  refine jx_nw hw8 ?_
  refine jx_aload_n dX12_comes_19 rfl ?_
  refine jx_getr dX12_comes_20 fl_X12_77 (kj_162 hE) sr_162_34 ?_
  refine jx_iload dX12_comes_23 rfl ?_
  refine jx_iconst (v := 1) dX12_comes_25 (by decide) ?_
  refine jx_iadd dX12_comes_26 ?_
  refine jx_iload_n dX12_comes_27 rfl ?_
  obtain ⟨c9, hf⟩ := jg_inv hf
  refine jx_iast dX12_comes_28 (kj_182 hE) (jin_vp c9) ?_
  obtain ⟨w10, hw10, hf⟩ := jl_inv hf
  refine jx_nw hw10 ?_
  refine jx_aload_n dX12_comes_29 rfl ?_
  refine jx_getr dX12_comes_30 fl_X12_77 (kj_162 hE) sr_162_34 ?_
  refine jx_iload dX12_comes_33 rfl ?_
  refine jx_iconst (v := 2) dX12_comes_35 (by decide) ?_
  refine jx_iadd dX12_comes_36 ?_
  refine jx_bipush (v := (-2)) dX12_comes_37 (by decide) ?_
  obtain ⟨c11, hf⟩ := jg_inv hf
  refine jx_iast dX12_comes_39 (kj_182 hE) (jin_vp c11) ?_
  obtain ⟨w12, hw12, hf⟩ := jl_inv hf
  refine jx_nw hw12 ?_
  refine jx_aload_n dX12_comes_40 rfl ?_
  refine jx_getr dX12_comes_41 fl_X12_77 (kj_162 hE) sr_162_34 ?_
  refine jx_iload dX12_comes_44 rfl ?_
  refine jx_iconst (v := 3) dX12_comes_46 (by decide) ?_
  refine jx_iadd dX12_comes_47 ?_
  refine jx_iload dX12_comes_48 rfl ?_
  obtain ⟨c13, hf⟩ := jg_inv hf
  refine jx_iast dX12_comes_50 (kj_182 hE) (jin_vp c13) ?_
  obtain ⟨w14, hw14, hf⟩ := jl_inv hf
  refine jx_nw hw14 ?_
  refine jx_aload_n dX12_comes_51 rfl ?_
  refine jx_getr dX12_comes_52 fl_X12_77 (kj_162 hE) sr_162_34 ?_
  refine jx_sipush (v := 1410) dX12_comes_55 (by decide) ?_
  refine jx_iconst (v := 4) dX12_comes_58 (by decide) ?_
  refine jx_iload_n dX12_comes_59 rfl ?_
  refine jx_imul dX12_comes_60 ?_
  refine jx_iadd dX12_comes_61 ?_
  refine jx_iconst (v := 1) dX12_comes_62 (by decide) ?_
  refine jx_iadd dX12_comes_63 ?_
  refine jx_dup2 dX12_comes_64 rfl rfl ?_
  obtain ⟨c15, hf⟩ := jg_inv hf
  refine jx_iald dX12_comes_65 (kj_182 hE) (jin_vp c15) ?_
  refine jx_iconst (v := 1) dX12_comes_66 (by decide) ?_
  refine jx_iadd dX12_comes_67 ?_
  obtain ⟨c16, hf⟩ := jg_inv hf
  refine jx_iast dX12_comes_68 (kj_182 hE) (jin_vp c16) ?_
  obtain ⟨w17, hw17, hf⟩ := jl_inv hf
  refine jx_nw hw17 ?_
  cases hf
  exact jx_vret dX12_comes_69 rfl rfl
def f_X12_ends (a1 : Int32) (w : jw) : Option (jw) := jg (jin 0 34700) (jg (jin ((1410 + (4 * a1)) + 3) 34700) (jl (jsetX w 182 (Int32.toNatClampNeg ((1410 + (4 * a1)) + 3)) (w.2.1 182 (Int32.toNatClampNeg 0))) fun w3 => some w3))
set_option maxRecDepth 20000 in
set_option maxHeartbeats 2000000 in
theorem s_X12_ends {E : jE} (hE : jfull E) {a1 : Int32} {w w' : jw} (hf : f_X12_ends a1 w = some w') : jC E m_X12_ends 0 [.ref (E.2.2.2 + 162), .int a1] w none w' := by
  refine jC_of (ls := [(0, .ref (E.2.2.2 + 162)), (1, .int a1)]) (by decide) rfl (fun _ => trivial) (Nat.le_of_ble_eq_true rfl) rfl rfl ?_
  unfold f_X12_ends at hf
  refine jx_aload_n dX12_ends_0 rfl ?_
  refine jx_getr dX12_ends_1 fl_X12_77 (kj_162 hE) sr_162_34 ?_
  refine jx_sipush (v := 1410) dX12_ends_4 (by decide) ?_
  refine jx_iconst (v := 4) dX12_ends_7 (by decide) ?_
  refine jx_iload_n dX12_ends_8 rfl ?_
  refine jx_imul dX12_ends_9 ?_
  refine jx_iadd dX12_ends_10 ?_
  refine jx_iconst (v := 3) dX12_ends_11 (by decide) ?_
  refine jx_iadd dX12_ends_12 ?_
  refine jx_aload_n dX12_ends_13 rfl ?_
  refine jx_getr dX12_ends_14 fl_X12_77 (kj_162 hE) sr_162_34 ?_
  refine jx_iconst (v := 0) dX12_ends_17 (by decide) ?_
  obtain ⟨c1, hf⟩ := jg_inv hf
  refine jx_iald dX12_ends_18 (kj_182 hE) (jin_vp c1) ?_
  obtain ⟨c2, hf⟩ := jg_inv hf
  refine jx_iast dX12_ends_19 (kj_182 hE) (jin_vp c2) ?_
  obtain ⟨w3, hw3, hf⟩ := jl_inv hf
  refine jx_nw hw3 ?_
  cases hf
  exact jx_vret dX12_ends_20 rfl rfl
def l_X12_entryFor : Nat → Int32 → Int32 → Int32 → jw → Option (Int32 × jw)
  | 0, _, _, _, _ => none
  | n + 1, b1, b2, b3, w => jbd2 (f_X12_entriesOf b1 w) fun x2 w3 => (if x2 ≤ b3 then some ((-1), w3) else jbd2 (f_X12_entryAt b1 b3 w3) fun x6 w7 => jbd2 (f_X12_isLiving x6 w7) fun x9 w10 => (if (jb x9) = 0 then jl (b3 + 1) fun x12 => (l_X12_entryFor n b1 b2 x12 w10) else jbd2 (f_X12_entryAt b1 b3 w10) fun x14 w15 => jg (jin (x14 + 3) 34700) ((if (w15.2.1 182 (Int32.toNatClampNeg (x14 + 3))) = b2 then jbd2 (f_X12_entryAt b1 b3 w15) fun x20 w21 => some (x20, w21) else jl (b3 + 1) fun x18 => (l_X12_entryFor n b1 b2 x18 w15)))))
set_option maxRecDepth 20000 in
set_option maxHeartbeats 2000000 in
theorem sl_X12_entryFor {E : jE} (hE : jfull E) : ∀ (n : Nat) (b1 : Int32) (b2 : Int32) (b3 : Int32) (w : jw) (v : Int32) (w' : jw), l_X12_entryFor n b1 b2 b3 w = some (v, w') → jX E m_X12_entryFor 1 2 [(0, .ref (E.2.2.2 + 162)), (1, .int b1), (2, .int b2), (3, .int b3)] [] w (some (.int v)) w' := by
  intro n
  induction n with
  | zero => intro b1 b2 b3 w v w' hf; cases hf
  | succ n ih =>
    intro b1 b2 b3 w v w' hf
    unfold l_X12_entryFor at hf
    refine jx_iload_n dX12_entryFor_2 rfl ?_
    refine jx_aload_n dX12_entryFor_3 rfl ?_
    refine jx_iload_n dX12_entryFor_4 rfl ?_
    obtain ⟨x2, w3, hq1, hf⟩ := jbd2_inv hf
    refine jx_cVi (a := 162) (As := [.int b1]) (rest := [.int b3]) dX12_entryFor_5 ml_X12_249 mv_X12_entriesOf (s_X12_entriesOf hE hq1) rfl rfl (jc_162 hE) (by decide) (Nat.le_of_ble_eq_true rfl) ?_
    refine jx_icmp_ge (tgt := 51) dX12_entryFor_8 (by decide) (fun c4 => ?_) (fun c4 => ?_)
    · rw [if_pos c4] at hf
      refine jx_iconst (v := (-1)) dX12_entryFor_51 (by decide) ?_
      cases hf
      exact jx_iret dX12_entryFor_52 rfl rfl
    · rw [if_neg c4] at hf
      refine jx_aload_n dX12_entryFor_11 rfl ?_
      refine jx_iload_n dX12_entryFor_12 rfl ?_
      refine jx_iload_n dX12_entryFor_13 rfl ?_
      obtain ⟨x6, w7, hq5, hf⟩ := jbd2_inv hf
      refine jx_cSi (As := [.int b1, .int b3]) (rest := [.ref (E.2.2.2 + 162)]) dX12_entryFor_14 ml_X12_252 ms_X12_entryAt (s_X12_entryAt hE hq5) rfl rfl rfl (by decide) (Nat.le_of_ble_eq_true rfl) ?_
      obtain ⟨x9, w10, hq8, hf⟩ := jbd2_inv hf
      refine jx_cVi (a := 162) (As := [.int x6]) (rest := []) dX12_entryFor_17 ml_X12_255 mv_X12_isLiving (s_X12_isLiving hE hq8) rfl rfl (jc_162 hE) (by decide) (Nat.le_of_ble_eq_true rfl) ?_
      refine jx_if_eq (tgt := 45) dX12_entryFor_20 (by decide) (fun c11 => ?_) (fun c11 => ?_)
      · rw [if_pos c11] at hf
        obtain ⟨x12, hx12, hf⟩ := jl_inv hf
        refine jx_iinc (v := x12) (ls' := [(0, .ref (E.2.2.2 + 162)), (1, .int b1), (2, .int b2), (3, .int x12)]) dX12_entryFor_45 rfl (by rw [hx12]; rfl) (by decide) rfl ?_
        refine jx_goto (tgt := 2) dX12_entryFor_48 (by decide) ?_
        exact ih _ _ _ _ _ _ hf
      · rw [if_neg c11] at hf
        refine jx_aload_n dX12_entryFor_23 rfl ?_
        refine jx_getr dX12_entryFor_24 fl_X12_77 (kj_162 hE) sr_162_34 ?_
        refine jx_iload_n dX12_entryFor_27 rfl ?_
        refine jx_iload_n dX12_entryFor_28 rfl ?_
        obtain ⟨x14, w15, hq13, hf⟩ := jbd2_inv hf
        refine jx_cSi (As := [.int b1, .int b3]) (rest := [.ref (E.2.2.2 + 182)]) dX12_entryFor_29 ml_X12_252 ms_X12_entryAt (s_X12_entryAt hE hq13) rfl rfl rfl (by decide) (Nat.le_of_ble_eq_true rfl) ?_
        refine jx_iconst (v := 3) dX12_entryFor_32 (by decide) ?_
        refine jx_iadd dX12_entryFor_33 ?_
        obtain ⟨c16, hf⟩ := jg_inv hf
        refine jx_iald dX12_entryFor_34 (kj_182 hE) (jin_vp c16) ?_
        refine jx_iload_n dX12_entryFor_35 rfl ?_
        refine jx_icmp_ne (tgt := 45) dX12_entryFor_36 (by decide) (fun c17 => ?_) (fun c17 => ?_)
        · rw [if_neg c17] at hf
          obtain ⟨x18, hx18, hf⟩ := jl_inv hf
          refine jx_iinc (v := x18) (ls' := [(0, .ref (E.2.2.2 + 162)), (1, .int b1), (2, .int b2), (3, .int x18)]) dX12_entryFor_45 rfl (by rw [hx18]; rfl) (by decide) rfl ?_
          refine jx_goto (tgt := 2) dX12_entryFor_48 (by decide) ?_
          exact ih _ _ _ _ _ _ hf
        · rw [if_pos c17] at hf
          refine jx_iload_n dX12_entryFor_39 rfl ?_
          refine jx_iload_n dX12_entryFor_40 rfl ?_
          obtain ⟨x20, w21, hq19, hf⟩ := jbd2_inv hf
          refine jx_cSi (As := [.int b1, .int b3]) (rest := []) dX12_entryFor_41 ml_X12_252 ms_X12_entryAt (s_X12_entryAt hE hq19) rfl rfl rfl (by decide) (Nat.le_of_ble_eq_true rfl) ?_
          cases hf
          exact jx_iret dX12_entryFor_44 rfl rfl
def f_X12_entryFor (a1 : Int32) (a2 : Int32) (w : jw) : Option (Int32 × jw) := (l_X12_entryFor jfu a1 a2 0 w)
set_option maxRecDepth 20000 in
set_option maxHeartbeats 2000000 in
theorem s_X12_entryFor {E : jE} (hE : jfull E) {a1 : Int32} {a2 : Int32} {w w' : jw} {v : Int32} (hf : f_X12_entryFor a1 a2 w = some (v, w')) : jC E m_X12_entryFor 1 [.ref (E.2.2.2 + 162), .int a1, .int a2] w (some (.int v)) w' := by
  refine jC_of (ls := [(0, .ref (E.2.2.2 + 162)), (1, .int a1), (2, .int a2)]) (by decide) rfl (fun _ => trivial) (Nat.le_of_ble_eq_true rfl) rfl ⟨.int, rfl, rfl⟩ ?_
  unfold f_X12_entryFor at hf
  refine jx_iconst (v := 0) dX12_entryFor_0 (by decide) ?_
  refine jx_istore_n (ls' := [(0, .ref (E.2.2.2 + 162)), (1, .int a1), (2, .int a2), (3, .int 0)]) dX12_entryFor_1 (by decide) rfl ?_
  exact sl_X12_entryFor hE jfu _ _ _ _ _ _ hf
def f_X12_endsAbove (a1 : Int32) (a2 : Int32) (w : jw) : Option (Int32 × jw) := jbd2 (f_X12_entryFor a1 a2 w) fun x2 w3 => jg (jin 0 34700) (jg (jin (x2 + 2) 34700) (jl (jsetX w3 182 (Int32.toNatClampNeg (x2 + 2)) (w3.2.1 182 (Int32.toNatClampNeg 0))) fun w6 => jg (jin x2 34700) (some (w6.2.1 182 (Int32.toNatClampNeg x2), w6))))
set_option maxRecDepth 20000 in
set_option maxHeartbeats 2000000 in
theorem s_X12_endsAbove {E : jE} (hE : jfull E) {a1 : Int32} {a2 : Int32} {w w' : jw} {v : Int32} (hf : f_X12_endsAbove a1 a2 w = some (v, w')) : jC E m_X12_endsAbove 2 [.ref (E.2.2.2 + 162), .int a1, .int a2] w (some (.int v)) w' := by
  refine jC_of (ls := [(0, .ref (E.2.2.2 + 162)), (1, .int a1), (2, .int a2)]) (by decide) rfl (fun _ => trivial) (Nat.le_of_ble_eq_true rfl) rfl ⟨.int, rfl, rfl⟩ ?_
  unfold f_X12_endsAbove at hf
  refine jx_aload_n dX12_endsAbove_0 rfl ?_
  refine jx_iload_n dX12_endsAbove_1 rfl ?_
  refine jx_iload_n dX12_endsAbove_2 rfl ?_
  obtain ⟨x2, w3, hq1, hf⟩ := jbd2_inv hf
  refine jx_cVi (a := 162) (As := [.int a1, .int a2]) (rest := []) dX12_endsAbove_3 ml_X12_278 mv_X12_entryFor (s_X12_entryFor hE hq1) rfl rfl (jc_162 hE) (by decide) (Nat.le_of_ble_eq_true rfl) ?_
  refine jx_istore_n (ls' := [(0, .ref (E.2.2.2 + 162)), (1, .int a1), (2, .int a2), (3, .int x2)]) dX12_endsAbove_6 (by decide) rfl ?_
  refine jx_aload_n dX12_endsAbove_7 rfl ?_
  refine jx_getr dX12_endsAbove_8 fl_X12_77 (kj_162 hE) sr_162_34 ?_
  refine jx_iload_n dX12_endsAbove_11 rfl ?_
  refine jx_iconst (v := 2) dX12_endsAbove_12 (by decide) ?_
  refine jx_iadd dX12_endsAbove_13 ?_
  refine jx_aload_n dX12_endsAbove_14 rfl ?_
  refine jx_getr dX12_endsAbove_15 fl_X12_77 (kj_162 hE) sr_162_34 ?_
  refine jx_iconst (v := 0) dX12_endsAbove_18 (by decide) ?_
  obtain ⟨c4, hf⟩ := jg_inv hf
  refine jx_iald dX12_endsAbove_19 (kj_182 hE) (jin_vp c4) ?_
  obtain ⟨c5, hf⟩ := jg_inv hf
  refine jx_iast dX12_endsAbove_20 (kj_182 hE) (jin_vp c5) ?_
  obtain ⟨w6, hw6, hf⟩ := jl_inv hf
  refine jx_nw hw6 ?_
  refine jx_aload_n dX12_endsAbove_21 rfl ?_
  refine jx_getr dX12_endsAbove_22 fl_X12_77 (kj_162 hE) sr_162_34 ?_
  refine jx_iload_n dX12_endsAbove_25 rfl ?_
  obtain ⟨c7, hf⟩ := jg_inv hf
  refine jx_iald dX12_endsAbove_26 (kj_182 hE) (jin_vp c7) ?_
  cases hf
  exact jx_iret dX12_endsAbove_27 rfl rfl
def l_X12_newPage : Nat → Int32 → Int32 → Int32 → Int32 → Int32 → jw → Option (Int32 × jw)
  | 0, _, _, _, _, _, _ => none
  | n + 1, b1, b2, b3, b4, b5, w => (if b3 ≤ b5 then some (b4, w) else jg (jin b5 40) (jg (jin b5 40) (jg (jin b5 40) (jbd (f_X12_comes b4 (w.2.1 184 (Int32.toNatClampNeg b5)) (w.2.1 185 (Int32.toNatClampNeg b5)) (w.2.1 186 (Int32.toNatClampNeg b5)) w) fun q5 => jl (b5 + 1) fun x6 => (l_X12_newPage n b1 b2 b3 b4 x6 q5)))))
set_option maxRecDepth 20000 in
set_option maxHeartbeats 2000000 in
theorem sl_X12_newPage {E : jE} (hE : jfull E) : ∀ (n : Nat) (b1 : Int32) (b2 : Int32) (b3 : Int32) (b4 : Int32) (b5 : Int32) (w : jw) (v : Int32) (w' : jw), l_X12_newPage n b1 b2 b3 b4 b5 w = some (v, w') → jX E m_X12_newPage 2 10 [(0, .ref (E.2.2.2 + 162)), (1, .int b1), (2, .int b2), (3, .int b3), (4, .int b4), (5, .int b5)] [] w (some (.int v)) w' := by
  intro n
  induction n with
  | zero => intro b1 b2 b3 b4 b5 w v w' hf; cases hf
  | succ n ih =>
    intro b1 b2 b3 b4 b5 w v w' hf
    unfold l_X12_newPage at hf
    refine jx_iload dX12_newPage_10 rfl ?_
    refine jx_iload_n dX12_newPage_12 rfl ?_
    refine jx_icmp_ge (tgt := 49) dX12_newPage_13 (by decide) (fun c1 => ?_) (fun c1 => ?_)
    · rw [if_pos c1] at hf
      refine jx_iload dX12_newPage_49 rfl ?_
      cases hf
      exact jx_iret dX12_newPage_51 rfl rfl
    · rw [if_neg c1] at hf
      refine jx_aload_n dX12_newPage_16 rfl ?_
      refine jx_iload dX12_newPage_17 rfl ?_
      refine jx_aload_n dX12_newPage_19 rfl ?_
      refine jx_getr dX12_newPage_20 fl_X12_83 (kj_162 hE) sr_162_38 ?_
      refine jx_iload dX12_newPage_23 rfl ?_
      obtain ⟨c2, hf⟩ := jg_inv hf
      refine jx_iald dX12_newPage_25 (kj_184 hE) (jin_vp c2) ?_
      refine jx_aload_n dX12_newPage_26 rfl ?_
      refine jx_getr dX12_newPage_27 fl_X12_86 (kj_162 hE) sr_162_39 ?_
      refine jx_iload dX12_newPage_30 rfl ?_
      obtain ⟨c3, hf⟩ := jg_inv hf
      refine jx_iald dX12_newPage_32 (kj_185 hE) (jin_vp c3) ?_
      refine jx_aload_n dX12_newPage_33 rfl ?_
      refine jx_getr dX12_newPage_34 fl_X12_89 (kj_162 hE) sr_162_40 ?_
      refine jx_iload dX12_newPage_37 rfl ?_
      obtain ⟨c4, hf⟩ := jg_inv hf
      refine jx_iald dX12_newPage_39 (kj_186 hE) (jin_vp c4) ?_
      obtain ⟨q5, hq5, hf⟩ := jbd_inv hf
      refine jx_cVv (a := 162) (As := [.int b4, .int (w.2.1 184 (Int32.toNatClampNeg b5)), .int (w.2.1 185 (Int32.toNatClampNeg b5)), .int (w.2.1 186 (Int32.toNatClampNeg b5))]) (rest := []) dX12_newPage_40 ml_X12_281 mv_X12_comes (s_X12_comes hE hq5) rfl rfl (jc_162 hE) (by decide) (Nat.le_of_ble_eq_true rfl) ?_
      obtain ⟨x6, hx6, hf⟩ := jl_inv hf
      refine jx_iinc (v := x6) (ls' := [(0, .ref (E.2.2.2 + 162)), (1, .int b1), (2, .int b2), (3, .int b3), (4, .int b4), (5, .int x6)]) dX12_newPage_43 rfl (by rw [hx6]; rfl) (by decide) rfl ?_
      refine jx_goto (tgt := 10) dX12_newPage_46 (by decide) ?_
      exact ih _ _ _ _ _ _ _ _ hf
def f_X12_newPage (a1 : Int32) (a2 : Int32) (a3 : Int32) (w : jw) : Option (Int32 × jw) := jbd2 (f_X12_makes a1 w) fun x8 w9 => (l_X12_newPage jfu a1 a2 a3 x8 a2 w9)
set_option maxRecDepth 20000 in
set_option maxHeartbeats 2000000 in
theorem s_X12_newPage {E : jE} (hE : jfull E) {a1 : Int32} {a2 : Int32} {a3 : Int32} {w w' : jw} {v : Int32} (hf : f_X12_newPage a1 a2 a3 w = some (v, w')) : jC E m_X12_newPage 2 [.ref (E.2.2.2 + 162), .int a1, .int a2, .int a3] w (some (.int v)) w' := by
  refine jC_of (ls := [(0, .ref (E.2.2.2 + 162)), (1, .int a1), (2, .int a2), (3, .int a3)]) (by decide) rfl (fun _ => trivial) (Nat.le_of_ble_eq_true rfl) rfl ⟨.int, rfl, rfl⟩ ?_
  unfold f_X12_newPage at hf
  refine jx_aload_n dX12_newPage_0 rfl ?_
  refine jx_iload_n dX12_newPage_1 rfl ?_
  obtain ⟨x8, w9, hq7, hf⟩ := jbd2_inv hf
  refine jx_cVi (a := 162) (As := [.int a1]) (rest := []) dX12_newPage_2 ml_X12_243 mv_X12_makes (s_X12_makes hE hq7) rfl rfl (jc_162 hE) (by decide) (Nat.le_of_ble_eq_true rfl) ?_
  refine jx_istore (ls' := [(0, .ref (E.2.2.2 + 162)), (1, .int a1), (2, .int a2), (3, .int a3), (4, .int x8)]) dX12_newPage_5 (by decide) rfl ?_
  refine jx_iload_n dX12_newPage_7 rfl ?_
  refine jx_istore (ls' := [(0, .ref (E.2.2.2 + 162)), (1, .int a1), (2, .int a2), (3, .int a3), (4, .int x8), (5, .int a2)]) dX12_newPage_8 (by decide) rfl ?_
  exact sl_X12_newPage hE jfu _ _ _ _ _ _ _ _ hf
def l_X12_siblingOf : Nat → Int32 → Int32 → Int32 → Int32 → Int32 → Int32 → jw → Option (Int32 × jw)
  | 0, _, _, _, _, _, _, _ => none
  | n + 1, b1, b2, b3, b4, b5, b6, w => jbd2 (f_X12_entriesOf b1 w) fun x2 w3 => (if x2 ≤ b6 then jbd (if b4 < 0 then (if b5 < 0 then some ((-1) : Int32) else jg (jin (b5 + 3) 34700) (some (w3.2.1 182 (Int32.toNatClampNeg (b5 + 3))))) else jg (jin (b4 + 3) 34700) (some (w3.2.1 182 (Int32.toNatClampNeg (b4 + 3))))) fun x6 => some (x6, w3) else jbd2 (f_X12_entryAt b1 b6 w3) fun x12 w13 => jbd2 (f_X12_isLiving x12 w13) fun x15 w16 => jbd2 (if (jb x15) = 0 then some (b4, b5) else jg (jin x12 34700) (jbd (if (w16.2.1 182 (Int32.toNatClampNeg x12)) ≤ b3 then some b4 else (if b4 < 0 then some x12 else jg (jin x12 34700) (jg (jin b4 34700) ((if (w16.2.1 182 (Int32.toNatClampNeg b4)) ≤ (w16.2.1 182 (Int32.toNatClampNeg x12)) then some b4 else some x12))))) fun x24 => jg (jin x12 34700) ((if b3 ≤ (w16.2.1 182 (Int32.toNatClampNeg x12)) then some (x24, b5) else (if b5 < 0 then some (x24, x12) else jg (jin x12 34700) (jg (jin b5 34700) ((if (w16.2.1 182 (Int32.toNatClampNeg x12)) ≤ (w16.2.1 182 (Int32.toNatClampNeg b5)) then some (x24, b5) else some (x24, x12))))))))) fun x18 x19 => jl (b6 + 1) fun x21 => (l_X12_siblingOf n b1 b2 b3 x18 x19 x21 w16))
set_option maxRecDepth 20000 in
set_option maxHeartbeats 2000000 in
theorem sl_X12_siblingOf {E : jE} (hE : jfull E) : ∀ (n : Nat) (b1 : Int32) (b2 : Int32) (b3 : Int32) (b4 : Int32) (b5 : Int32) (b6 : Int32) (w : jw) (v : Int32) (w' : jw), l_X12_siblingOf n b1 b2 b3 b4 b5 b6 w = some (v, w') → jX E m_X12_siblingOf 2 21 [(0, .ref (E.2.2.2 + 162)), (1, .int b1), (2, .int b2), (3, .int b3), (4, .int b4), (5, .int b5), (6, .int b6)] [] w (some (.int v)) w' := by
  intro n
  induction n with
  | zero => intro b1 b2 b3 b4 b5 b6 w v w' hf; cases hf
  | succ n ih =>
    intro b1 b2 b3 b4 b5 b6 w v w' hf
    unfold l_X12_siblingOf at hf
    refine jx_iload dX12_siblingOf_21 rfl ?_
    refine jx_aload_n dX12_siblingOf_23 rfl ?_
    refine jx_iload_n dX12_siblingOf_24 rfl ?_
    obtain ⟨x2, w3, hq1, hf⟩ := jbd2_inv hf
    refine jx_cVi (a := 162) (As := [.int b1]) (rest := [.int b6]) dX12_siblingOf_25 ml_X12_249 mv_X12_entriesOf (s_X12_entriesOf hE hq1) rfl rfl (jc_162 hE) (by decide) (Nat.le_of_ble_eq_true rfl) ?_
    refine jx_icmp_ge (tgt := 131) dX12_siblingOf_28 (by decide) (fun c4 => ?_) (fun c4 => ?_)
    · rw [if_pos c4] at hf
      refine jx_iload dX12_siblingOf_131 rfl ?_
      obtain ⟨x6, hqhJ7, hf⟩ := jbd_inv hf
      have hJ7 : jX E m_X12_siblingOf 2 166 [(0, .ref (E.2.2.2 + 162)), (1, .int b1), (2, .int b2), (3, .int b3), (4, .int b4), (5, .int b5), (6, .int b6)] [.int x6] w3 (some (.int v)) w' := by
        cases hf
        exact jx_iret dX12_siblingOf_166 rfl rfl
      clear hf
      have hf := hqhJ7
      clear hqhJ7
      refine jx_if_lt (tgt := 148) dX12_siblingOf_133 (by decide) (fun c5 => ?_) (fun c5 => ?_)
      · rw [if_pos c5] at hf
        refine jx_iload dX12_siblingOf_148 rfl ?_
        refine jx_if_lt (tgt := 165) dX12_siblingOf_150 (by decide) (fun c8 => ?_) (fun c8 => ?_)
        · rw [if_pos c8] at hf
          refine jx_iconst (v := (-1)) dX12_siblingOf_165 (by decide) ?_
          cases hf
          exact hJ7
        · rw [if_neg c8] at hf
          refine jx_aload_n dX12_siblingOf_153 rfl ?_
          refine jx_getr dX12_siblingOf_154 fl_X12_77 (kj_162 hE) sr_162_34 ?_
          refine jx_iload dX12_siblingOf_157 rfl ?_
          refine jx_iconst (v := 3) dX12_siblingOf_159 (by decide) ?_
          refine jx_iadd dX12_siblingOf_160 ?_
          obtain ⟨c9, hf⟩ := jg_inv hf
          refine jx_iald dX12_siblingOf_161 (kj_182 hE) (jin_vp c9) ?_
          refine jx_goto (tgt := 166) dX12_siblingOf_162 (by decide) ?_
          cases hf
          exact hJ7
      · rw [if_neg c5] at hf
        refine jx_aload_n dX12_siblingOf_136 rfl ?_
        refine jx_getr dX12_siblingOf_137 fl_X12_77 (kj_162 hE) sr_162_34 ?_
        refine jx_iload dX12_siblingOf_140 rfl ?_
        refine jx_iconst (v := 3) dX12_siblingOf_142 (by decide) ?_
        refine jx_iadd dX12_siblingOf_143 ?_
        obtain ⟨c10, hf⟩ := jg_inv hf
        refine jx_iald dX12_siblingOf_144 (kj_182 hE) (jin_vp c10) ?_
        refine jx_goto (tgt := 166) dX12_siblingOf_145 (by decide) ?_
        cases hf
        exact hJ7
    · rw [if_neg c4] at hf
      refine jx_iload_n dX12_siblingOf_31 rfl ?_
      refine jx_iload dX12_siblingOf_32 rfl ?_
      obtain ⟨x12, w13, hq11, hf⟩ := jbd2_inv hf
      refine jx_cSi (As := [.int b1, .int b6]) (rest := []) dX12_siblingOf_34 ml_X12_252 ms_X12_entryAt (s_X12_entryAt hE hq11) rfl rfl rfl (by decide) (Nat.le_of_ble_eq_true rfl) ?_
      refine jx_istore (ls' := [(0, .ref (E.2.2.2 + 162)), (1, .int b1), (2, .int b2), (3, .int b3), (4, .int b4), (5, .int b5), (6, .int b6), (7, .int x12)]) dX12_siblingOf_37 (by decide) rfl ?_
      refine jx_aload_n dX12_siblingOf_39 rfl ?_
      refine jx_iload dX12_siblingOf_40 rfl ?_
      obtain ⟨x15, w16, hq14, hf⟩ := jbd2_inv hf
      refine jx_cVi (a := 162) (As := [.int x12]) (rest := []) dX12_siblingOf_42 ml_X12_255 mv_X12_isLiving (s_X12_isLiving hE hq14) rfl rfl (jc_162 hE) (by decide) (Nat.le_of_ble_eq_true rfl) ?_
      obtain ⟨x18, x19, hqhJ20, hf⟩ := jbd2_inv hf
      have hJ20 : jX E m_X12_siblingOf 2 125 [(0, .ref (E.2.2.2 + 162)), (1, .int b1), (2, .int b2), (3, .int b3), (4, .int x18), (5, .int x19), (6, .int b6), (7, .int x12)] [] w16 (some (.int v)) w' := by
        obtain ⟨x21, hx21, hf⟩ := jl_inv hf
        refine jx_iinc (v := x21) (ls' := [(0, .ref (E.2.2.2 + 162)), (1, .int b1), (2, .int b2), (3, .int b3), (4, .int x18), (5, .int x19), (6, .int x21), (7, .int x12)]) dX12_siblingOf_125 rfl (by rw [hx21]; rfl) (by decide) rfl ?_
        refine jx_goto (tgt := 21) dX12_siblingOf_128 (by decide) ?_
        refine jx_pick [0, 1, 2, 3, 4, 5, 6] rfl ?_
        exact ih _ _ _ _ _ _ _ _ _ hf
      clear hf
      have hf := hqhJ20
      clear hqhJ20
      refine jx_if_ne (tgt := 51) dX12_siblingOf_45 (by decide) (fun c17 => ?_) (fun c17 => ?_)
      · rw [if_neg c17] at hf
        refine jx_aload_n dX12_siblingOf_51 rfl ?_
        refine jx_getr dX12_siblingOf_52 fl_X12_77 (kj_162 hE) sr_162_34 ?_
        refine jx_iload dX12_siblingOf_55 rfl ?_
        obtain ⟨c22, hf⟩ := jg_inv hf
        refine jx_iald dX12_siblingOf_57 (kj_182 hE) (jin_vp c22) ?_
        refine jx_iload_n dX12_siblingOf_58 rfl ?_
        obtain ⟨x24, hqhJ25, hf⟩ := jbd_inv hf
        have hJ25 : jX E m_X12_siblingOf 2 88 [(0, .ref (E.2.2.2 + 162)), (1, .int b1), (2, .int b2), (3, .int b3), (4, .int x24), (5, .int b5), (6, .int b6), (7, .int x12)] [] w16 (some (.int v)) w' := by
          refine jx_aload_n dX12_siblingOf_88 rfl ?_
          refine jx_getr dX12_siblingOf_89 fl_X12_77 (kj_162 hE) sr_162_34 ?_
          refine jx_iload dX12_siblingOf_92 rfl ?_
          obtain ⟨c26, hf⟩ := jg_inv hf
          refine jx_iald dX12_siblingOf_94 (kj_182 hE) (jin_vp c26) ?_
          refine jx_iload_n dX12_siblingOf_95 rfl ?_
          refine jx_icmp_ge (tgt := 125) dX12_siblingOf_96 (by decide) (fun c27 => ?_) (fun c27 => ?_)
          · rw [if_pos c27] at hf
            cases hf
            exact hJ20
          · rw [if_neg c27] at hf
            refine jx_iload dX12_siblingOf_99 rfl ?_
            refine jx_if_lt (tgt := 121) dX12_siblingOf_101 (by decide) (fun c28 => ?_) (fun c28 => ?_)
            · rw [if_pos c28] at hf
              refine jx_iload dX12_siblingOf_121 rfl ?_
              refine jx_istore (ls' := [(0, .ref (E.2.2.2 + 162)), (1, .int b1), (2, .int b2), (3, .int b3), (4, .int x24), (5, .int x12), (6, .int b6), (7, .int x12)]) dX12_siblingOf_123 (by decide) rfl ?_
              cases hf
              exact hJ20
            · rw [if_neg c28] at hf
              refine jx_aload_n dX12_siblingOf_104 rfl ?_
              refine jx_getr dX12_siblingOf_105 fl_X12_77 (kj_162 hE) sr_162_34 ?_
              refine jx_iload dX12_siblingOf_108 rfl ?_
              obtain ⟨c29, hf⟩ := jg_inv hf
              refine jx_iald dX12_siblingOf_110 (kj_182 hE) (jin_vp c29) ?_
              refine jx_aload_n dX12_siblingOf_111 rfl ?_
              refine jx_getr dX12_siblingOf_112 fl_X12_77 (kj_162 hE) sr_162_34 ?_
              refine jx_iload dX12_siblingOf_115 rfl ?_
              obtain ⟨c30, hf⟩ := jg_inv hf
              refine jx_iald dX12_siblingOf_117 (kj_182 hE) (jin_vp c30) ?_
              refine jx_icmp_le (tgt := 125) dX12_siblingOf_118 (by decide) (fun c31 => ?_) (fun c31 => ?_)
              · rw [if_pos c31] at hf
                cases hf
                exact hJ20
              · rw [if_neg c31] at hf
                refine jx_iload dX12_siblingOf_121 rfl ?_
                refine jx_istore (ls' := [(0, .ref (E.2.2.2 + 162)), (1, .int b1), (2, .int b2), (3, .int b3), (4, .int x24), (5, .int x12), (6, .int b6), (7, .int x12)]) dX12_siblingOf_123 (by decide) rfl ?_
                cases hf
                exact hJ20
        clear hf
        have hf := hqhJ25
        clear hqhJ25
        refine jx_icmp_le (tgt := 88) dX12_siblingOf_59 (by decide) (fun c23 => ?_) (fun c23 => ?_)
        · rw [if_pos c23] at hf
          cases hf
          exact hJ25
        · rw [if_neg c23] at hf
          refine jx_iload dX12_siblingOf_62 rfl ?_
          refine jx_if_lt (tgt := 84) dX12_siblingOf_64 (by decide) (fun c32 => ?_) (fun c32 => ?_)
          · rw [if_pos c32] at hf
            refine jx_iload dX12_siblingOf_84 rfl ?_
            refine jx_istore (ls' := [(0, .ref (E.2.2.2 + 162)), (1, .int b1), (2, .int b2), (3, .int b3), (4, .int x12), (5, .int b5), (6, .int b6), (7, .int x12)]) dX12_siblingOf_86 (by decide) rfl ?_
            cases hf
            exact hJ25
          · rw [if_neg c32] at hf
            refine jx_aload_n dX12_siblingOf_67 rfl ?_
            refine jx_getr dX12_siblingOf_68 fl_X12_77 (kj_162 hE) sr_162_34 ?_
            refine jx_iload dX12_siblingOf_71 rfl ?_
            obtain ⟨c33, hf⟩ := jg_inv hf
            refine jx_iald dX12_siblingOf_73 (kj_182 hE) (jin_vp c33) ?_
            refine jx_aload_n dX12_siblingOf_74 rfl ?_
            refine jx_getr dX12_siblingOf_75 fl_X12_77 (kj_162 hE) sr_162_34 ?_
            refine jx_iload dX12_siblingOf_78 rfl ?_
            obtain ⟨c34, hf⟩ := jg_inv hf
            refine jx_iald dX12_siblingOf_80 (kj_182 hE) (jin_vp c34) ?_
            refine jx_icmp_ge (tgt := 88) dX12_siblingOf_81 (by decide) (fun c35 => ?_) (fun c35 => ?_)
            · rw [if_pos c35] at hf
              cases hf
              exact hJ25
            · rw [if_neg c35] at hf
              refine jx_iload dX12_siblingOf_84 rfl ?_
              refine jx_istore (ls' := [(0, .ref (E.2.2.2 + 162)), (1, .int b1), (2, .int b2), (3, .int b3), (4, .int x12), (5, .int b5), (6, .int b6), (7, .int x12)]) dX12_siblingOf_86 (by decide) rfl ?_
              cases hf
              exact hJ25
      · rw [if_pos c17] at hf
        refine jx_goto (tgt := 125) dX12_siblingOf_48 (by decide) ?_
        cases hf
        exact hJ20
def f_X12_siblingOf (a1 : Int32) (a2 : Int32) (w : jw) : Option (Int32 × jw) := jbd2 (f_X12_entryFor a1 a2 w) fun x37 w38 => jg (jin x37 34700) (jl (w38.2.1 182 (Int32.toNatClampNeg x37) : Int32) fun x40 => (l_X12_siblingOf jfu a1 a2 x40 (-1) (-1) 0 w38))
set_option maxRecDepth 20000 in
set_option maxHeartbeats 2000000 in
theorem s_X12_siblingOf {E : jE} (hE : jfull E) {a1 : Int32} {a2 : Int32} {w w' : jw} {v : Int32} (hf : f_X12_siblingOf a1 a2 w = some (v, w')) : jC E m_X12_siblingOf 2 [.ref (E.2.2.2 + 162), .int a1, .int a2] w (some (.int v)) w' := by
  refine jC_of (ls := [(0, .ref (E.2.2.2 + 162)), (1, .int a1), (2, .int a2)]) (by decide) rfl (fun _ => trivial) (Nat.le_of_ble_eq_true rfl) rfl ⟨.int, rfl, rfl⟩ ?_
  unfold f_X12_siblingOf at hf
  refine jx_aload_n dX12_siblingOf_0 rfl ?_
  refine jx_getr dX12_siblingOf_1 fl_X12_77 (kj_162 hE) sr_162_34 ?_
  refine jx_aload_n dX12_siblingOf_4 rfl ?_
  refine jx_iload_n dX12_siblingOf_5 rfl ?_
  refine jx_iload_n dX12_siblingOf_6 rfl ?_
  obtain ⟨x37, w38, hq36, hf⟩ := jbd2_inv hf
  refine jx_cVi (a := 162) (As := [.int a1, .int a2]) (rest := [.ref (E.2.2.2 + 182)]) dX12_siblingOf_7 ml_X12_278 mv_X12_entryFor (s_X12_entryFor hE hq36) rfl rfl (jc_162 hE) (by decide) (Nat.le_of_ble_eq_true rfl) ?_
  obtain ⟨c39, hf⟩ := jg_inv hf
  refine jx_iald dX12_siblingOf_10 (kj_182 hE) (jin_vp c39) ?_
  obtain ⟨x40, hx40, hf⟩ := jl_inv hf
  refine jx_nm hx40 ?_
  refine jx_istore_n (ls' := [(0, .ref (E.2.2.2 + 162)), (1, .int a1), (2, .int a2), (3, .int x40)]) dX12_siblingOf_11 (by decide) rfl ?_
  refine jx_iconst (v := (-1)) dX12_siblingOf_12 (by decide) ?_
  refine jx_istore (ls' := [(0, .ref (E.2.2.2 + 162)), (1, .int a1), (2, .int a2), (3, .int x40), (4, .int (-1))]) dX12_siblingOf_13 (by decide) rfl ?_
  refine jx_iconst (v := (-1)) dX12_siblingOf_15 (by decide) ?_
  refine jx_istore (ls' := [(0, .ref (E.2.2.2 + 162)), (1, .int a1), (2, .int a2), (3, .int x40), (4, .int (-1)), (5, .int (-1))]) dX12_siblingOf_16 (by decide) rfl ?_
  refine jx_iconst (v := 0) dX12_siblingOf_18 (by decide) ?_
  refine jx_istore (ls' := [(0, .ref (E.2.2.2 + 162)), (1, .int a1), (2, .int a2), (3, .int x40), (4, .int (-1)), (5, .int (-1)), (6, .int 0)]) dX12_siblingOf_19 (by decide) rfl ?_
  exact sl_X12_siblingOf hE jfu _ _ _ _ _ _ _ _ _ hf
def f_X12_weak  (w : jw) : Option (Int32 × jw) := jg (jin 1 34700) (some ((w.2.1 182 (Int32.toNatClampNeg 1)) / 4, w))
set_option maxRecDepth 20000 in
set_option maxHeartbeats 2000000 in
theorem s_X12_weak {E : jE} (hE : jfull E)  {w w' : jw} {v : Int32} (hf : f_X12_weak  w = some (v, w')) : jC E m_X12_weak 0 [.ref (E.2.2.2 + 162)] w (some (.int v)) w' := by
  refine jC_of (ls := [(0, .ref (E.2.2.2 + 162))]) (by decide) rfl (fun _ => trivial) (Nat.le_of_ble_eq_true rfl) rfl ⟨.int, rfl, rfl⟩ ?_
  unfold f_X12_weak at hf
  refine jx_aload_n dX12_weak_0 rfl ?_
  refine jx_getr dX12_weak_1 fl_X12_77 (kj_162 hE) sr_162_34 ?_
  refine jx_iconst (v := 1) dX12_weak_4 (by decide) ?_
  obtain ⟨c1, hf⟩ := jg_inv hf
  refine jx_iald dX12_weak_5 (kj_182 hE) (jin_vp c1) ?_
  refine jx_iconst (v := 4) dX12_weak_6 (by decide) ?_
  refine jx_idiv dX12_weak_7 (by decide) ?_
  cases hf
  exact jx_iret dX12_weak_8 rfl rfl
def f_X12_replacesOne (a1 : Int32) (w : jw) : Option (Int32 × jw) := jg (jin a1 40) (jl (w.2.1 183 (Int32.toNatClampNeg a1) : Int32) fun x2 => jg (jin (1410 + (4 * x2)) 34700) (jl (w.2.1 182 (Int32.toNatClampNeg (1410 + (4 * x2))) : Int32) fun x4 => jbd2 (f_X12_weak  w) fun x6 w7 => jbd2 (if x6 < (w.1 162 37) then some (((-1) : Int32), w7) else (if a1 ≤ 0 then some (((-1) : Int32), w7) else jg (jin (a1 - 1) 40) (jbd2 (f_X12_siblingOf (w7.2.1 183 (Int32.toNatClampNeg (a1 - 1))) x2 w7) fun x111 w112 => some (x111, w112)))) fun x9 w10 => jbd (if x9 < 0 then some w10 else jbd (f_X12_joinsAll x9 w10) fun q106 => jbd (f_X12_ends x9 q106) fun q107 => some q107) fun w13 => jbd (f_X12_ends x2 w13) fun q15 => jg (jin 1 34700) (jbd (if (q15.1 162 37) ≤ ((q15.2.1 182 (Int32.toNatClampNeg 1)) - 2) then some (0 : Int32) else some (1 : Int32)) fun x18 => jbd (if x18 = 0 then some (q15.1 162 37) else some ((q15.1 162 37) / 2)) fun x21 => jbd2 (f_X12_newPage x4 0 x21 q15) fun x24 w25 => jbd2 (if x18 = 0 then some (((-1) : Int32), w25) else jbd2 (f_X12_newPage x4 x21 (w25.1 162 37) w25) fun x103 w104 => some (x103, w104)) fun x27 w28 => jbd (if x18 = 0 then some (0 : Int32) else jg (jin x21 40) (some (w28.2.1 184 (Int32.toNatClampNeg x21)))) fun x31 => (if a1 = 0 then jl (jsetI w28 162 37 0) fun w85 => jg (jin 0 34700) (jbd (f_X12_joins 0 (w85.2.1 182 (Int32.toNatClampNeg 0)) x24 w85) fun q87 => jbd (if x18 = 0 then some q87 else jg (jin 0 34700) (jbd (f_X12_joins x31 (q87.2.1 182 (Int32.toNatClampNeg 0)) x27 q87) fun q100 => some q100)) fun w89 => jbd2 (if x18 = 0 then some (x24, w89) else jbd2 (f_X12_newPage 0 0 2 w89) fun x97 w98 => some (x97, w98)) fun x92 w93 => jbd (f_X12_becomesRoot x92 w93) fun q95 => some ((-1), q95)) else jg (jin (a1 - 1) 40) (jl (w28.2.1 183 (Int32.toNatClampNeg (a1 - 1)) : Int32) fun x35 => jbd2 (f_X12_endsAbove x35 x2 w28) fun x37 w38 => jbd2 (if x9 < 0 then some (x37, w38) else jbd2 (f_X12_endsAbove x35 x9 w38) fun x82 w83 => (if x37 ≤ x82 then some (x37, w83) else some (x82, w83))) fun x40 w41 => jl (jsetI w41 162 37 0) fun w43 => jbd2 (f_X12_entriesOf x35 w43) fun x45 w46 => jbd (if x18 = 0 then some (1 : Int32) else some (2 : Int32)) fun x48 => jg (jin 1 34700) ((if (x45 + x48) ≤ (w46.2.1 182 (Int32.toNatClampNeg 1)) then jg (jin 0 34700) (jbd (f_X12_comes x35 x40 (w46.2.1 182 (Int32.toNatClampNeg 0)) x24 w46) fun q53 => jbd (if x18 = 0 then some q53 else jg (jin 0 34700) (jbd (f_X12_comes x35 x31 (q53.2.1 182 (Int32.toNatClampNeg 0)) x27 q53) fun q72 => some q72)) fun w55 => jbd2 (f_X12_livingIn x35 w55) fun x58 w59 => (if a1 = 1 then jbd (if x58 = 1 then jbd (f_X12_ends x35 w59) fun q69 => jbd (f_X12_becomesRoot x24 q69) fun q70 => some q70 else some w59) fun w67 => some ((-1), w67) else jbd2 (f_X12_weak  w59) fun x62 w63 => (if x58 < x62 then jbd (f_X12_joinsAll x35 w63) fun q65 => some (a1 - 1, q65) else some ((-1), w63)))) else jbd (f_X12_joinsAll x35 w46) fun q73 => jg (jin 0 34700) (jbd (f_X12_joins x40 (q73.2.1 182 (Int32.toNatClampNeg 0)) x24 q73) fun q75 => jbd (if x18 = 0 then some q75 else jg (jin 0 34700) (jbd (f_X12_joins x31 (q75.2.1 182 (Int32.toNatClampNeg 0)) x27 q75) fun q80 => some q80)) fun w77 => some (a1 - 1, w77)))))))))
set_option maxRecDepth 20000 in
set_option maxHeartbeats 2000000 in
theorem s_X12_replacesOne {E : jE} (hE : jfull E) {a1 : Int32} {w w' : jw} {v : Int32} (hf : f_X12_replacesOne a1 w = some (v, w')) : jC E m_X12_replacesOne 3 [.ref (E.2.2.2 + 162), .int a1] w (some (.int v)) w' := by
  refine jC_of (ls := [(0, .ref (E.2.2.2 + 162)), (1, .int a1)]) (by decide) rfl (fun _ => trivial) (Nat.le_of_ble_eq_true rfl) rfl ⟨.int, rfl, rfl⟩ ?_
  unfold f_X12_replacesOne at hf
  refine jx_aload_n dX12_replacesOne_0 rfl ?_
  refine jx_getr dX12_replacesOne_1 fl_X12_80 (kj_162 hE) sr_162_35 ?_
  refine jx_iload_n dX12_replacesOne_4 rfl ?_
  obtain ⟨c1, hf⟩ := jg_inv hf
  refine jx_iald dX12_replacesOne_5 (kj_183 hE) (jin_vp c1) ?_
  obtain ⟨x2, hx2, hf⟩ := jl_inv hf
  refine jx_nm hx2 ?_
  refine jx_istore_n (ls' := [(0, .ref (E.2.2.2 + 162)), (1, .int a1), (2, .int x2)]) dX12_replacesOne_6 (by decide) rfl ?_
  refine jx_aload_n dX12_replacesOne_7 rfl ?_
  refine jx_getr dX12_replacesOne_8 fl_X12_77 (kj_162 hE) sr_162_34 ?_
  refine jx_sipush (v := 1410) dX12_replacesOne_11 (by decide) ?_
  refine jx_iconst (v := 4) dX12_replacesOne_14 (by decide) ?_
  refine jx_iload_n dX12_replacesOne_15 rfl ?_
  refine jx_imul dX12_replacesOne_16 ?_
  refine jx_iadd dX12_replacesOne_17 ?_
  obtain ⟨c3, hf⟩ := jg_inv hf
  refine jx_iald dX12_replacesOne_18 (kj_182 hE) (jin_vp c3) ?_
  obtain ⟨x4, hx4, hf⟩ := jl_inv hf
  refine jx_nm hx4 ?_
  refine jx_istore_n (ls' := [(0, .ref (E.2.2.2 + 162)), (1, .int a1), (2, .int x2), (3, .int x4)]) dX12_replacesOne_19 (by decide) rfl ?_
  refine jx_aload_n dX12_replacesOne_20 rfl ?_
  refine jx_geti dX12_replacesOne_21 fl_X12_271 (kj_162 hE) sr_162_37 ?_
  refine jx_aload_n dX12_replacesOne_24 rfl ?_
  obtain ⟨x6, w7, hq5, hf⟩ := jbd2_inv hf
  refine jx_cVi (a := 162) (As := []) (rest := [.int (w.1 162 37)]) dX12_replacesOne_25 ml_X12_288 mv_X12_weak (s_X12_weak hE hq5) rfl rfl (jc_162 hE) (by decide) (Nat.le_of_ble_eq_true rfl) ?_
  obtain ⟨x9, w10, hqhJ11, hf⟩ := jbd2_inv hf
  have hJ11 : jX E m_X12_replacesOne 3 52 [(0, .ref (E.2.2.2 + 162)), (1, .int a1), (2, .int x2), (3, .int x4)] [.int x9] w10 (some (.int v)) w' := by
    refine jx_istore (ls' := [(0, .ref (E.2.2.2 + 162)), (1, .int a1), (2, .int x2), (3, .int x4), (4, .int x9)]) dX12_replacesOne_52 (by decide) rfl ?_
    refine jx_iload dX12_replacesOne_54 rfl ?_
    obtain ⟨w13, hqhJ14, hf⟩ := jbd_inv hf
    have hJ14 : jX E m_X12_replacesOne 3 71 [(0, .ref (E.2.2.2 + 162)), (1, .int a1), (2, .int x2), (3, .int x4), (4, .int x9)] [] w13 (some (.int v)) w' := by
      refine jx_aload_n dX12_replacesOne_71 rfl ?_
      refine jx_iload_n dX12_replacesOne_72 rfl ?_
      obtain ⟨q15, hq15, hf⟩ := jbd_inv hf
      refine jx_cVv (a := 162) (As := [.int x2]) (rest := []) dX12_replacesOne_73 ml_X12_297 mv_X12_ends (s_X12_ends hE hq15) rfl rfl (jc_162 hE) (by decide) (Nat.le_of_ble_eq_true rfl) ?_
      refine jx_aload_n dX12_replacesOne_76 rfl ?_
      refine jx_geti dX12_replacesOne_77 fl_X12_271 (kj_162 hE) sr_162_37 ?_
      refine jx_aload_n dX12_replacesOne_80 rfl ?_
      refine jx_getr dX12_replacesOne_81 fl_X12_77 (kj_162 hE) sr_162_34 ?_
      refine jx_iconst (v := 1) dX12_replacesOne_84 (by decide) ?_
      obtain ⟨c16, hf⟩ := jg_inv hf
      refine jx_iald dX12_replacesOne_85 (kj_182 hE) (jin_vp c16) ?_
      refine jx_iconst (v := 2) dX12_replacesOne_86 (by decide) ?_
      refine jx_isub dX12_replacesOne_87 ?_
      obtain ⟨x18, hqhJ19, hf⟩ := jbd_inv hf
      have hJ19 : jX E m_X12_replacesOne 3 96 [(0, .ref (E.2.2.2 + 162)), (1, .int a1), (2, .int x2), (3, .int x4), (4, .int x9)] [.int x18] q15 (some (.int v)) w' := by
        refine jx_istore (ls' := [(0, .ref (E.2.2.2 + 162)), (1, .int a1), (2, .int x2), (3, .int x4), (4, .int x9), (5, .int x18)]) dX12_replacesOne_96 (by decide) rfl ?_
        refine jx_iload dX12_replacesOne_98 rfl ?_
        obtain ⟨x21, hqhJ22, hf⟩ := jbd_inv hf
        have hJ22 : jX E m_X12_replacesOne 3 116 [(0, .ref (E.2.2.2 + 162)), (1, .int a1), (2, .int x2), (3, .int x4), (4, .int x9), (5, .int x18)] [.int x21] q15 (some (.int v)) w' := by
          refine jx_istore (ls' := [(0, .ref (E.2.2.2 + 162)), (1, .int a1), (2, .int x2), (3, .int x4), (4, .int x9), (5, .int x18), (6, .int x21)]) dX12_replacesOne_116 (by decide) rfl ?_
          refine jx_aload_n dX12_replacesOne_118 rfl ?_
          refine jx_iload_n dX12_replacesOne_119 rfl ?_
          refine jx_iconst (v := 0) dX12_replacesOne_120 (by decide) ?_
          refine jx_iload dX12_replacesOne_121 rfl ?_
          obtain ⟨x24, w25, hq23, hf⟩ := jbd2_inv hf
          refine jx_cVi (a := 162) (As := [.int x4, .int 0, .int x21]) (rest := []) dX12_replacesOne_123 ml_X12_300 mv_X12_newPage (s_X12_newPage hE hq23) rfl rfl (jc_162 hE) (by decide) (Nat.le_of_ble_eq_true rfl) ?_
          refine jx_istore (ls' := [(0, .ref (E.2.2.2 + 162)), (1, .int a1), (2, .int x2), (3, .int x4), (4, .int x9), (5, .int x18), (6, .int x21), (7, .int x24)]) dX12_replacesOne_126 (by decide) rfl ?_
          refine jx_iload dX12_replacesOne_128 rfl ?_
          obtain ⟨x27, w28, hqhJ29, hf⟩ := jbd2_inv hf
          have hJ29 : jX E m_X12_replacesOne 3 148 [(0, .ref (E.2.2.2 + 162)), (1, .int a1), (2, .int x2), (3, .int x4), (4, .int x9), (5, .int x18), (6, .int x21), (7, .int x24)] [.int x27] w28 (some (.int v)) w' := by
            refine jx_istore (ls' := [(0, .ref (E.2.2.2 + 162)), (1, .int a1), (2, .int x2), (3, .int x4), (4, .int x9), (5, .int x18), (6, .int x21), (7, .int x24), (8, .int x27)]) dX12_replacesOne_148 (by decide) rfl ?_
            refine jx_iload dX12_replacesOne_150 rfl ?_
            obtain ⟨x31, hqhJ32, hf⟩ := jbd_inv hf
            have hJ32 : jX E m_X12_replacesOne 3 166 [(0, .ref (E.2.2.2 + 162)), (1, .int a1), (2, .int x2), (3, .int x4), (4, .int x9), (5, .int x18), (6, .int x21), (7, .int x24), (8, .int x27)] [.int x31] w28 (some (.int v)) w' := by
              refine jx_istore (ls' := [(0, .ref (E.2.2.2 + 162)), (1, .int a1), (2, .int x2), (3, .int x4), (4, .int x9), (5, .int x18), (6, .int x21), (7, .int x24), (8, .int x27), (9, .int x31)]) dX12_replacesOne_166 (by decide) rfl ?_
              refine jx_iload_n dX12_replacesOne_168 rfl ?_
              refine jx_if_ne (tgt := 232) dX12_replacesOne_169 (by decide) (fun c33 => ?_) (fun c33 => ?_)
              · rw [if_neg c33] at hf
                refine jx_aload_n dX12_replacesOne_232 rfl ?_
                refine jx_getr dX12_replacesOne_233 fl_X12_80 (kj_162 hE) sr_162_35 ?_
                refine jx_iload_n dX12_replacesOne_236 rfl ?_
                refine jx_iconst (v := 1) dX12_replacesOne_237 (by decide) ?_
                refine jx_isub dX12_replacesOne_238 ?_
                obtain ⟨c34, hf⟩ := jg_inv hf
                refine jx_iald dX12_replacesOne_239 (kj_183 hE) (jin_vp c34) ?_
                obtain ⟨x35, hx35, hf⟩ := jl_inv hf
                refine jx_nm hx35 ?_
                refine jx_istore (ls' := [(0, .ref (E.2.2.2 + 162)), (1, .int a1), (2, .int x2), (3, .int x4), (4, .int x9), (5, .int x18), (6, .int x21), (7, .int x24), (8, .int x27), (9, .int x31), (10, .int x35)]) dX12_replacesOne_240 (by decide) rfl ?_
                refine jx_aload_n dX12_replacesOne_242 rfl ?_
                refine jx_iload dX12_replacesOne_243 rfl ?_
                refine jx_iload_n dX12_replacesOne_245 rfl ?_
                obtain ⟨x37, w38, hq36, hf⟩ := jbd2_inv hf
                refine jx_cVi (a := 162) (As := [.int x35, .int x2]) (rest := []) dX12_replacesOne_246 ml_X12_303 mv_X12_endsAbove (s_X12_endsAbove hE hq36) rfl rfl (jc_162 hE) (by decide) (Nat.le_of_ble_eq_true rfl) ?_
                refine jx_istore (ls' := [(0, .ref (E.2.2.2 + 162)), (1, .int a1), (2, .int x2), (3, .int x4), (4, .int x9), (5, .int x18), (6, .int x21), (7, .int x24), (8, .int x27), (9, .int x31), (10, .int x35), (11, .int x37)]) dX12_replacesOne_249 (by decide) rfl ?_
                refine jx_iload dX12_replacesOne_251 rfl ?_
                obtain ⟨x40, w41, hqhJ42, hf⟩ := jbd2_inv hf
                have hJ42 : jX E m_X12_replacesOne 3 277 [(0, .ref (E.2.2.2 + 162)), (1, .int a1), (2, .int x2), (3, .int x4), (4, .int x9), (5, .int x18), (6, .int x21), (7, .int x24), (8, .int x27), (9, .int x31), (10, .int x35), (11, .int x40)] [] w41 (some (.int v)) w' := by
                  refine jx_aload_n dX12_replacesOne_277 rfl ?_
                  refine jx_iconst (v := 0) dX12_replacesOne_278 (by decide) ?_
                  refine jx_puti dX12_replacesOne_279 fp_X12_271 (kj_162 hE) sr_162_37 rfl rfl ?_
                  obtain ⟨w43, hw43, hf⟩ := jl_inv hf
                  refine jx_nw hw43 ?_
                  refine jx_aload_n dX12_replacesOne_282 rfl ?_
                  refine jx_iload dX12_replacesOne_283 rfl ?_
                  obtain ⟨x45, w46, hq44, hf⟩ := jbd2_inv hf
                  refine jx_cVi (a := 162) (As := [.int x35]) (rest := []) dX12_replacesOne_285 ml_X12_249 mv_X12_entriesOf (s_X12_entriesOf hE hq44) rfl rfl (jc_162 hE) (by decide) (Nat.le_of_ble_eq_true rfl) ?_
                  refine jx_iload dX12_replacesOne_288 rfl ?_
                  obtain ⟨x48, hqhJ49, hf⟩ := jbd_inv hf
                  have hJ49 : jX E m_X12_replacesOne 3 298 [(0, .ref (E.2.2.2 + 162)), (1, .int a1), (2, .int x2), (3, .int x4), (4, .int x9), (5, .int x18), (6, .int x21), (7, .int x24), (8, .int x27), (9, .int x31), (10, .int x35), (11, .int x40)] [.int x48, .int x45] w46 (some (.int v)) w' := by
                    refine jx_iadd dX12_replacesOne_298 ?_
                    refine jx_aload_n dX12_replacesOne_299 rfl ?_
                    refine jx_getr dX12_replacesOne_300 fl_X12_77 (kj_162 hE) sr_162_34 ?_
                    refine jx_iconst (v := 1) dX12_replacesOne_303 (by decide) ?_
                    obtain ⟨c50, hf⟩ := jg_inv hf
                    refine jx_iald dX12_replacesOne_304 (kj_182 hE) (jin_vp c50) ?_
                    refine jx_icmp_le (tgt := 351) dX12_replacesOne_305 (by decide) (fun c51 => ?_) (fun c51 => ?_)
                    · rw [if_pos c51] at hf
                      refine jx_aload_n dX12_replacesOne_351 rfl ?_
                      refine jx_iload dX12_replacesOne_352 rfl ?_
                      refine jx_iload dX12_replacesOne_354 rfl ?_
                      refine jx_aload_n dX12_replacesOne_356 rfl ?_
                      refine jx_getr dX12_replacesOne_357 fl_X12_77 (kj_162 hE) sr_162_34 ?_
                      refine jx_iconst (v := 0) dX12_replacesOne_360 (by decide) ?_
                      obtain ⟨c52, hf⟩ := jg_inv hf
                      refine jx_iald dX12_replacesOne_361 (kj_182 hE) (jin_vp c52) ?_
                      refine jx_iload dX12_replacesOne_362 rfl ?_
                      obtain ⟨q53, hq53, hf⟩ := jbd_inv hf
                      refine jx_cVv (a := 162) (As := [.int x35, .int x40, .int (w46.2.1 182 (Int32.toNatClampNeg 0)), .int x24]) (rest := []) dX12_replacesOne_364 ml_X12_281 mv_X12_comes (s_X12_comes hE hq53) rfl rfl (jc_162 hE) (by decide) (Nat.le_of_ble_eq_true rfl) ?_
                      refine jx_iload dX12_replacesOne_367 rfl ?_
                      obtain ⟨w55, hqhJ56, hf⟩ := jbd_inv hf
                      have hJ56 : jX E m_X12_replacesOne 3 388 [(0, .ref (E.2.2.2 + 162)), (1, .int a1), (2, .int x2), (3, .int x4), (4, .int x9), (5, .int x18), (6, .int x21), (7, .int x24), (8, .int x27), (9, .int x31), (10, .int x35), (11, .int x40)] [] w55 (some (.int v)) w' := by
                        refine jx_aload_n dX12_replacesOne_388 rfl ?_
                        refine jx_iload dX12_replacesOne_389 rfl ?_
                        obtain ⟨x58, w59, hq57, hf⟩ := jbd2_inv hf
                        refine jx_cVi (a := 162) (As := [.int x35]) (rest := []) dX12_replacesOne_391 ml_X12_306 mv_X12_livingIn (s_X12_livingIn hE hq57) rfl rfl (jc_162 hE) (by decide) (Nat.le_of_ble_eq_true rfl) ?_
                        refine jx_istore (ls' := [(0, .ref (E.2.2.2 + 162)), (1, .int a1), (2, .int x2), (3, .int x4), (4, .int x9), (5, .int x18), (6, .int x21), (7, .int x24), (8, .int x27), (9, .int x31), (10, .int x35), (11, .int x40), (12, .int x58)]) dX12_replacesOne_394 (by decide) rfl ?_
                        refine jx_iload_n dX12_replacesOne_396 rfl ?_
                        refine jx_iconst (v := 1) dX12_replacesOne_397 (by decide) ?_
                        refine jx_icmp_ne (tgt := 421) dX12_replacesOne_398 (by decide) (fun c60 => ?_) (fun c60 => ?_)
                        · rw [if_neg c60] at hf
                          refine jx_iload dX12_replacesOne_421 rfl ?_
                          refine jx_aload_n dX12_replacesOne_423 rfl ?_
                          obtain ⟨x62, w63, hq61, hf⟩ := jbd2_inv hf
                          refine jx_cVi (a := 162) (As := []) (rest := [.int x58]) dX12_replacesOne_424 ml_X12_288 mv_X12_weak (s_X12_weak hE hq61) rfl rfl (jc_162 hE) (by decide) (Nat.le_of_ble_eq_true rfl) ?_
                          refine jx_icmp_lt (tgt := 432) dX12_replacesOne_427 (by decide) (fun c64 => ?_) (fun c64 => ?_)
                          · rw [if_pos c64] at hf
                            refine jx_aload_n dX12_replacesOne_432 rfl ?_
                            refine jx_iload dX12_replacesOne_433 rfl ?_
                            obtain ⟨q65, hq65, hf⟩ := jbd_inv hf
                            refine jx_cVv (a := 162) (As := [.int x35]) (rest := []) dX12_replacesOne_435 ml_X12_294 mv_X12_joinsAll (s_X12_joinsAll hE hq65) rfl rfl (jc_162 hE) (by decide) (Nat.le_of_ble_eq_true rfl) ?_
                            refine jx_iload_n dX12_replacesOne_438 rfl ?_
                            refine jx_iconst (v := 1) dX12_replacesOne_439 (by decide) ?_
                            refine jx_isub dX12_replacesOne_440 ?_
                            cases hf
                            exact jx_iret dX12_replacesOne_441 rfl rfl
                          · rw [if_neg c64] at hf
                            refine jx_iconst (v := (-1)) dX12_replacesOne_430 (by decide) ?_
                            cases hf
                            exact jx_iret dX12_replacesOne_431 rfl rfl
                        · rw [if_pos c60] at hf
                          refine jx_iload dX12_replacesOne_401 rfl ?_
                          refine jx_iconst (v := 1) dX12_replacesOne_403 (by decide) ?_
                          obtain ⟨w67, hqhJ68, hf⟩ := jbd_inv hf
                          have hJ68 : jX E m_X12_replacesOne 3 419 [(0, .ref (E.2.2.2 + 162)), (1, .int a1), (2, .int x2), (3, .int x4), (4, .int x9), (5, .int x18), (6, .int x21), (7, .int x24), (8, .int x27), (9, .int x31), (10, .int x35), (11, .int x40), (12, .int x58)] [] w67 (some (.int v)) w' := by
                            refine jx_iconst (v := (-1)) dX12_replacesOne_419 (by decide) ?_
                            cases hf
                            exact jx_iret dX12_replacesOne_420 rfl rfl
                          clear hf
                          have hf := hqhJ68
                          clear hqhJ68
                          refine jx_icmp_ne (tgt := 419) dX12_replacesOne_404 (by decide) (fun c66 => ?_) (fun c66 => ?_)
                          · rw [if_neg c66] at hf
                            cases hf
                            exact hJ68
                          · rw [if_pos c66] at hf
                            refine jx_aload_n dX12_replacesOne_407 rfl ?_
                            refine jx_iload dX12_replacesOne_408 rfl ?_
                            obtain ⟨q69, hq69, hf⟩ := jbd_inv hf
                            refine jx_cVv (a := 162) (As := [.int x35]) (rest := []) dX12_replacesOne_410 ml_X12_297 mv_X12_ends (s_X12_ends hE hq69) rfl rfl (jc_162 hE) (by decide) (Nat.le_of_ble_eq_true rfl) ?_
                            refine jx_aload_n dX12_replacesOne_413 rfl ?_
                            refine jx_iload dX12_replacesOne_414 rfl ?_
                            obtain ⟨q70, hq70, hf⟩ := jbd_inv hf
                            refine jx_cVv (a := 162) (As := [.int x24]) (rest := []) dX12_replacesOne_416 ml_X12_246 mv_X12_becomesRoot (s_X12_becomesRoot hE hq70) rfl rfl (jc_162 hE) (by decide) (Nat.le_of_ble_eq_true rfl) ?_
                            cases hf
                            exact hJ68
                      clear hf
                      have hf := hqhJ56
                      clear hqhJ56
                      refine jx_if_eq (tgt := 388) dX12_replacesOne_369 (by decide) (fun c54 => ?_) (fun c54 => ?_)
                      · rw [if_pos c54] at hf
                        cases hf
                        exact hJ56
                      · rw [if_neg c54] at hf
                        refine jx_aload_n dX12_replacesOne_372 rfl ?_
                        refine jx_iload dX12_replacesOne_373 rfl ?_
                        refine jx_iload dX12_replacesOne_375 rfl ?_
                        refine jx_aload_n dX12_replacesOne_377 rfl ?_
                        refine jx_getr dX12_replacesOne_378 fl_X12_77 (kj_162 hE) sr_162_34 ?_
                        refine jx_iconst (v := 0) dX12_replacesOne_381 (by decide) ?_
                        obtain ⟨c71, hf⟩ := jg_inv hf
                        refine jx_iald dX12_replacesOne_382 (kj_182 hE) (jin_vp c71) ?_
                        refine jx_iload dX12_replacesOne_383 rfl ?_
                        obtain ⟨q72, hq72, hf⟩ := jbd_inv hf
                        refine jx_cVv (a := 162) (As := [.int x35, .int x31, .int (q53.2.1 182 (Int32.toNatClampNeg 0)), .int x27]) (rest := []) dX12_replacesOne_385 ml_X12_281 mv_X12_comes (s_X12_comes hE hq72) rfl rfl (jc_162 hE) (by decide) (Nat.le_of_ble_eq_true rfl) ?_
                        cases hf
                        exact hJ56
                    · rw [if_neg c51] at hf
                      refine jx_aload_n dX12_replacesOne_308 rfl ?_
                      refine jx_iload dX12_replacesOne_309 rfl ?_
                      obtain ⟨q73, hq73, hf⟩ := jbd_inv hf
                      refine jx_cVv (a := 162) (As := [.int x35]) (rest := []) dX12_replacesOne_311 ml_X12_294 mv_X12_joinsAll (s_X12_joinsAll hE hq73) rfl rfl (jc_162 hE) (by decide) (Nat.le_of_ble_eq_true rfl) ?_
                      refine jx_aload_n dX12_replacesOne_314 rfl ?_
                      refine jx_iload dX12_replacesOne_315 rfl ?_
                      refine jx_aload_n dX12_replacesOne_317 rfl ?_
                      refine jx_getr dX12_replacesOne_318 fl_X12_77 (kj_162 hE) sr_162_34 ?_
                      refine jx_iconst (v := 0) dX12_replacesOne_321 (by decide) ?_
                      obtain ⟨c74, hf⟩ := jg_inv hf
                      refine jx_iald dX12_replacesOne_322 (kj_182 hE) (jin_vp c74) ?_
                      refine jx_iload dX12_replacesOne_323 rfl ?_
                      obtain ⟨q75, hq75, hf⟩ := jbd_inv hf
                      refine jx_cVv (a := 162) (As := [.int x40, .int (q73.2.1 182 (Int32.toNatClampNeg 0)), .int x24]) (rest := []) dX12_replacesOne_325 ml_X12_274 mv_X12_joins (s_X12_joins hE hq75) rfl rfl (jc_162 hE) (by decide) (Nat.le_of_ble_eq_true rfl) ?_
                      refine jx_iload dX12_replacesOne_328 rfl ?_
                      obtain ⟨w77, hqhJ78, hf⟩ := jbd_inv hf
                      have hJ78 : jX E m_X12_replacesOne 3 347 [(0, .ref (E.2.2.2 + 162)), (1, .int a1), (2, .int x2), (3, .int x4), (4, .int x9), (5, .int x18), (6, .int x21), (7, .int x24), (8, .int x27), (9, .int x31), (10, .int x35), (11, .int x40)] [] w77 (some (.int v)) w' := by
                        refine jx_iload_n dX12_replacesOne_347 rfl ?_
                        refine jx_iconst (v := 1) dX12_replacesOne_348 (by decide) ?_
                        refine jx_isub dX12_replacesOne_349 ?_
                        cases hf
                        exact jx_iret dX12_replacesOne_350 rfl rfl
                      clear hf
                      have hf := hqhJ78
                      clear hqhJ78
                      refine jx_if_eq (tgt := 347) dX12_replacesOne_330 (by decide) (fun c76 => ?_) (fun c76 => ?_)
                      · rw [if_pos c76] at hf
                        cases hf
                        exact hJ78
                      · rw [if_neg c76] at hf
                        refine jx_aload_n dX12_replacesOne_333 rfl ?_
                        refine jx_iload dX12_replacesOne_334 rfl ?_
                        refine jx_aload_n dX12_replacesOne_336 rfl ?_
                        refine jx_getr dX12_replacesOne_337 fl_X12_77 (kj_162 hE) sr_162_34 ?_
                        refine jx_iconst (v := 0) dX12_replacesOne_340 (by decide) ?_
                        obtain ⟨c79, hf⟩ := jg_inv hf
                        refine jx_iald dX12_replacesOne_341 (kj_182 hE) (jin_vp c79) ?_
                        refine jx_iload dX12_replacesOne_342 rfl ?_
                        obtain ⟨q80, hq80, hf⟩ := jbd_inv hf
                        refine jx_cVv (a := 162) (As := [.int x31, .int (q75.2.1 182 (Int32.toNatClampNeg 0)), .int x27]) (rest := []) dX12_replacesOne_344 ml_X12_274 mv_X12_joins (s_X12_joins hE hq80) rfl rfl (jc_162 hE) (by decide) (Nat.le_of_ble_eq_true rfl) ?_
                        cases hf
                        exact hJ78
                  clear hf
                  have hf := hqhJ49
                  clear hqhJ49
                  refine jx_if_eq (tgt := 297) dX12_replacesOne_290 (by decide) (fun c47 => ?_) (fun c47 => ?_)
                  · rw [if_pos c47] at hf
                    refine jx_iconst (v := 1) dX12_replacesOne_297 (by decide) ?_
                    cases hf
                    exact hJ49
                  · rw [if_neg c47] at hf
                    refine jx_iconst (v := 2) dX12_replacesOne_293 (by decide) ?_
                    refine jx_goto (tgt := 298) dX12_replacesOne_294 (by decide) ?_
                    cases hf
                    exact hJ49
                clear hf
                have hf := hqhJ42
                clear hqhJ42
                refine jx_if_lt (tgt := 277) dX12_replacesOne_253 (by decide) (fun c39 => ?_) (fun c39 => ?_)
                · rw [if_pos c39] at hf
                  cases hf
                  exact hJ42
                · rw [if_neg c39] at hf
                  refine jx_aload_n dX12_replacesOne_256 rfl ?_
                  refine jx_iload dX12_replacesOne_257 rfl ?_
                  refine jx_iload dX12_replacesOne_259 rfl ?_
                  obtain ⟨x82, w83, hq81, hf⟩ := jbd2_inv hf
                  refine jx_cVi (a := 162) (As := [.int x35, .int x9]) (rest := []) dX12_replacesOne_261 ml_X12_303 mv_X12_endsAbove (s_X12_endsAbove hE hq81) rfl rfl (jc_162 hE) (by decide) (Nat.le_of_ble_eq_true rfl) ?_
                  refine jx_istore (ls' := [(0, .ref (E.2.2.2 + 162)), (1, .int a1), (2, .int x2), (3, .int x4), (4, .int x9), (5, .int x18), (6, .int x21), (7, .int x24), (8, .int x27), (9, .int x31), (10, .int x35), (11, .int x37), (12, .int x82)]) dX12_replacesOne_264 (by decide) rfl ?_
                  refine jx_iload dX12_replacesOne_266 rfl ?_
                  refine jx_iload dX12_replacesOne_268 rfl ?_
                  refine jx_icmp_ge (tgt := 277) dX12_replacesOne_270 (by decide) (fun c84 => ?_) (fun c84 => ?_)
                  · rw [if_pos c84] at hf
                    refine jx_pick [0, 1, 2, 3, 4, 5, 6, 7, 8, 9, 10, 11] rfl ?_
                    cases hf
                    exact hJ42
                  · rw [if_neg c84] at hf
                    refine jx_iload dX12_replacesOne_273 rfl ?_
                    refine jx_istore (ls' := [(0, .ref (E.2.2.2 + 162)), (1, .int a1), (2, .int x2), (3, .int x4), (4, .int x9), (5, .int x18), (6, .int x21), (7, .int x24), (8, .int x27), (9, .int x31), (10, .int x35), (11, .int x82), (12, .int x82)]) dX12_replacesOne_275 (by decide) rfl ?_
                    refine jx_pick [0, 1, 2, 3, 4, 5, 6, 7, 8, 9, 10, 11] rfl ?_
                    cases hf
                    exact hJ42
              · rw [if_pos c33] at hf
                refine jx_aload_n dX12_replacesOne_172 rfl ?_
                refine jx_iconst (v := 0) dX12_replacesOne_173 (by decide) ?_
                refine jx_puti dX12_replacesOne_174 fp_X12_271 (kj_162 hE) sr_162_37 rfl rfl ?_
                obtain ⟨w85, hw85, hf⟩ := jl_inv hf
                refine jx_nw hw85 ?_
                refine jx_aload_n dX12_replacesOne_177 rfl ?_
                refine jx_iconst (v := 0) dX12_replacesOne_178 (by decide) ?_
                refine jx_aload_n dX12_replacesOne_179 rfl ?_
                refine jx_getr dX12_replacesOne_180 fl_X12_77 (kj_162 hE) sr_162_34 ?_
                refine jx_iconst (v := 0) dX12_replacesOne_183 (by decide) ?_
                obtain ⟨c86, hf⟩ := jg_inv hf
                refine jx_iald dX12_replacesOne_184 (kj_182 hE) (jin_vp c86) ?_
                refine jx_iload dX12_replacesOne_185 rfl ?_
                obtain ⟨q87, hq87, hf⟩ := jbd_inv hf
                refine jx_cVv (a := 162) (As := [.int 0, .int (w85.2.1 182 (Int32.toNatClampNeg 0)), .int x24]) (rest := []) dX12_replacesOne_187 ml_X12_274 mv_X12_joins (s_X12_joins hE hq87) rfl rfl (jc_162 hE) (by decide) (Nat.le_of_ble_eq_true rfl) ?_
                refine jx_iload dX12_replacesOne_190 rfl ?_
                obtain ⟨w89, hqhJ90, hf⟩ := jbd_inv hf
                have hJ90 : jX E m_X12_replacesOne 3 209 [(0, .ref (E.2.2.2 + 162)), (1, .int a1), (2, .int x2), (3, .int x4), (4, .int x9), (5, .int x18), (6, .int x21), (7, .int x24), (8, .int x27), (9, .int x31)] [] w89 (some (.int v)) w' := by
                  refine jx_aload_n dX12_replacesOne_209 rfl ?_
                  refine jx_iload dX12_replacesOne_210 rfl ?_
                  obtain ⟨x92, w93, hqhJ94, hf⟩ := jbd2_inv hf
                  have hJ94 : jX E m_X12_replacesOne 3 227 [(0, .ref (E.2.2.2 + 162)), (1, .int a1), (2, .int x2), (3, .int x4), (4, .int x9), (5, .int x18), (6, .int x21), (7, .int x24), (8, .int x27), (9, .int x31)] [.int x92, .ref (E.2.2.2 + 162)] w93 (some (.int v)) w' := by
                    obtain ⟨q95, hq95, hf⟩ := jbd_inv hf
                    refine jx_cVv (a := 162) (As := [.int x92]) (rest := []) dX12_replacesOne_227 ml_X12_246 mv_X12_becomesRoot (s_X12_becomesRoot hE hq95) rfl rfl (jc_162 hE) (by decide) (Nat.le_of_ble_eq_true rfl) ?_
                    refine jx_iconst (v := (-1)) dX12_replacesOne_230 (by decide) ?_
                    cases hf
                    exact jx_iret dX12_replacesOne_231 rfl rfl
                  clear hf
                  have hf := hqhJ94
                  clear hqhJ94
                  refine jx_if_eq (tgt := 225) dX12_replacesOne_212 (by decide) (fun c91 => ?_) (fun c91 => ?_)
                  · rw [if_pos c91] at hf
                    refine jx_iload dX12_replacesOne_225 rfl ?_
                    cases hf
                    exact hJ94
                  · rw [if_neg c91] at hf
                    refine jx_aload_n dX12_replacesOne_215 rfl ?_
                    refine jx_iconst (v := 0) dX12_replacesOne_216 (by decide) ?_
                    refine jx_iconst (v := 0) dX12_replacesOne_217 (by decide) ?_
                    refine jx_iconst (v := 2) dX12_replacesOne_218 (by decide) ?_
                    obtain ⟨x97, w98, hq96, hf⟩ := jbd2_inv hf
                    refine jx_cVi (a := 162) (As := [.int 0, .int 0, .int 2]) (rest := [.ref (E.2.2.2 + 162)]) dX12_replacesOne_219 ml_X12_300 mv_X12_newPage (s_X12_newPage hE hq96) rfl rfl (jc_162 hE) (by decide) (Nat.le_of_ble_eq_true rfl) ?_
                    refine jx_goto (tgt := 227) dX12_replacesOne_222 (by decide) ?_
                    cases hf
                    exact hJ94
                clear hf
                have hf := hqhJ90
                clear hqhJ90
                refine jx_if_eq (tgt := 209) dX12_replacesOne_192 (by decide) (fun c88 => ?_) (fun c88 => ?_)
                · rw [if_pos c88] at hf
                  cases hf
                  exact hJ90
                · rw [if_neg c88] at hf
                  refine jx_aload_n dX12_replacesOne_195 rfl ?_
                  refine jx_iload dX12_replacesOne_196 rfl ?_
                  refine jx_aload_n dX12_replacesOne_198 rfl ?_
                  refine jx_getr dX12_replacesOne_199 fl_X12_77 (kj_162 hE) sr_162_34 ?_
                  refine jx_iconst (v := 0) dX12_replacesOne_202 (by decide) ?_
                  obtain ⟨c99, hf⟩ := jg_inv hf
                  refine jx_iald dX12_replacesOne_203 (kj_182 hE) (jin_vp c99) ?_
                  refine jx_iload dX12_replacesOne_204 rfl ?_
                  obtain ⟨q100, hq100, hf⟩ := jbd_inv hf
                  refine jx_cVv (a := 162) (As := [.int x31, .int (q87.2.1 182 (Int32.toNatClampNeg 0)), .int x27]) (rest := []) dX12_replacesOne_206 ml_X12_274 mv_X12_joins (s_X12_joins hE hq100) rfl rfl (jc_162 hE) (by decide) (Nat.le_of_ble_eq_true rfl) ?_
                  cases hf
                  exact hJ90
            clear hf
            have hf := hqhJ32
            clear hqhJ32
            refine jx_if_eq (tgt := 165) dX12_replacesOne_152 (by decide) (fun c30 => ?_) (fun c30 => ?_)
            · rw [if_pos c30] at hf
              refine jx_iconst (v := 0) dX12_replacesOne_165 (by decide) ?_
              cases hf
              exact hJ32
            · rw [if_neg c30] at hf
              refine jx_aload_n dX12_replacesOne_155 rfl ?_
              refine jx_getr dX12_replacesOne_156 fl_X12_83 (kj_162 hE) sr_162_38 ?_
              refine jx_iload dX12_replacesOne_159 rfl ?_
              obtain ⟨c101, hf⟩ := jg_inv hf
              refine jx_iald dX12_replacesOne_161 (kj_184 hE) (jin_vp c101) ?_
              refine jx_goto (tgt := 166) dX12_replacesOne_162 (by decide) ?_
              cases hf
              exact hJ32
          clear hf
          have hf := hqhJ29
          clear hqhJ29
          refine jx_if_eq (tgt := 147) dX12_replacesOne_130 (by decide) (fun c26 => ?_) (fun c26 => ?_)
          · rw [if_pos c26] at hf
            refine jx_iconst (v := (-1)) dX12_replacesOne_147 (by decide) ?_
            cases hf
            exact hJ29
          · rw [if_neg c26] at hf
            refine jx_aload_n dX12_replacesOne_133 rfl ?_
            refine jx_iload_n dX12_replacesOne_134 rfl ?_
            refine jx_iload dX12_replacesOne_135 rfl ?_
            refine jx_aload_n dX12_replacesOne_137 rfl ?_
            refine jx_geti dX12_replacesOne_138 fl_X12_271 (kj_162 hE) sr_162_37 ?_
            obtain ⟨x103, w104, hq102, hf⟩ := jbd2_inv hf
            refine jx_cVi (a := 162) (As := [.int x4, .int x21, .int (w25.1 162 37)]) (rest := []) dX12_replacesOne_141 ml_X12_300 mv_X12_newPage (s_X12_newPage hE hq102) rfl rfl (jc_162 hE) (by decide) (Nat.le_of_ble_eq_true rfl) ?_
            refine jx_goto (tgt := 148) dX12_replacesOne_144 (by decide) ?_
            cases hf
            exact hJ29
        clear hf
        have hf := hqhJ22
        clear hqhJ22
        refine jx_if_eq (tgt := 112) dX12_replacesOne_100 (by decide) (fun c20 => ?_) (fun c20 => ?_)
        · rw [if_pos c20] at hf
          refine jx_aload_n dX12_replacesOne_112 rfl ?_
          refine jx_geti dX12_replacesOne_113 fl_X12_271 (kj_162 hE) sr_162_37 ?_
          cases hf
          exact hJ22
        · rw [if_neg c20] at hf
          refine jx_aload_n dX12_replacesOne_103 rfl ?_
          refine jx_geti dX12_replacesOne_104 fl_X12_271 (kj_162 hE) sr_162_37 ?_
          refine jx_iconst (v := 2) dX12_replacesOne_107 (by decide) ?_
          refine jx_idiv dX12_replacesOne_108 (by decide) ?_
          refine jx_goto (tgt := 116) dX12_replacesOne_109 (by decide) ?_
          cases hf
          exact hJ22
      clear hf
      have hf := hqhJ19
      clear hqhJ19
      refine jx_icmp_le (tgt := 95) dX12_replacesOne_88 (by decide) (fun c17 => ?_) (fun c17 => ?_)
      · rw [if_pos c17] at hf
        refine jx_iconst (v := 0) dX12_replacesOne_95 (by decide) ?_
        cases hf
        exact hJ19
      · rw [if_neg c17] at hf
        refine jx_iconst (v := 1) dX12_replacesOne_91 (by decide) ?_
        refine jx_goto (tgt := 96) dX12_replacesOne_92 (by decide) ?_
        cases hf
        exact hJ19
    clear hf
    have hf := hqhJ14
    clear hqhJ14
    refine jx_if_lt (tgt := 71) dX12_replacesOne_56 (by decide) (fun c12 => ?_) (fun c12 => ?_)
    · rw [if_pos c12] at hf
      cases hf
      exact hJ14
    · rw [if_neg c12] at hf
      refine jx_aload_n dX12_replacesOne_59 rfl ?_
      refine jx_iload dX12_replacesOne_60 rfl ?_
      obtain ⟨q106, hq106, hf⟩ := jbd_inv hf
      refine jx_cVv (a := 162) (As := [.int x9]) (rest := []) dX12_replacesOne_62 ml_X12_294 mv_X12_joinsAll (s_X12_joinsAll hE hq106) rfl rfl (jc_162 hE) (by decide) (Nat.le_of_ble_eq_true rfl) ?_
      refine jx_aload_n dX12_replacesOne_65 rfl ?_
      refine jx_iload dX12_replacesOne_66 rfl ?_
      obtain ⟨q107, hq107, hf⟩ := jbd_inv hf
      refine jx_cVv (a := 162) (As := [.int x9]) (rest := []) dX12_replacesOne_68 ml_X12_297 mv_X12_ends (s_X12_ends hE hq107) rfl rfl (jc_162 hE) (by decide) (Nat.le_of_ble_eq_true rfl) ?_
      cases hf
      exact hJ14
  clear hf
  have hf := hqhJ11
  clear hqhJ11
  refine jx_icmp_gt (tgt := 51) dX12_replacesOne_28 (by decide) (fun c8 => ?_) (fun c8 => ?_)
  · rw [if_pos c8] at hf
    refine jx_iconst (v := (-1)) dX12_replacesOne_51 (by decide) ?_
    cases hf
    exact hJ11
  · rw [if_neg c8] at hf
    refine jx_iload_n dX12_replacesOne_31 rfl ?_
    refine jx_if_le (tgt := 51) dX12_replacesOne_32 (by decide) (fun c108 => ?_) (fun c108 => ?_)
    · rw [if_pos c108] at hf
      refine jx_iconst (v := (-1)) dX12_replacesOne_51 (by decide) ?_
      cases hf
      exact hJ11
    · rw [if_neg c108] at hf
      refine jx_aload_n dX12_replacesOne_35 rfl ?_
      refine jx_aload_n dX12_replacesOne_36 rfl ?_
      refine jx_getr dX12_replacesOne_37 fl_X12_80 (kj_162 hE) sr_162_35 ?_
      refine jx_iload_n dX12_replacesOne_40 rfl ?_
      refine jx_iconst (v := 1) dX12_replacesOne_41 (by decide) ?_
      refine jx_isub dX12_replacesOne_42 ?_
      obtain ⟨c109, hf⟩ := jg_inv hf
      refine jx_iald dX12_replacesOne_43 (kj_183 hE) (jin_vp c109) ?_
      refine jx_iload_n dX12_replacesOne_44 rfl ?_
      obtain ⟨x111, w112, hq110, hf⟩ := jbd2_inv hf
      refine jx_cVi (a := 162) (As := [.int (w7.2.1 183 (Int32.toNatClampNeg (a1 - 1))), .int x2]) (rest := []) dX12_replacesOne_45 ml_X12_291 mv_X12_siblingOf (s_X12_siblingOf hE hq110) rfl rfl (jc_162 hE) (by decide) (Nat.le_of_ble_eq_true rfl) ?_
      refine jx_goto (tgt := 52) dX12_replacesOne_48 (by decide) ?_
      cases hf
      exact hJ11
def l_X12_replaces : Nat → Int32 → Int32 → jw → Option (jw)
  | 0, _, _, _ => none
  | n + 1, b1, b2, w => (if b2 < 0 then some w else jbd2 (f_X12_replacesOne b2 w) fun x3 w4 => (l_X12_replaces n b1 x3 w4))
set_option maxRecDepth 20000 in
set_option maxHeartbeats 2000000 in
theorem sl_X12_replaces {E : jE} (hE : jfull E) : ∀ (n : Nat) (b1 : Int32) (b2 : Int32) (w : jw) (w' : jw), l_X12_replaces n b1 b2 w = some w' → jX E m_X12_replaces 4 2 [(0, .ref (E.2.2.2 + 162)), (1, .int b1), (2, .int b2)] [] w none w' := by
  intro n
  induction n with
  | zero => intro b1 b2 w w' hf; cases hf
  | succ n ih =>
    intro b1 b2 w w' hf
    unfold l_X12_replaces at hf
    refine jx_iload_n dX12_replaces_2 rfl ?_
    refine jx_if_lt (tgt := 15) dX12_replaces_3 (by decide) (fun c1 => ?_) (fun c1 => ?_)
    · rw [if_pos c1] at hf
      cases hf
      exact jx_vret dX12_replaces_15 rfl rfl
    · rw [if_neg c1] at hf
      refine jx_aload_n dX12_replaces_6 rfl ?_
      refine jx_iload_n dX12_replaces_7 rfl ?_
      obtain ⟨x3, w4, hq2, hf⟩ := jbd2_inv hf
      refine jx_cVi (a := 162) (As := [.int b2]) (rest := []) dX12_replaces_8 ml_X12_285 mv_X12_replacesOne (s_X12_replacesOne hE hq2) rfl rfl (jc_162 hE) (by decide) (Nat.le_of_ble_eq_true rfl) ?_
      refine jx_istore_n (ls' := [(0, .ref (E.2.2.2 + 162)), (1, .int b1), (2, .int x3)]) dX12_replaces_11 (by decide) rfl ?_
      refine jx_goto (tgt := 2) dX12_replaces_12 (by decide) ?_
      exact ih _ _ _ _ hf
def f_X12_replaces (a1 : Int32) (w : jw) : Option (jw) := (l_X12_replaces jfu a1 a1 w)
set_option maxRecDepth 20000 in
set_option maxHeartbeats 2000000 in
theorem s_X12_replaces {E : jE} (hE : jfull E) {a1 : Int32} {w w' : jw} (hf : f_X12_replaces a1 w = some w') : jC E m_X12_replaces 4 [.ref (E.2.2.2 + 162), .int a1] w none w' := by
  refine jC_of (ls := [(0, .ref (E.2.2.2 + 162)), (1, .int a1)]) (by decide) rfl (fun _ => trivial) (Nat.le_of_ble_eq_true rfl) rfl rfl ?_
  unfold f_X12_replaces at hf
  refine jx_iload_n dX12_replaces_0 rfl ?_
  refine jx_istore_n (ls' := [(0, .ref (E.2.2.2 + 162)), (1, .int a1), (2, .int a1)]) dX12_replaces_1 (by decide) rfl ?_
  exact sl_X12_replaces hE jfu _ _ _ _ hf
def f_X12_versionEnds (a1 : Int32) (w : jw) : Option (jw) := jg (jin (33700 + a1) 34700) (jl (w.2.1 182 (Int32.toNatClampNeg (33700 + a1)) : Int32) fun x2 => (if 0 ≤ x2 then jg (jin 0 34700) (jg (jin ((18100 + (4 * x2)) + 2) 34700) (jl (jsetX w 182 (Int32.toNatClampNeg ((18100 + (4 * x2)) + 2)) (w.2.1 182 (Int32.toNatClampNeg 0))) fun w6 => jg (jin (33700 + a1) 34700) (jl (jsetX w6 182 (Int32.toNatClampNeg (33700 + a1)) (-1)) fun w8 => jg (jin 7 34700) (jg (jin 7 34700) (jl (jsetX w8 182 (Int32.toNatClampNeg 7) ((w8.2.1 182 (Int32.toNatClampNeg 7)) - 1)) fun w11 => some w11))))) else some w))
set_option maxRecDepth 20000 in
set_option maxHeartbeats 2000000 in
theorem s_X12_versionEnds {E : jE} (hE : jfull E) {a1 : Int32} {w w' : jw} (hf : f_X12_versionEnds a1 w = some w') : jC E m_X12_versionEnds 0 [.ref (E.2.2.2 + 162), .int a1] w none w' := by
  refine jC_of (ls := [(0, .ref (E.2.2.2 + 162)), (1, .int a1)]) (by decide) rfl (fun _ => trivial) (Nat.le_of_ble_eq_true rfl) rfl rfl ?_
  unfold f_X12_versionEnds at hf
  refine jx_aload_n dX12_versionEnds_0 rfl ?_
  refine jx_getr dX12_versionEnds_1 fl_X12_77 (kj_162 hE) sr_162_34 ?_
  refine jx_ldc (v := 33700) dX12_versionEnds_4 kc_X12_242 ?_
  refine jx_iload_n dX12_versionEnds_6 rfl ?_
  refine jx_iadd dX12_versionEnds_7 ?_
  obtain ⟨c1, hf⟩ := jg_inv hf
  refine jx_iald dX12_versionEnds_8 (kj_182 hE) (jin_vp c1) ?_
  obtain ⟨x2, hx2, hf⟩ := jl_inv hf
  refine jx_nm hx2 ?_
  refine jx_istore_n (ls' := [(0, .ref (E.2.2.2 + 162)), (1, .int a1), (2, .int x2)]) dX12_versionEnds_9 (by decide) rfl ?_
  refine jx_iload_n dX12_versionEnds_10 rfl ?_
  refine jx_if_ge (tgt := 15) dX12_versionEnds_11 (by decide) (fun c3 => ?_) (fun c3 => ?_)
  · rw [if_pos c3] at hf
    refine jx_aload_n dX12_versionEnds_15 rfl ?_
    refine jx_getr dX12_versionEnds_16 fl_X12_77 (kj_162 hE) sr_162_34 ?_
    refine jx_sipush (v := 18100) dX12_versionEnds_19 (by decide) ?_
    refine jx_iconst (v := 4) dX12_versionEnds_22 (by decide) ?_
    refine jx_iload_n dX12_versionEnds_23 rfl ?_
    refine jx_imul dX12_versionEnds_24 ?_
    refine jx_iadd dX12_versionEnds_25 ?_
    refine jx_iconst (v := 2) dX12_versionEnds_26 (by decide) ?_
    refine jx_iadd dX12_versionEnds_27 ?_
    refine jx_aload_n dX12_versionEnds_28 rfl ?_
    refine jx_getr dX12_versionEnds_29 fl_X12_77 (kj_162 hE) sr_162_34 ?_
    refine jx_iconst (v := 0) dX12_versionEnds_32 (by decide) ?_
    obtain ⟨c4, hf⟩ := jg_inv hf
    refine jx_iald dX12_versionEnds_33 (kj_182 hE) (jin_vp c4) ?_
    obtain ⟨c5, hf⟩ := jg_inv hf
    refine jx_iast dX12_versionEnds_34 (kj_182 hE) (jin_vp c5) ?_
    obtain ⟨w6, hw6, hf⟩ := jl_inv hf
    refine jx_nw hw6 ?_
    refine jx_aload_n dX12_versionEnds_35 rfl ?_
    refine jx_getr dX12_versionEnds_36 fl_X12_77 (kj_162 hE) sr_162_34 ?_
    refine jx_ldc (v := 33700) dX12_versionEnds_39 kc_X12_242 ?_
    refine jx_iload_n dX12_versionEnds_41 rfl ?_
    refine jx_iadd dX12_versionEnds_42 ?_
    refine jx_iconst (v := (-1)) dX12_versionEnds_43 (by decide) ?_
    obtain ⟨c7, hf⟩ := jg_inv hf
    refine jx_iast dX12_versionEnds_44 (kj_182 hE) (jin_vp c7) ?_
    obtain ⟨w8, hw8, hf⟩ := jl_inv hf
    refine jx_nw hw8 ?_
    refine jx_aload_n dX12_versionEnds_45 rfl ?_
    refine jx_getr dX12_versionEnds_46 fl_X12_77 (kj_162 hE) sr_162_34 ?_
    refine jx_bipush (v := 7) dX12_versionEnds_49 (by decide) ?_
    refine jx_dup2 dX12_versionEnds_51 rfl rfl ?_
    obtain ⟨c9, hf⟩ := jg_inv hf
    refine jx_iald dX12_versionEnds_52 (kj_182 hE) (jin_vp c9) ?_
    refine jx_iconst (v := 1) dX12_versionEnds_53 (by decide) ?_
    refine jx_isub dX12_versionEnds_54 ?_
    obtain ⟨c10, hf⟩ := jg_inv hf
    refine jx_iast dX12_versionEnds_55 (kj_182 hE) (jin_vp c10) ?_
    obtain ⟨w11, hw11, hf⟩ := jl_inv hf
    refine jx_nw hw11 ?_
    cases hf
    exact jx_vret dX12_versionEnds_56 rfl rfl
  · rw [if_neg c3] at hf
    cases hf
    exact jx_vret dX12_versionEnds_14 rfl rfl
def f_X12_cuts (a1 : Int32) (w : jw) : Option (Bool × jw) := jg (jin (33700 + a1) 34700) ((if (w.2.1 182 (Int32.toNatClampNeg (33700 + a1))) < 0 then some (false, w) else jg (jin 3 34700) ((if (w.2.1 182 (Int32.toNatClampNeg 3)) < 280 then jg (jin 0 34700) (jg (jin 0 34700) (jl (jsetX w 182 (Int32.toNatClampNeg 0) ((w.2.1 182 (Int32.toNatClampNeg 0)) + 1)) fun w7 => jbd (f_X12_versionEnds a1 w7) fun q8 => jbd (f_X12_goesDown a1 q8) fun q9 => jg (jin ((q9.1 162 36) - 1) 40) (jl (q9.2.1 183 (Int32.toNatClampNeg ((q9.1 162 36) - 1)) : Int32) fun x11 => jbd (f_X12_entryEnds x11 a1 q9) fun q12 => (if (q12.1 162 36) = 1 then some (true, q12) else jbd2 (f_X12_livingIn x11 q12) fun x15 w16 => jbd2 (f_X12_weak  w16) fun x18 w19 => (if x15 < x18 then jl (jsetI w19 162 37 0) fun w21 => jbd (f_X12_joinsAll x11 w21) fun q22 => jbd (f_X12_replaces ((q22.1 162 36) - 1) q22) fun q23 => some (true, q23) else some (true, w19)))))) else some (false, w)))))
set_option maxRecDepth 20000 in
set_option maxHeartbeats 2000000 in
theorem s_X12_cuts {E : jE} (hE : jfull E) {a1 : Int32} {w w' : jw} {v : Bool} (hf : f_X12_cuts a1 w = some (v, w')) : jC E m_X12_cuts 5 [.ref (E.2.2.2 + 162), .int a1] w (some (.int (jb v))) w' := by
  refine jC_of (ls := [(0, .ref (E.2.2.2 + 162)), (1, .int a1)]) (by decide) rfl (fun _ => trivial) (Nat.le_of_ble_eq_true rfl) rfl jb_ans ?_
  unfold f_X12_cuts at hf
  refine jx_aload_n dX12_cuts_0 rfl ?_
  refine jx_getr dX12_cuts_1 fl_X12_77 (kj_162 hE) sr_162_34 ?_
  refine jx_ldc (v := 33700) dX12_cuts_4 kc_X12_242 ?_
  refine jx_iload_n dX12_cuts_6 rfl ?_
  refine jx_iadd dX12_cuts_7 ?_
  obtain ⟨c1, hf⟩ := jg_inv hf
  refine jx_iald dX12_cuts_8 (kj_182 hE) (jin_vp c1) ?_
  refine jx_if_lt (tgt := 24) dX12_cuts_9 (by decide) (fun c2 => ?_) (fun c2 => ?_)
  · rw [if_pos c2] at hf
    refine jx_iconst (v := 0) dX12_cuts_24 (by decide) ?_
    cases hf
    exact jx_iret dX12_cuts_25 rfl rfl
  · rw [if_neg c2] at hf
    refine jx_aload_n dX12_cuts_12 rfl ?_
    refine jx_getr dX12_cuts_13 fl_X12_77 (kj_162 hE) sr_162_34 ?_
    refine jx_iconst (v := 3) dX12_cuts_16 (by decide) ?_
    obtain ⟨c3, hf⟩ := jg_inv hf
    refine jx_iald dX12_cuts_17 (kj_182 hE) (jin_vp c3) ?_
    refine jx_sipush (v := 280) dX12_cuts_18 (by decide) ?_
    refine jx_icmp_lt (tgt := 26) dX12_cuts_21 (by decide) (fun c4 => ?_) (fun c4 => ?_)
    · rw [if_pos c4] at hf
      refine jx_aload_n dX12_cuts_26 rfl ?_
      refine jx_getr dX12_cuts_27 fl_X12_77 (kj_162 hE) sr_162_34 ?_
      refine jx_iconst (v := 0) dX12_cuts_30 (by decide) ?_
      refine jx_dup2 dX12_cuts_31 rfl rfl ?_
      obtain ⟨c5, hf⟩ := jg_inv hf
      refine jx_iald dX12_cuts_32 (kj_182 hE) (jin_vp c5) ?_
      refine jx_iconst (v := 1) dX12_cuts_33 (by decide) ?_
      refine jx_iadd dX12_cuts_34 ?_
      obtain ⟨c6, hf⟩ := jg_inv hf
      refine jx_iast dX12_cuts_35 (kj_182 hE) (jin_vp c6) ?_
      obtain ⟨w7, hw7, hf⟩ := jl_inv hf
      refine jx_nw hw7 ?_
      refine jx_aload_n dX12_cuts_36 rfl ?_
      refine jx_iload_n dX12_cuts_37 rfl ?_
      obtain ⟨q8, hq8, hf⟩ := jbd_inv hf
      refine jx_cVv (a := 162) (As := [.int a1]) (rest := []) dX12_cuts_38 ml_X12_309 mv_X12_versionEnds (s_X12_versionEnds hE hq8) rfl rfl (jc_162 hE) (by decide) (Nat.le_of_ble_eq_true rfl) ?_
      refine jx_aload_n dX12_cuts_41 rfl ?_
      refine jx_iload_n dX12_cuts_42 rfl ?_
      obtain ⟨q9, hq9, hf⟩ := jbd_inv hf
      refine jx_cVv (a := 162) (As := [.int a1]) (rest := []) dX12_cuts_43 ml_X12_315 mv_X12_goesDown (s_X12_goesDown hE hq9) rfl rfl (jc_162 hE) (by decide) (Nat.le_of_ble_eq_true rfl) ?_
      refine jx_aload_n dX12_cuts_46 rfl ?_
      refine jx_getr dX12_cuts_47 fl_X12_80 (kj_162 hE) sr_162_35 ?_
      refine jx_aload_n dX12_cuts_50 rfl ?_
      refine jx_geti dX12_cuts_51 fl_X12_262 (kj_162 hE) sr_162_36 ?_
      refine jx_iconst (v := 1) dX12_cuts_54 (by decide) ?_
      refine jx_isub dX12_cuts_55 ?_
      obtain ⟨c10, hf⟩ := jg_inv hf
      refine jx_iald dX12_cuts_56 (kj_183 hE) (jin_vp c10) ?_
      obtain ⟨x11, hx11, hf⟩ := jl_inv hf
      refine jx_nm hx11 ?_
      refine jx_istore_n (ls' := [(0, .ref (E.2.2.2 + 162)), (1, .int a1), (2, .int x11)]) dX12_cuts_57 (by decide) rfl ?_
      refine jx_aload_n dX12_cuts_58 rfl ?_
      refine jx_iload_n dX12_cuts_59 rfl ?_
      refine jx_iload_n dX12_cuts_60 rfl ?_
      obtain ⟨q12, hq12, hf⟩ := jbd_inv hf
      refine jx_cVv (a := 162) (As := [.int x11, .int a1]) (rest := []) dX12_cuts_61 ml_X12_318 mv_X12_entryEnds (s_X12_entryEnds hE hq12) rfl rfl (jc_162 hE) (by decide) (Nat.le_of_ble_eq_true rfl) ?_
      refine jx_aload_n dX12_cuts_64 rfl ?_
      refine jx_geti dX12_cuts_65 fl_X12_262 (kj_162 hE) sr_162_36 ?_
      refine jx_iconst (v := 1) dX12_cuts_68 (by decide) ?_
      refine jx_icmp_eq (tgt := 84) dX12_cuts_69 (by decide) (fun c13 => ?_) (fun c13 => ?_)
      · rw [if_pos c13] at hf
        refine jx_iconst (v := 1) dX12_cuts_84 (by decide) ?_
        cases hf
        exact jx_iret dX12_cuts_85 rfl rfl
      · rw [if_neg c13] at hf
        refine jx_aload_n dX12_cuts_72 rfl ?_
        refine jx_iload_n dX12_cuts_73 rfl ?_
        obtain ⟨x15, w16, hq14, hf⟩ := jbd2_inv hf
        refine jx_cVi (a := 162) (As := [.int x11]) (rest := []) dX12_cuts_74 ml_X12_306 mv_X12_livingIn (s_X12_livingIn hE hq14) rfl rfl (jc_162 hE) (by decide) (Nat.le_of_ble_eq_true rfl) ?_
        refine jx_aload_n dX12_cuts_77 rfl ?_
        obtain ⟨x18, w19, hq17, hf⟩ := jbd2_inv hf
        refine jx_cVi (a := 162) (As := []) (rest := [.int x15]) dX12_cuts_78 ml_X12_288 mv_X12_weak (s_X12_weak hE hq17) rfl rfl (jc_162 hE) (by decide) (Nat.le_of_ble_eq_true rfl) ?_
        refine jx_icmp_lt (tgt := 86) dX12_cuts_81 (by decide) (fun c20 => ?_) (fun c20 => ?_)
        · rw [if_pos c20] at hf
          refine jx_aload_n dX12_cuts_86 rfl ?_
          refine jx_iconst (v := 0) dX12_cuts_87 (by decide) ?_
          refine jx_puti dX12_cuts_88 fp_X12_271 (kj_162 hE) sr_162_37 rfl rfl ?_
          obtain ⟨w21, hw21, hf⟩ := jl_inv hf
          refine jx_nw hw21 ?_
          refine jx_aload_n dX12_cuts_91 rfl ?_
          refine jx_iload_n dX12_cuts_92 rfl ?_
          obtain ⟨q22, hq22, hf⟩ := jbd_inv hf
          refine jx_cVv (a := 162) (As := [.int x11]) (rest := []) dX12_cuts_93 ml_X12_294 mv_X12_joinsAll (s_X12_joinsAll hE hq22) rfl rfl (jc_162 hE) (by decide) (Nat.le_of_ble_eq_true rfl) ?_
          refine jx_aload_n dX12_cuts_96 rfl ?_
          refine jx_aload_n dX12_cuts_97 rfl ?_
          refine jx_geti dX12_cuts_98 fl_X12_262 (kj_162 hE) sr_162_36 ?_
          refine jx_iconst (v := 1) dX12_cuts_101 (by decide) ?_
          refine jx_isub dX12_cuts_102 ?_
          obtain ⟨q23, hq23, hf⟩ := jbd_inv hf
          refine jx_cVv (a := 162) (As := [.int ((q22.1 162 36) - 1)]) (rest := []) dX12_cuts_103 ml_X12_321 mv_X12_replaces (s_X12_replaces hE hq23) rfl rfl (jc_162 hE) (by decide) (Nat.le_of_ble_eq_true rfl) ?_
          refine jx_iconst (v := 1) dX12_cuts_106 (by decide) ?_
          cases hf
          exact jx_iret dX12_cuts_107 rfl rfl
        · rw [if_neg c20] at hf
          refine jx_iconst (v := 1) dX12_cuts_84 (by decide) ?_
          cases hf
          exact jx_iret dX12_cuts_85 rfl rfl
    · rw [if_neg c4] at hf
      refine jx_iconst (v := 0) dX12_cuts_24 (by decide) ?_
      cases hf
      exact jx_iret dX12_cuts_25 rfl rfl
def f_X12_keyOf (a1 : Int32) (w : jw) : Option (Int32 × jw) := jl (a1 - a1 / 1000 * 1000 : Int32) fun x2 => (if 0 ≤ x2 then some (x2, w) else some (x2 + 1000, w))
set_option maxRecDepth 20000 in
set_option maxHeartbeats 2000000 in
theorem s_X12_keyOf {E : jE} (hE : jfull E) {a1 : Int32} {w w' : jw} {v : Int32} (hf : f_X12_keyOf a1 w = some (v, w')) : jC E m_X12_keyOf 0 [.int a1] w (some (.int v)) w' := by
  refine jC_of (ls := [(0, .int a1)]) (by decide) rfl (fun _ => trivial) (Nat.le_of_ble_eq_true rfl) rfl ⟨.int, rfl, rfl⟩ ?_
  unfold f_X12_keyOf at hf
  refine jx_iload_n dX12_keyOf_0 rfl ?_
  refine jx_sipush (v := 1000) dX12_keyOf_1 (by decide) ?_
  refine jx_irem dX12_keyOf_4 (by decide) ?_
  obtain ⟨x2, hx2, hf⟩ := jl_inv hf
  refine jx_nm hx2 ?_
  refine jx_istore_n (ls' := [(0, .int a1), (1, .int x2)]) dX12_keyOf_5 (by decide) rfl ?_
  refine jx_iload_n dX12_keyOf_6 rfl ?_
  refine jx_if_ge (tgt := 18) dX12_keyOf_7 (by decide) (fun c3 => ?_) (fun c3 => ?_)
  · rw [if_pos c3] at hf
    refine jx_iload_n dX12_keyOf_18 rfl ?_
    cases hf
    exact jx_iret dX12_keyOf_19 rfl rfl
  · rw [if_neg c3] at hf
    refine jx_iload_n dX12_keyOf_10 rfl ?_
    refine jx_sipush (v := 1000) dX12_keyOf_11 (by decide) ?_
    refine jx_iadd dX12_keyOf_14 ?_
    refine jx_goto (tgt := 19) dX12_keyOf_15 (by decide) ?_
    cases hf
    exact jx_iret dX12_keyOf_19 rfl rfl
def f_X12_versionComes (a1 : Int32) (a2 : Int32) (w : jw) : Option (jw) := jg (jin 4 34700) (jl (w.2.1 182 (Int32.toNatClampNeg 4) : Int32) fun x2 => jg (jin (18100 + (4 * x2)) 34700) (jl (jsetX w 182 (Int32.toNatClampNeg (18100 + (4 * x2))) a1) fun w4 => jg (jin 0 34700) (jg (jin ((18100 + (4 * x2)) + 1) 34700) (jl (jsetX w4 182 (Int32.toNatClampNeg ((18100 + (4 * x2)) + 1)) (w4.2.1 182 (Int32.toNatClampNeg 0))) fun w7 => jg (jin ((18100 + (4 * x2)) + 2) 34700) (jl (jsetX w7 182 (Int32.toNatClampNeg ((18100 + (4 * x2)) + 2)) (-2)) fun w9 => jg (jin ((18100 + (4 * x2)) + 3) 34700) (jl (jsetX w9 182 (Int32.toNatClampNeg ((18100 + (4 * x2)) + 3)) a2) fun w11 => jg (jin (33700 + a1) 34700) (jl (jsetX w11 182 (Int32.toNatClampNeg (33700 + a1)) x2) fun w13 => jg (jin 4 34700) (jg (jin 4 34700) (jl (jsetX w13 182 (Int32.toNatClampNeg 4) ((w13.2.1 182 (Int32.toNatClampNeg 4)) + 1)) fun w16 => jg (jin 7 34700) (jg (jin 7 34700) (jl (jsetX w16 182 (Int32.toNatClampNeg 7) ((w16.2.1 182 (Int32.toNatClampNeg 7)) + 1)) fun w19 => some w19)))))))))))
set_option maxRecDepth 20000 in
set_option maxHeartbeats 2000000 in
theorem s_X12_versionComes {E : jE} (hE : jfull E) {a1 : Int32} {a2 : Int32} {w w' : jw} (hf : f_X12_versionComes a1 a2 w = some w') : jC E m_X12_versionComes 0 [.ref (E.2.2.2 + 162), .int a1, .int a2] w none w' := by
  refine jC_of (ls := [(0, .ref (E.2.2.2 + 162)), (1, .int a1), (2, .int a2)]) (by decide) rfl (fun _ => trivial) (Nat.le_of_ble_eq_true rfl) rfl rfl ?_
  unfold f_X12_versionComes at hf
  refine jx_aload_n dX12_versionComes_0 rfl ?_
  refine jx_getr dX12_versionComes_1 fl_X12_77 (kj_162 hE) sr_162_34 ?_
  refine jx_iconst (v := 4) dX12_versionComes_4 (by decide) ?_
  obtain ⟨c1, hf⟩ := jg_inv hf
  refine jx_iald dX12_versionComes_5 (kj_182 hE) (jin_vp c1) ?_
  obtain ⟨x2, hx2, hf⟩ := jl_inv hf
  refine jx_nm hx2 ?_
  refine jx_istore_n (ls' := [(0, .ref (E.2.2.2 + 162)), (1, .int a1), (2, .int a2), (3, .int x2)]) dX12_versionComes_6 (by decide) rfl ?_
  refine jx_aload_n dX12_versionComes_7 rfl ?_
  refine jx_getr dX12_versionComes_8 fl_X12_77 (kj_162 hE) sr_162_34 ?_
  refine jx_sipush (v := 18100) dX12_versionComes_11 (by decide) ?_
  refine jx_iconst (v := 4) dX12_versionComes_14 (by decide) ?_
  refine jx_iload_n dX12_versionComes_15 rfl ?_
  refine jx_imul dX12_versionComes_16 ?_
  refine jx_iadd dX12_versionComes_17 ?_
  refine jx_iload_n dX12_versionComes_18 rfl ?_
  obtain ⟨c3, hf⟩ := jg_inv hf
  refine jx_iast dX12_versionComes_19 (kj_182 hE) (jin_vp c3) ?_
  obtain ⟨w4, hw4, hf⟩ := jl_inv hf
  refine jx_nw hw4 ?_
  refine jx_aload_n dX12_versionComes_20 rfl ?_
  refine jx_getr dX12_versionComes_21 fl_X12_77 (kj_162 hE) sr_162_34 ?_
  refine jx_sipush (v := 18100) dX12_versionComes_24 (by decide) ?_
  refine jx_iconst (v := 4) dX12_versionComes_27 (by decide) ?_
  refine jx_iload_n dX12_versionComes_28 rfl ?_
  refine jx_imul dX12_versionComes_29 ?_
  refine jx_iadd dX12_versionComes_30 ?_
  refine jx_iconst (v := 1) dX12_versionComes_31 (by decide) ?_
  refine jx_iadd dX12_versionComes_32 ?_
  refine jx_aload_n dX12_versionComes_33 rfl ?_
  refine jx_getr dX12_versionComes_34 fl_X12_77 (kj_162 hE) sr_162_34 ?_
  refine jx_iconst (v := 0) dX12_versionComes_37 (by decide) ?_
  obtain ⟨c5, hf⟩ := jg_inv hf
  refine jx_iald dX12_versionComes_38 (kj_182 hE) (jin_vp c5) ?_
  obtain ⟨c6, hf⟩ := jg_inv hf
  refine jx_iast dX12_versionComes_39 (kj_182 hE) (jin_vp c6) ?_
  obtain ⟨w7, hw7, hf⟩ := jl_inv hf
  refine jx_nw hw7 ?_
  refine jx_aload_n dX12_versionComes_40 rfl ?_
  refine jx_getr dX12_versionComes_41 fl_X12_77 (kj_162 hE) sr_162_34 ?_
  refine jx_sipush (v := 18100) dX12_versionComes_44 (by decide) ?_
  refine jx_iconst (v := 4) dX12_versionComes_47 (by decide) ?_
  refine jx_iload_n dX12_versionComes_48 rfl ?_
  refine jx_imul dX12_versionComes_49 ?_
  refine jx_iadd dX12_versionComes_50 ?_
  refine jx_iconst (v := 2) dX12_versionComes_51 (by decide) ?_
  refine jx_iadd dX12_versionComes_52 ?_
  refine jx_bipush (v := (-2)) dX12_versionComes_53 (by decide) ?_
  obtain ⟨c8, hf⟩ := jg_inv hf
  refine jx_iast dX12_versionComes_55 (kj_182 hE) (jin_vp c8) ?_
  obtain ⟨w9, hw9, hf⟩ := jl_inv hf
  refine jx_nw hw9 ?_
  refine jx_aload_n dX12_versionComes_56 rfl ?_
  refine jx_getr dX12_versionComes_57 fl_X12_77 (kj_162 hE) sr_162_34 ?_
  refine jx_sipush (v := 18100) dX12_versionComes_60 (by decide) ?_
  refine jx_iconst (v := 4) dX12_versionComes_63 (by decide) ?_
  refine jx_iload_n dX12_versionComes_64 rfl ?_
  refine jx_imul dX12_versionComes_65 ?_
  refine jx_iadd dX12_versionComes_66 ?_
  refine jx_iconst (v := 3) dX12_versionComes_67 (by decide) ?_
  refine jx_iadd dX12_versionComes_68 ?_
  refine jx_iload_n dX12_versionComes_69 rfl ?_
  obtain ⟨c10, hf⟩ := jg_inv hf
  refine jx_iast dX12_versionComes_70 (kj_182 hE) (jin_vp c10) ?_
  obtain ⟨w11, hw11, hf⟩ := jl_inv hf
  refine jx_nw hw11 ?_
  refine jx_aload_n dX12_versionComes_71 rfl ?_
  refine jx_getr dX12_versionComes_72 fl_X12_77 (kj_162 hE) sr_162_34 ?_
  refine jx_ldc (v := 33700) dX12_versionComes_75 kc_X12_242 ?_
  refine jx_iload_n dX12_versionComes_77 rfl ?_
  refine jx_iadd dX12_versionComes_78 ?_
  refine jx_iload_n dX12_versionComes_79 rfl ?_
  obtain ⟨c12, hf⟩ := jg_inv hf
  refine jx_iast dX12_versionComes_80 (kj_182 hE) (jin_vp c12) ?_
  obtain ⟨w13, hw13, hf⟩ := jl_inv hf
  refine jx_nw hw13 ?_
  refine jx_aload_n dX12_versionComes_81 rfl ?_
  refine jx_getr dX12_versionComes_82 fl_X12_77 (kj_162 hE) sr_162_34 ?_
  refine jx_iconst (v := 4) dX12_versionComes_85 (by decide) ?_
  refine jx_dup2 dX12_versionComes_86 rfl rfl ?_
  obtain ⟨c14, hf⟩ := jg_inv hf
  refine jx_iald dX12_versionComes_87 (kj_182 hE) (jin_vp c14) ?_
  refine jx_iconst (v := 1) dX12_versionComes_88 (by decide) ?_
  refine jx_iadd dX12_versionComes_89 ?_
  obtain ⟨c15, hf⟩ := jg_inv hf
  refine jx_iast dX12_versionComes_90 (kj_182 hE) (jin_vp c15) ?_
  obtain ⟨w16, hw16, hf⟩ := jl_inv hf
  refine jx_nw hw16 ?_
  refine jx_aload_n dX12_versionComes_91 rfl ?_
  refine jx_getr dX12_versionComes_92 fl_X12_77 (kj_162 hE) sr_162_34 ?_
  refine jx_bipush (v := 7) dX12_versionComes_95 (by decide) ?_
  refine jx_dup2 dX12_versionComes_97 rfl rfl ?_
  obtain ⟨c17, hf⟩ := jg_inv hf
  refine jx_iald dX12_versionComes_98 (kj_182 hE) (jin_vp c17) ?_
  refine jx_iconst (v := 1) dX12_versionComes_99 (by decide) ?_
  refine jx_iadd dX12_versionComes_100 ?_
  obtain ⟨c18, hf⟩ := jg_inv hf
  refine jx_iast dX12_versionComes_101 (kj_182 hE) (jin_vp c18) ?_
  obtain ⟨w19, hw19, hf⟩ := jl_inv hf
  refine jx_nw hw19 ?_
  cases hf
  exact jx_vret dX12_versionComes_102 rfl rfl
def f_X12_puts (a1 : Int32) (a2 : Int32) (w : jw) : Option (Bool × jw) := jg (jin 3 34700) ((if (w.2.1 182 (Int32.toNatClampNeg 3)) < 280 then jg (jin 0 34700) (jg (jin 0 34700) (jl (jsetX w 182 (Int32.toNatClampNeg 0) ((w.2.1 182 (Int32.toNatClampNeg 0)) + 1)) fun w5 => jbd (f_X12_versionEnds a1 w5) fun q6 => jbd (f_X12_versionComes a1 a2 q6) fun q7 => jbd (f_X12_goesDown a1 q7) fun q8 => jg (jin ((q8.1 162 36) - 1) 40) (jl (q8.2.1 183 (Int32.toNatClampNeg ((q8.1 162 36) - 1)) : Int32) fun x10 => jbd (f_X12_entryEnds x10 a1 q8) fun q11 => jbd2 (f_X12_entriesOf x10 q11) fun x13 w14 => jg (jin 1 34700) ((if (w14.2.1 182 (Int32.toNatClampNeg 1)) ≤ x13 then jl (jsetI w14 162 37 0) fun w17 => jbd (f_X12_joinsAll x10 w17) fun q18 => jg (jin 0 34700) (jbd (f_X12_joins a1 (q18.2.1 182 (Int32.toNatClampNeg 0)) a2 q18) fun q20 => jbd (f_X12_replaces ((q20.1 162 36) - 1) q20) fun q21 => some (true, q21)) else jg (jin 0 34700) (jbd (f_X12_comes x10 a1 (w14.2.1 182 (Int32.toNatClampNeg 0)) a2 w14) fun q23 => some (true, q23))))))) else some (false, w)))
set_option maxRecDepth 20000 in
set_option maxHeartbeats 2000000 in
theorem s_X12_puts {E : jE} (hE : jfull E) {a1 : Int32} {a2 : Int32} {w w' : jw} {v : Bool} (hf : f_X12_puts a1 a2 w = some (v, w')) : jC E m_X12_puts 5 [.ref (E.2.2.2 + 162), .int a1, .int a2] w (some (.int (jb v))) w' := by
  refine jC_of (ls := [(0, .ref (E.2.2.2 + 162)), (1, .int a1), (2, .int a2)]) (by decide) rfl (fun _ => trivial) (Nat.le_of_ble_eq_true rfl) rfl jb_ans ?_
  unfold f_X12_puts at hf
  refine jx_aload_n dX12_puts_0 rfl ?_
  refine jx_getr dX12_puts_1 fl_X12_77 (kj_162 hE) sr_162_34 ?_
  refine jx_iconst (v := 3) dX12_puts_4 (by decide) ?_
  obtain ⟨c1, hf⟩ := jg_inv hf
  refine jx_iald dX12_puts_5 (kj_182 hE) (jin_vp c1) ?_
  refine jx_sipush (v := 280) dX12_puts_6 (by decide) ?_
  refine jx_icmp_lt (tgt := 14) dX12_puts_9 (by decide) (fun c2 => ?_) (fun c2 => ?_)
  · rw [if_pos c2] at hf
    refine jx_aload_n dX12_puts_14 rfl ?_
    refine jx_getr dX12_puts_15 fl_X12_77 (kj_162 hE) sr_162_34 ?_
    refine jx_iconst (v := 0) dX12_puts_18 (by decide) ?_
    refine jx_dup2 dX12_puts_19 rfl rfl ?_
    obtain ⟨c3, hf⟩ := jg_inv hf
    refine jx_iald dX12_puts_20 (kj_182 hE) (jin_vp c3) ?_
    refine jx_iconst (v := 1) dX12_puts_21 (by decide) ?_
    refine jx_iadd dX12_puts_22 ?_
    obtain ⟨c4, hf⟩ := jg_inv hf
    refine jx_iast dX12_puts_23 (kj_182 hE) (jin_vp c4) ?_
    obtain ⟨w5, hw5, hf⟩ := jl_inv hf
    refine jx_nw hw5 ?_
    refine jx_aload_n dX12_puts_24 rfl ?_
    refine jx_iload_n dX12_puts_25 rfl ?_
    obtain ⟨q6, hq6, hf⟩ := jbd_inv hf
    refine jx_cVv (a := 162) (As := [.int a1]) (rest := []) dX12_puts_26 ml_X12_309 mv_X12_versionEnds (s_X12_versionEnds hE hq6) rfl rfl (jc_162 hE) (by decide) (Nat.le_of_ble_eq_true rfl) ?_
    refine jx_aload_n dX12_puts_29 rfl ?_
    refine jx_iload_n dX12_puts_30 rfl ?_
    refine jx_iload_n dX12_puts_31 rfl ?_
    obtain ⟨q7, hq7, hf⟩ := jbd_inv hf
    refine jx_cVv (a := 162) (As := [.int a1, .int a2]) (rest := []) dX12_puts_32 ml_X12_312 mv_X12_versionComes (s_X12_versionComes hE hq7) rfl rfl (jc_162 hE) (by decide) (Nat.le_of_ble_eq_true rfl) ?_
    refine jx_aload_n dX12_puts_35 rfl ?_
    refine jx_iload_n dX12_puts_36 rfl ?_
    obtain ⟨q8, hq8, hf⟩ := jbd_inv hf
    refine jx_cVv (a := 162) (As := [.int a1]) (rest := []) dX12_puts_37 ml_X12_315 mv_X12_goesDown (s_X12_goesDown hE hq8) rfl rfl (jc_162 hE) (by decide) (Nat.le_of_ble_eq_true rfl) ?_
    refine jx_aload_n dX12_puts_40 rfl ?_
    refine jx_getr dX12_puts_41 fl_X12_80 (kj_162 hE) sr_162_35 ?_
    refine jx_aload_n dX12_puts_44 rfl ?_
    refine jx_geti dX12_puts_45 fl_X12_262 (kj_162 hE) sr_162_36 ?_
    refine jx_iconst (v := 1) dX12_puts_48 (by decide) ?_
    refine jx_isub dX12_puts_49 ?_
    obtain ⟨c9, hf⟩ := jg_inv hf
    refine jx_iald dX12_puts_50 (kj_183 hE) (jin_vp c9) ?_
    obtain ⟨x10, hx10, hf⟩ := jl_inv hf
    refine jx_nm hx10 ?_
    refine jx_istore_n (ls' := [(0, .ref (E.2.2.2 + 162)), (1, .int a1), (2, .int a2), (3, .int x10)]) dX12_puts_51 (by decide) rfl ?_
    refine jx_aload_n dX12_puts_52 rfl ?_
    refine jx_iload_n dX12_puts_53 rfl ?_
    refine jx_iload_n dX12_puts_54 rfl ?_
    obtain ⟨q11, hq11, hf⟩ := jbd_inv hf
    refine jx_cVv (a := 162) (As := [.int x10, .int a1]) (rest := []) dX12_puts_55 ml_X12_318 mv_X12_entryEnds (s_X12_entryEnds hE hq11) rfl rfl (jc_162 hE) (by decide) (Nat.le_of_ble_eq_true rfl) ?_
    refine jx_aload_n dX12_puts_58 rfl ?_
    refine jx_iload_n dX12_puts_59 rfl ?_
    obtain ⟨x13, w14, hq12, hf⟩ := jbd2_inv hf
    refine jx_cVi (a := 162) (As := [.int x10]) (rest := []) dX12_puts_60 ml_X12_249 mv_X12_entriesOf (s_X12_entriesOf hE hq12) rfl rfl (jc_162 hE) (by decide) (Nat.le_of_ble_eq_true rfl) ?_
    refine jx_aload_n dX12_puts_63 rfl ?_
    refine jx_getr dX12_puts_64 fl_X12_77 (kj_162 hE) sr_162_34 ?_
    refine jx_iconst (v := 1) dX12_puts_67 (by decide) ?_
    obtain ⟨c15, hf⟩ := jg_inv hf
    refine jx_iald dX12_puts_68 (kj_182 hE) (jin_vp c15) ?_
    refine jx_icmp_ge (tgt := 87) dX12_puts_69 (by decide) (fun c16 => ?_) (fun c16 => ?_)
    · rw [if_pos c16] at hf
      refine jx_aload_n dX12_puts_87 rfl ?_
      refine jx_iconst (v := 0) dX12_puts_88 (by decide) ?_
      refine jx_puti dX12_puts_89 fp_X12_271 (kj_162 hE) sr_162_37 rfl rfl ?_
      obtain ⟨w17, hw17, hf⟩ := jl_inv hf
      refine jx_nw hw17 ?_
      refine jx_aload_n dX12_puts_92 rfl ?_
      refine jx_iload_n dX12_puts_93 rfl ?_
      obtain ⟨q18, hq18, hf⟩ := jbd_inv hf
      refine jx_cVv (a := 162) (As := [.int x10]) (rest := []) dX12_puts_94 ml_X12_294 mv_X12_joinsAll (s_X12_joinsAll hE hq18) rfl rfl (jc_162 hE) (by decide) (Nat.le_of_ble_eq_true rfl) ?_
      refine jx_aload_n dX12_puts_97 rfl ?_
      refine jx_iload_n dX12_puts_98 rfl ?_
      refine jx_aload_n dX12_puts_99 rfl ?_
      refine jx_getr dX12_puts_100 fl_X12_77 (kj_162 hE) sr_162_34 ?_
      refine jx_iconst (v := 0) dX12_puts_103 (by decide) ?_
      obtain ⟨c19, hf⟩ := jg_inv hf
      refine jx_iald dX12_puts_104 (kj_182 hE) (jin_vp c19) ?_
      refine jx_iload_n dX12_puts_105 rfl ?_
      obtain ⟨q20, hq20, hf⟩ := jbd_inv hf
      refine jx_cVv (a := 162) (As := [.int a1, .int (q18.2.1 182 (Int32.toNatClampNeg 0)), .int a2]) (rest := []) dX12_puts_106 ml_X12_274 mv_X12_joins (s_X12_joins hE hq20) rfl rfl (jc_162 hE) (by decide) (Nat.le_of_ble_eq_true rfl) ?_
      refine jx_aload_n dX12_puts_109 rfl ?_
      refine jx_aload_n dX12_puts_110 rfl ?_
      refine jx_geti dX12_puts_111 fl_X12_262 (kj_162 hE) sr_162_36 ?_
      refine jx_iconst (v := 1) dX12_puts_114 (by decide) ?_
      refine jx_isub dX12_puts_115 ?_
      obtain ⟨q21, hq21, hf⟩ := jbd_inv hf
      refine jx_cVv (a := 162) (As := [.int ((q20.1 162 36) - 1)]) (rest := []) dX12_puts_116 ml_X12_321 mv_X12_replaces (s_X12_replaces hE hq21) rfl rfl (jc_162 hE) (by decide) (Nat.le_of_ble_eq_true rfl) ?_
      refine jx_iconst (v := 1) dX12_puts_119 (by decide) ?_
      cases hf
      exact jx_iret dX12_puts_120 rfl rfl
    · rw [if_neg c16] at hf
      refine jx_aload_n dX12_puts_72 rfl ?_
      refine jx_iload_n dX12_puts_73 rfl ?_
      refine jx_iload_n dX12_puts_74 rfl ?_
      refine jx_aload_n dX12_puts_75 rfl ?_
      refine jx_getr dX12_puts_76 fl_X12_77 (kj_162 hE) sr_162_34 ?_
      refine jx_iconst (v := 0) dX12_puts_79 (by decide) ?_
      obtain ⟨c22, hf⟩ := jg_inv hf
      refine jx_iald dX12_puts_80 (kj_182 hE) (jin_vp c22) ?_
      refine jx_iload_n dX12_puts_81 rfl ?_
      obtain ⟨q23, hq23, hf⟩ := jbd_inv hf
      refine jx_cVv (a := 162) (As := [.int x10, .int a1, .int (w14.2.1 182 (Int32.toNatClampNeg 0)), .int a2]) (rest := []) dX12_puts_82 ml_X12_281 mv_X12_comes (s_X12_comes hE hq23) rfl rfl (jc_162 hE) (by decide) (Nat.le_of_ble_eq_true rfl) ?_
      refine jx_iconst (v := 1) dX12_puts_85 (by decide) ?_
      cases hf
      exact jx_iret dX12_puts_86 rfl rfl
  · rw [if_neg c2] at hf
    refine jx_iconst (v := 0) dX12_puts_12 (by decide) ?_
    cases hf
    exact jx_iret dX12_puts_13 rfl rfl
def l_X12_termOf : Nat → Int32 → Int32 → Int32 → Int32 → jw → Option (Int32 × jw)
  | 0, _, _, _, _, _ => none
  | n + 1, b1, b2, b3, b4, w => (if b2 ≤ b4 then jg (jin 0 400) (some (w.2.1 180 (Int32.toNatClampNeg 0), w)) else jg (jin b4 420) (jl (w.2.1 176 (Int32.toNatClampNeg b4) : Int32) fun x4 => (if 2 ≤ x4 then jl (b3 + (-1)) fun x6 => jg (jin (x6 - 1) 400) (jl (w.2.1 180 (Int32.toNatClampNeg (x6 - 1)) : Int32) fun x8 => jg (jin x6 400) (jl (w.2.1 180 (Int32.toNatClampNeg x6) : Int32) fun x10 => (if x4 ≤ 4 then (if x4 = 2 then jg (jin (x6 - 1) 400) (jl (jsetX w 180 (Int32.toNatClampNeg (x6 - 1)) (x8 + x10)) fun w21 => jl (b4 + 1) fun x22 => (l_X12_termOf n b1 b2 x6 x22 w21)) else (if x4 = 3 then jg (jin (x6 - 1) 400) (jl (jsetX w 180 (Int32.toNatClampNeg (x6 - 1)) (x8 - x10)) fun w18 => jl (b4 + 1) fun x19 => (l_X12_termOf n b1 b2 x6 x19 w18)) else jg (jin (x6 - 1) 400) (jl (jsetX w 180 (Int32.toNatClampNeg (x6 - 1)) (x8 * x10)) fun w15 => jl (b4 + 1) fun x16 => (l_X12_termOf n b1 b2 x6 x16 w15)))) else (if x10 = 0 then jg (jin (x6 - 1) 400) (jl (jsetX w 180 (Int32.toNatClampNeg (x6 - 1)) 0) fun w34 => jl (b4 + 1) fun x35 => (l_X12_termOf n b1 b2 x6 x35 w34)) else (if x4 = 5 then jg (decide (¬ x10 = 0)) (jg (jin (x6 - 1) 400) (jl (jsetX w 180 (Int32.toNatClampNeg (x6 - 1)) (x8 / x10)) fun w31 => jl (b4 + 1) fun x32 => (l_X12_termOf n b1 b2 x6 x32 w31))) else jg (decide (¬ x10 = 0)) (jg (jin (x6 - 1) 400) (jl (jsetX w 180 (Int32.toNatClampNeg (x6 - 1)) (x8 - x8 / x10 * x10)) fun w27 => jl (b4 + 1) fun x28 => (l_X12_termOf n b1 b2 x6 x28 w27)))))))) else (if x4 = 0 then jg (jin b4 420) (jg (jin b3 400) (jl (jsetX w 180 (Int32.toNatClampNeg b3) (w.2.1 177 (Int32.toNatClampNeg b4))) fun w45 => jl (b3 + 1) fun x46 => jl (b4 + 1) fun x47 => (l_X12_termOf n b1 b2 x46 x47 w45))) else jg (jin b4 420) (jg (jin (w.2.1 177 (Int32.toNatClampNeg b4)) 6) (jg (jin b3 400) (jl (jsetX w 180 (Int32.toNatClampNeg b3) (w.2.1 179 (Int32.toNatClampNeg (w.2.1 177 (Int32.toNatClampNeg b4))))) fun w40 => jl (b3 + 1) fun x41 => jl (b4 + 1) fun x42 => (l_X12_termOf n b1 b2 x41 x42 w40))))))))
set_option maxRecDepth 20000 in
set_option maxHeartbeats 2000000 in
theorem sl_X12_termOf {E : jE} (hE : jfull E) : ∀ (n : Nat) (b1 : Int32) (b2 : Int32) (b3 : Int32) (b4 : Int32) (w : jw) (v : Int32) (w' : jw), l_X12_termOf n b1 b2 b3 b4 w = some (v, w') → jX E m_X12_termOf 0 5 [(0, .ref (E.2.2.2 + 162)), (1, .int b1), (2, .int b2), (3, .int b3), (4, .int b4)] [] w (some (.int v)) w' := by
  intro n
  induction n with
  | zero => intro b1 b2 b3 b4 w v w' hf; cases hf
  | succ n ih =>
    intro b1 b2 b3 b4 w v w' hf
    unfold l_X12_termOf at hf
    refine jx_iload dX12_termOf_5 rfl ?_
    refine jx_iload_n dX12_termOf_7 rfl ?_
    refine jx_icmp_ge (tgt := 178) dX12_termOf_8 (by decide) (fun c1 => ?_) (fun c1 => ?_)
    · rw [if_pos c1] at hf
      refine jx_aload_n dX12_termOf_178 rfl ?_
      refine jx_getr dX12_termOf_179 fl_X12_70 (kj_162 hE) sr_162_32 ?_
      refine jx_iconst (v := 0) dX12_termOf_182 (by decide) ?_
      obtain ⟨c2, hf⟩ := jg_inv hf
      refine jx_iald dX12_termOf_183 (kj_180 hE) (jin_vp c2) ?_
      cases hf
      exact jx_iret dX12_termOf_184 rfl rfl
    · rw [if_neg c1] at hf
      refine jx_aload_n dX12_termOf_11 rfl ?_
      refine jx_getr dX12_termOf_12 fl_X12_58 (kj_162 hE) sr_162_27 ?_
      refine jx_iload dX12_termOf_15 rfl ?_
      obtain ⟨c3, hf⟩ := jg_inv hf
      refine jx_iald dX12_termOf_17 (kj_176 hE) (jin_vp c3) ?_
      obtain ⟨x4, hx4, hf⟩ := jl_inv hf
      refine jx_nm hx4 ?_
      refine jx_istore (ls' := [(0, .ref (E.2.2.2 + 162)), (1, .int b1), (2, .int b2), (3, .int b3), (4, .int b4), (5, .int x4)]) dX12_termOf_18 (by decide) rfl ?_
      refine jx_iload dX12_termOf_20 rfl ?_
      refine jx_iconst (v := 2) dX12_termOf_22 (by decide) ?_
      refine jx_icmp_ge (tgt := 65) dX12_termOf_23 (by decide) (fun c5 => ?_) (fun c5 => ?_)
      · rw [if_pos c5] at hf
        obtain ⟨x6, hx6, hf⟩ := jl_inv hf
        refine jx_iinc (v := x6) (ls' := [(0, .ref (E.2.2.2 + 162)), (1, .int b1), (2, .int b2), (3, .int x6), (4, .int b4), (5, .int x4)]) dX12_termOf_65 rfl (by rw [hx6]; rfl) (by decide) rfl ?_
        refine jx_aload_n dX12_termOf_68 rfl ?_
        refine jx_getr dX12_termOf_69 fl_X12_70 (kj_162 hE) sr_162_32 ?_
        refine jx_iload_n dX12_termOf_72 rfl ?_
        refine jx_iconst (v := 1) dX12_termOf_73 (by decide) ?_
        refine jx_isub dX12_termOf_74 ?_
        obtain ⟨c7, hf⟩ := jg_inv hf
        refine jx_iald dX12_termOf_75 (kj_180 hE) (jin_vp c7) ?_
        obtain ⟨x8, hx8, hf⟩ := jl_inv hf
        refine jx_nm hx8 ?_
        refine jx_istore (ls' := [(0, .ref (E.2.2.2 + 162)), (1, .int b1), (2, .int b2), (3, .int x6), (4, .int b4), (5, .int x4), (6, .int x8)]) dX12_termOf_76 (by decide) rfl ?_
        refine jx_aload_n dX12_termOf_78 rfl ?_
        refine jx_getr dX12_termOf_79 fl_X12_70 (kj_162 hE) sr_162_32 ?_
        refine jx_iload_n dX12_termOf_82 rfl ?_
        obtain ⟨c9, hf⟩ := jg_inv hf
        refine jx_iald dX12_termOf_83 (kj_180 hE) (jin_vp c9) ?_
        obtain ⟨x10, hx10, hf⟩ := jl_inv hf
        refine jx_nm hx10 ?_
        refine jx_istore (ls' := [(0, .ref (E.2.2.2 + 162)), (1, .int b1), (2, .int b2), (3, .int x6), (4, .int b4), (5, .int x4), (6, .int x8), (7, .int x10)]) dX12_termOf_84 (by decide) rfl ?_
        refine jx_iload dX12_termOf_86 rfl ?_
        refine jx_iconst (v := 4) dX12_termOf_88 (by decide) ?_
        refine jx_icmp_le (tgt := 131) dX12_termOf_89 (by decide) (fun c11 => ?_) (fun c11 => ?_)
        · rw [if_pos c11] at hf
          refine jx_aload_n dX12_termOf_131 rfl ?_
          refine jx_getr dX12_termOf_132 fl_X12_70 (kj_162 hE) sr_162_32 ?_
          refine jx_iload_n dX12_termOf_135 rfl ?_
          refine jx_iconst (v := 1) dX12_termOf_136 (by decide) ?_
          refine jx_isub dX12_termOf_137 ?_
          refine jx_iload dX12_termOf_138 rfl ?_
          refine jx_iconst (v := 2) dX12_termOf_140 (by decide) ?_
          refine jx_icmp_ne (tgt := 152) dX12_termOf_141 (by decide) (fun c12 => ?_) (fun c12 => ?_)
          · rw [if_neg c12] at hf
            refine jx_iload dX12_termOf_152 rfl ?_
            refine jx_iconst (v := 3) dX12_termOf_154 (by decide) ?_
            refine jx_icmp_ne (tgt := 166) dX12_termOf_155 (by decide) (fun c13 => ?_) (fun c13 => ?_)
            · rw [if_neg c13] at hf
              refine jx_iload dX12_termOf_166 rfl ?_
              refine jx_iload dX12_termOf_168 rfl ?_
              refine jx_imul dX12_termOf_170 ?_
              obtain ⟨c14, hf⟩ := jg_inv hf
              refine jx_iast dX12_termOf_171 (kj_180 hE) (jin_vp c14) ?_
              obtain ⟨w15, hw15, hf⟩ := jl_inv hf
              refine jx_nw hw15 ?_
              obtain ⟨x16, hx16, hf⟩ := jl_inv hf
              refine jx_iinc (v := x16) (ls' := [(0, .ref (E.2.2.2 + 162)), (1, .int b1), (2, .int b2), (3, .int x6), (4, .int x16), (5, .int x4), (6, .int x8), (7, .int x10)]) dX12_termOf_172 rfl (by rw [hx16]; rfl) (by decide) rfl ?_
              refine jx_goto (tgt := 5) dX12_termOf_175 (by decide) ?_
              refine jx_pick [0, 1, 2, 3, 4] rfl ?_
              exact ih _ _ _ _ _ _ _ hf
            · rw [if_pos c13] at hf
              refine jx_iload dX12_termOf_158 rfl ?_
              refine jx_iload dX12_termOf_160 rfl ?_
              refine jx_isub dX12_termOf_162 ?_
              refine jx_goto (tgt := 171) dX12_termOf_163 (by decide) ?_
              obtain ⟨c17, hf⟩ := jg_inv hf
              refine jx_iast dX12_termOf_171 (kj_180 hE) (jin_vp c17) ?_
              obtain ⟨w18, hw18, hf⟩ := jl_inv hf
              refine jx_nw hw18 ?_
              obtain ⟨x19, hx19, hf⟩ := jl_inv hf
              refine jx_iinc (v := x19) (ls' := [(0, .ref (E.2.2.2 + 162)), (1, .int b1), (2, .int b2), (3, .int x6), (4, .int x19), (5, .int x4), (6, .int x8), (7, .int x10)]) dX12_termOf_172 rfl (by rw [hx19]; rfl) (by decide) rfl ?_
              refine jx_goto (tgt := 5) dX12_termOf_175 (by decide) ?_
              refine jx_pick [0, 1, 2, 3, 4] rfl ?_
              exact ih _ _ _ _ _ _ _ hf
          · rw [if_pos c12] at hf
            refine jx_iload dX12_termOf_144 rfl ?_
            refine jx_iload dX12_termOf_146 rfl ?_
            refine jx_iadd dX12_termOf_148 ?_
            refine jx_goto (tgt := 171) dX12_termOf_149 (by decide) ?_
            obtain ⟨c20, hf⟩ := jg_inv hf
            refine jx_iast dX12_termOf_171 (kj_180 hE) (jin_vp c20) ?_
            obtain ⟨w21, hw21, hf⟩ := jl_inv hf
            refine jx_nw hw21 ?_
            obtain ⟨x22, hx22, hf⟩ := jl_inv hf
            refine jx_iinc (v := x22) (ls' := [(0, .ref (E.2.2.2 + 162)), (1, .int b1), (2, .int b2), (3, .int x6), (4, .int x22), (5, .int x4), (6, .int x8), (7, .int x10)]) dX12_termOf_172 rfl (by rw [hx22]; rfl) (by decide) rfl ?_
            refine jx_goto (tgt := 5) dX12_termOf_175 (by decide) ?_
            refine jx_pick [0, 1, 2, 3, 4] rfl ?_
            exact ih _ _ _ _ _ _ _ hf
        · rw [if_neg c11] at hf
          refine jx_aload_n dX12_termOf_92 rfl ?_
          refine jx_getr dX12_termOf_93 fl_X12_70 (kj_162 hE) sr_162_32 ?_
          refine jx_iload_n dX12_termOf_96 rfl ?_
          refine jx_iconst (v := 1) dX12_termOf_97 (by decide) ?_
          refine jx_isub dX12_termOf_98 ?_
          refine jx_iload dX12_termOf_99 rfl ?_
          refine jx_if_ne (tgt := 108) dX12_termOf_101 (by decide) (fun c23 => ?_) (fun c23 => ?_)
          · rw [if_neg c23] at hf
            refine jx_iload dX12_termOf_108 rfl ?_
            refine jx_iconst (v := 5) dX12_termOf_110 (by decide) ?_
            refine jx_icmp_ne (tgt := 122) dX12_termOf_111 (by decide) (fun c24 => ?_) (fun c24 => ?_)
            · rw [if_neg c24] at hf
              refine jx_iload dX12_termOf_122 rfl ?_
              refine jx_iload dX12_termOf_124 rfl ?_
              obtain ⟨c25, hf⟩ := jg_inv hf
              refine jx_irem dX12_termOf_126 (of_decide_eq_true c25) ?_
              obtain ⟨c26, hf⟩ := jg_inv hf
              refine jx_iast dX12_termOf_127 (kj_180 hE) (jin_vp c26) ?_
              obtain ⟨w27, hw27, hf⟩ := jl_inv hf
              refine jx_nw hw27 ?_
              refine jx_goto (tgt := 172) dX12_termOf_128 (by decide) ?_
              obtain ⟨x28, hx28, hf⟩ := jl_inv hf
              refine jx_iinc (v := x28) (ls' := [(0, .ref (E.2.2.2 + 162)), (1, .int b1), (2, .int b2), (3, .int x6), (4, .int x28), (5, .int x4), (6, .int x8), (7, .int x10)]) dX12_termOf_172 rfl (by rw [hx28]; rfl) (by decide) rfl ?_
              refine jx_goto (tgt := 5) dX12_termOf_175 (by decide) ?_
              refine jx_pick [0, 1, 2, 3, 4] rfl ?_
              exact ih _ _ _ _ _ _ _ hf
            · rw [if_pos c24] at hf
              refine jx_iload dX12_termOf_114 rfl ?_
              refine jx_iload dX12_termOf_116 rfl ?_
              obtain ⟨c29, hf⟩ := jg_inv hf
              refine jx_idiv dX12_termOf_118 (of_decide_eq_true c29) ?_
              refine jx_goto (tgt := 127) dX12_termOf_119 (by decide) ?_
              obtain ⟨c30, hf⟩ := jg_inv hf
              refine jx_iast dX12_termOf_127 (kj_180 hE) (jin_vp c30) ?_
              obtain ⟨w31, hw31, hf⟩ := jl_inv hf
              refine jx_nw hw31 ?_
              refine jx_goto (tgt := 172) dX12_termOf_128 (by decide) ?_
              obtain ⟨x32, hx32, hf⟩ := jl_inv hf
              refine jx_iinc (v := x32) (ls' := [(0, .ref (E.2.2.2 + 162)), (1, .int b1), (2, .int b2), (3, .int x6), (4, .int x32), (5, .int x4), (6, .int x8), (7, .int x10)]) dX12_termOf_172 rfl (by rw [hx32]; rfl) (by decide) rfl ?_
              refine jx_goto (tgt := 5) dX12_termOf_175 (by decide) ?_
              refine jx_pick [0, 1, 2, 3, 4] rfl ?_
              exact ih _ _ _ _ _ _ _ hf
          · rw [if_pos c23] at hf
            refine jx_iconst (v := 0) dX12_termOf_104 (by decide) ?_
            refine jx_goto (tgt := 127) dX12_termOf_105 (by decide) ?_
            obtain ⟨c33, hf⟩ := jg_inv hf
            refine jx_iast dX12_termOf_127 (kj_180 hE) (jin_vp c33) ?_
            obtain ⟨w34, hw34, hf⟩ := jl_inv hf
            refine jx_nw hw34 ?_
            refine jx_goto (tgt := 172) dX12_termOf_128 (by decide) ?_
            obtain ⟨x35, hx35, hf⟩ := jl_inv hf
            refine jx_iinc (v := x35) (ls' := [(0, .ref (E.2.2.2 + 162)), (1, .int b1), (2, .int b2), (3, .int x6), (4, .int x35), (5, .int x4), (6, .int x8), (7, .int x10)]) dX12_termOf_172 rfl (by rw [hx35]; rfl) (by decide) rfl ?_
            refine jx_goto (tgt := 5) dX12_termOf_175 (by decide) ?_
            refine jx_pick [0, 1, 2, 3, 4] rfl ?_
            exact ih _ _ _ _ _ _ _ hf
      · rw [if_neg c5] at hf
        refine jx_aload_n dX12_termOf_26 rfl ?_
        refine jx_getr dX12_termOf_27 fl_X12_70 (kj_162 hE) sr_162_32 ?_
        refine jx_iload_n dX12_termOf_30 rfl ?_
        refine jx_iload dX12_termOf_31 rfl ?_
        refine jx_if_ne (tgt := 46) dX12_termOf_33 (by decide) (fun c36 => ?_) (fun c36 => ?_)
        · rw [if_neg c36] at hf
          refine jx_aload_n dX12_termOf_46 rfl ?_
          refine jx_getr dX12_termOf_47 fl_X12_67 (kj_162 hE) sr_162_31 ?_
          refine jx_aload_n dX12_termOf_50 rfl ?_
          refine jx_getr dX12_termOf_51 fl_X12_61 (kj_162 hE) sr_162_28 ?_
          refine jx_iload dX12_termOf_54 rfl ?_
          obtain ⟨c37, hf⟩ := jg_inv hf
          refine jx_iald dX12_termOf_56 (kj_177 hE) (jin_vp c37) ?_
          obtain ⟨c38, hf⟩ := jg_inv hf
          refine jx_iald dX12_termOf_57 (kj_179 hE) (jin_vp c38) ?_
          obtain ⟨c39, hf⟩ := jg_inv hf
          refine jx_iast dX12_termOf_58 (kj_180 hE) (jin_vp c39) ?_
          obtain ⟨w40, hw40, hf⟩ := jl_inv hf
          refine jx_nw hw40 ?_
          obtain ⟨x41, hx41, hf⟩ := jl_inv hf
          refine jx_iinc (v := x41) (ls' := [(0, .ref (E.2.2.2 + 162)), (1, .int b1), (2, .int b2), (3, .int x41), (4, .int b4), (5, .int x4)]) dX12_termOf_59 rfl (by rw [hx41]; rfl) (by decide) rfl ?_
          refine jx_goto (tgt := 172) dX12_termOf_62 (by decide) ?_
          obtain ⟨x42, hx42, hf⟩ := jl_inv hf
          refine jx_iinc (v := x42) (ls' := [(0, .ref (E.2.2.2 + 162)), (1, .int b1), (2, .int b2), (3, .int x41), (4, .int x42), (5, .int x4)]) dX12_termOf_172 rfl (by rw [hx42]; rfl) (by decide) rfl ?_
          refine jx_goto (tgt := 5) dX12_termOf_175 (by decide) ?_
          refine jx_pick [0, 1, 2, 3, 4] rfl ?_
          exact ih _ _ _ _ _ _ _ hf
        · rw [if_pos c36] at hf
          refine jx_aload_n dX12_termOf_36 rfl ?_
          refine jx_getr dX12_termOf_37 fl_X12_61 (kj_162 hE) sr_162_28 ?_
          refine jx_iload dX12_termOf_40 rfl ?_
          obtain ⟨c43, hf⟩ := jg_inv hf
          refine jx_iald dX12_termOf_42 (kj_177 hE) (jin_vp c43) ?_
          refine jx_goto (tgt := 58) dX12_termOf_43 (by decide) ?_
          obtain ⟨c44, hf⟩ := jg_inv hf
          refine jx_iast dX12_termOf_58 (kj_180 hE) (jin_vp c44) ?_
          obtain ⟨w45, hw45, hf⟩ := jl_inv hf
          refine jx_nw hw45 ?_
          obtain ⟨x46, hx46, hf⟩ := jl_inv hf
          refine jx_iinc (v := x46) (ls' := [(0, .ref (E.2.2.2 + 162)), (1, .int b1), (2, .int b2), (3, .int x46), (4, .int b4), (5, .int x4)]) dX12_termOf_59 rfl (by rw [hx46]; rfl) (by decide) rfl ?_
          refine jx_goto (tgt := 172) dX12_termOf_62 (by decide) ?_
          obtain ⟨x47, hx47, hf⟩ := jl_inv hf
          refine jx_iinc (v := x47) (ls' := [(0, .ref (E.2.2.2 + 162)), (1, .int b1), (2, .int b2), (3, .int x46), (4, .int x47), (5, .int x4)]) dX12_termOf_172 rfl (by rw [hx47]; rfl) (by decide) rfl ?_
          refine jx_goto (tgt := 5) dX12_termOf_175 (by decide) ?_
          refine jx_pick [0, 1, 2, 3, 4] rfl ?_
          exact ih _ _ _ _ _ _ _ hf
def f_X12_termOf (a1 : Int32) (a2 : Int32) (w : jw) : Option (Int32 × jw) := (l_X12_termOf jfu a1 a2 0 a1 w)
set_option maxRecDepth 20000 in
set_option maxHeartbeats 2000000 in
theorem s_X12_termOf {E : jE} (hE : jfull E) {a1 : Int32} {a2 : Int32} {w w' : jw} {v : Int32} (hf : f_X12_termOf a1 a2 w = some (v, w')) : jC E m_X12_termOf 0 [.ref (E.2.2.2 + 162), .int a1, .int a2] w (some (.int v)) w' := by
  refine jC_of (ls := [(0, .ref (E.2.2.2 + 162)), (1, .int a1), (2, .int a2)]) (by decide) rfl (fun _ => trivial) (Nat.le_of_ble_eq_true rfl) rfl ⟨.int, rfl, rfl⟩ ?_
  unfold f_X12_termOf at hf
  refine jx_iconst (v := 0) dX12_termOf_0 (by decide) ?_
  refine jx_istore_n (ls' := [(0, .ref (E.2.2.2 + 162)), (1, .int a1), (2, .int a2), (3, .int 0)]) dX12_termOf_1 (by decide) rfl ?_
  refine jx_iload_n dX12_termOf_2 rfl ?_
  refine jx_istore (ls' := [(0, .ref (E.2.2.2 + 162)), (1, .int a1), (2, .int a2), (3, .int 0), (4, .int a1)]) dX12_termOf_3 (by decide) rfl ?_
  exact sl_X12_termOf hE jfu _ _ _ _ _ _ _ hf
