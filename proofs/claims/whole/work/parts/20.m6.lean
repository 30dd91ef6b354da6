def f_X12_page (a1 : Int32) (a2 : Int32) (w : jw) : Option (Int32 × jw) := jg (jin 3 34700) (jbd2 (f_X12_in a1 0 ((w.2.1 182 (Int32.toNatClampNeg 3)) - 1) w) fun x3 w4 => (if (jb x3) = 0 then some ((-1), w4) else jbd2 (f_X12_in a2 0 4 w4) fun x7 w8 => (if (jb x7) = 0 then some ((-1), w8) else (if a2.toInt = 0 then jg (jin (1410 + (4 * a1)) 34700) (some (w8.2.1 182 (Int32.toNatClampNeg (1410 + (4 * a1))), w8)) else (if a2.toInt = 1 then jbd2 (f_X12_entriesOf a1 w8) fun x14 w15 => some (x14, w15) else (if a2.toInt = 2 then jbd2 (f_X12_livingIn a1 w8) fun x18 w19 => some (x18, w19) else jg (jin (((1410 + (4 * a1)) + a2) - 1) 34700) (some (w8.2.1 182 (Int32.toNatClampNeg (((1410 + (4 * a1)) + a2) - 1)), w8))))))))
set_option maxRecDepth 20000 in
set_option maxHeartbeats 2000000 in
theorem s_X12_page {E : jE} (hE : jfull E) {a1 : Int32} {a2 : Int32} {w w' : jw} {v : Int32} (hf : f_X12_page a1 a2 w = some (v, w')) : jC E m_X12_page 2 [.ref (E.2.2.2 + 162), .int a1, .int a2] w (some (.int v)) w' := by
  refine jC_of (ls := [(0, .ref (E.2.2.2 + 162)), (1, .int a1), (2, .int a2)]) (by decide) rfl (fun _ => trivial) (Nat.le_of_ble_eq_true rfl) rfl ⟨.int, rfl, rfl⟩ ?_
  unfold f_X12_page at hf
  refine jx_iload_n dX12_page_0 rfl ?_
  refine jx_iconst (v := 0) dX12_page_1 (by decide) ?_
  refine jx_aload_n dX12_page_2 rfl ?_
  refine jx_getr dX12_page_3 fl_X12_77 (kj_162 hE) sr_162_34 ?_
  refine jx_iconst (v := 3) dX12_page_6 (by decide) ?_
  obtain ⟨c1, hf⟩ := jg_inv hf
  refine jx_iald dX12_page_7 (kj_182 hE) (jin_vp c1) ?_
  refine jx_iconst (v := 1) dX12_page_8 (by decide) ?_
  refine jx_isub dX12_page_9 ?_
  obtain ⟨x3, w4, hq2, hf⟩ := jbd2_inv hf
  refine jx_cSi (As := [.int a1, .int 0, .int ((w.2.1 182 (Int32.toNatClampNeg 3)) - 1)]) (rest := []) dX12_page_10 ml_X12_324 ms_X12_in (s_X12_in hE hq2) rfl rfl rfl (by decide) (Nat.le_of_ble_eq_true rfl) ?_
  refine jx_if_eq (tgt := 25) dX12_page_13 (by decide) (fun c5 => ?_) (fun c5 => ?_)
  · rw [if_pos c5] at hf
    refine jx_iconst (v := (-1)) dX12_page_25 (by decide) ?_
    cases hf
    exact jx_iret dX12_page_26 rfl rfl
  · rw [if_neg c5] at hf
    refine jx_iload_n dX12_page_16 rfl ?_
    refine jx_iconst (v := 0) dX12_page_17 (by decide) ?_
    refine jx_iconst (v := 4) dX12_page_18 (by decide) ?_
    obtain ⟨x7, w8, hq6, hf⟩ := jbd2_inv hf
    refine jx_cSi (As := [.int a2, .int 0, .int 4]) (rest := []) dX12_page_19 ml_X12_324 ms_X12_in (s_X12_in hE hq6) rfl rfl rfl (by decide) (Nat.le_of_ble_eq_true rfl) ?_
    refine jx_if_ne (tgt := 27) dX12_page_22 (by decide) (fun c9 => ?_) (fun c9 => ?_)
    · rw [if_neg c9] at hf
      refine jx_iload_n dX12_page_27 rfl ?_
      by_cases c10 : a2.toInt = 0
      · rw [if_pos c10] at hf
        refine jx_tableIn (off := 28) (tgt := 56) dX12_page_28 (by omega) (by omega) (by rw [c10]; rfl) (by decide) ?_
        refine jx_aload_n dX12_page_56 rfl ?_
        refine jx_getr dX12_page_57 fl_X12_77 (kj_162 hE) sr_162_34 ?_
        refine jx_sipush (v := 1410) dX12_page_60 (by decide) ?_
        refine jx_iconst (v := 4) dX12_page_63 (by decide) ?_
        refine jx_iload_n dX12_page_64 rfl ?_
        refine jx_imul dX12_page_65 ?_
        refine jx_iadd dX12_page_66 ?_
        obtain ⟨c11, hf⟩ := jg_inv hf
        refine jx_iald dX12_page_67 (kj_182 hE) (jin_vp c11) ?_
        cases hf
        exact jx_iret dX12_page_68 rfl rfl
      rw [if_neg c10] at hf
      by_cases c12 : a2.toInt = 1
      · rw [if_pos c12] at hf
        refine jx_tableIn (off := 41) (tgt := 69) dX12_page_28 (by omega) (by omega) (by rw [c12]; rfl) (by decide) ?_
        refine jx_aload_n dX12_page_69 rfl ?_
        refine jx_iload_n dX12_page_70 rfl ?_
        obtain ⟨x14, w15, hq13, hf⟩ := jbd2_inv hf
        refine jx_cVi (a := 162) (As := [.int a1]) (rest := []) dX12_page_71 ml_X12_249 mv_X12_entriesOf (s_X12_entriesOf hE hq13) rfl rfl (jc_162 hE) (by decide) (Nat.le_of_ble_eq_true rfl) ?_
        cases hf
        exact jx_iret dX12_page_74 rfl rfl
      rw [if_neg c12] at hf
      by_cases c16 : a2.toInt = 2
      · rw [if_pos c16] at hf
        refine jx_tableIn (off := 47) (tgt := 75) dX12_page_28 (by omega) (by omega) (by rw [c16]; rfl) (by decide) ?_
        refine jx_aload_n dX12_page_75 rfl ?_
        refine jx_iload_n dX12_page_76 rfl ?_
        obtain ⟨x18, w19, hq17, hf⟩ := jbd2_inv hf
        refine jx_cVi (a := 162) (As := [.int a1]) (rest := []) dX12_page_77 ml_X12_306 mv_X12_livingIn (s_X12_livingIn hE hq17) rfl rfl (jc_162 hE) (by decide) (Nat.le_of_ble_eq_true rfl) ?_
        cases hf
        exact jx_iret dX12_page_80 rfl rfl
      rw [if_neg c16] at hf
      refine jx_tableOut (tgt := 81) dX12_page_28 (by omega) (by decide) ?_
      refine jx_aload_n dX12_page_81 rfl ?_
      refine jx_getr dX12_page_82 fl_X12_77 (kj_162 hE) sr_162_34 ?_
      refine jx_sipush (v := 1410) dX12_page_85 (by decide) ?_
      refine jx_iconst (v := 4) dX12_page_88 (by decide) ?_
      refine jx_iload_n dX12_page_89 rfl ?_
      refine jx_imul dX12_page_90 ?_
      refine jx_iadd dX12_page_91 ?_
      refine jx_iload_n dX12_page_92 rfl ?_
      refine jx_iadd dX12_page_93 ?_
      refine jx_iconst (v := 1) dX12_page_94 (by decide) ?_
      refine jx_isub dX12_page_95 ?_
      obtain ⟨c20, hf⟩ := jg_inv hf
      refine jx_iald dX12_page_96 (kj_182 hE) (jin_vp c20) ?_
      cases hf
      exact jx_iret dX12_page_97 rfl rfl
    · rw [if_pos c9] at hf
      refine jx_iconst (v := (-1)) dX12_page_25 (by decide) ?_
      cases hf
      exact jx_iret dX12_page_26 rfl rfl
def f_X12_entry (a1 : Int32) (a2 : Int32) (a3 : Int32) (w : jw) : Option (Int32 × jw) := jg (jin 3 34700) (jbd2 (f_X12_in a1 0 ((w.2.1 182 (Int32.toNatClampNeg 3)) - 1) w) fun x3 w4 => (if (jb x3) = 0 then some ((-1000), w4) else jbd2 (f_X12_entriesOf a1 w4) fun x7 w8 => jbd2 (f_X12_in a2 0 (x7 - 1) w8) fun x10 w11 => (if (jb x10) = 0 then some ((-1000), w11) else jbd2 (f_X12_in a3 0 3 w11) fun x14 w15 => (if (jb x14) = 0 then some ((-1000), w15) else jbd2 (f_X12_entryAt a1 a2 w15) fun x18 w19 => jg (jin (x18 + a3) 34700) (some (w19.2.1 182 (Int32.toNatClampNeg (x18 + a3)), w19))))))
set_option maxRecDepth 20000 in
set_option maxHeartbeats 2000000 in
theorem s_X12_entry {E : jE} (hE : jfull E) {a1 : Int32} {a2 : Int32} {a3 : Int32} {w w' : jw} {v : Int32} (hf : f_X12_entry a1 a2 a3 w = some (v, w')) : jC E m_X12_entry 1 [.ref (E.2.2.2 + 162), .int a1, .int a2, .int a3] w (some (.int v)) w' := by
  refine jC_of (ls := [(0, .ref (E.2.2.2 + 162)), (1, .int a1), (2, .int a2), (3, .int a3)]) (by decide) rfl (fun _ => trivial) (Nat.le_of_ble_eq_true rfl) rfl ⟨.int, rfl, rfl⟩ ?_
  unfold f_X12_entry at hf
  refine jx_iload_n dX12_entry_0 rfl ?_
  refine jx_iconst (v := 0) dX12_entry_1 (by decide) ?_
  refine jx_aload_n dX12_entry_2 rfl ?_
  refine jx_getr dX12_entry_3 fl_X12_77 (kj_162 hE) sr_162_34 ?_
  refine jx_iconst (v := 3) dX12_entry_6 (by decide) ?_
  obtain ⟨c1, hf⟩ := jg_inv hf
  refine jx_iald dX12_entry_7 (kj_182 hE) (jin_vp c1) ?_
  refine jx_iconst (v := 1) dX12_entry_8 (by decide) ?_
  refine jx_isub dX12_entry_9 ?_
  obtain ⟨x3, w4, hq2, hf⟩ := jbd2_inv hf
  refine jx_cSi (As := [.int a1, .int 0, .int ((w.2.1 182 (Int32.toNatClampNeg 3)) - 1)]) (rest := []) dX12_entry_10 ml_X12_324 ms_X12_in (s_X12_in hE hq2) rfl rfl rfl (by decide) (Nat.le_of_ble_eq_true rfl) ?_
  refine jx_if_eq (tgt := 40) dX12_entry_13 (by decide) (fun c5 => ?_) (fun c5 => ?_)
  · rw [if_pos c5] at hf
    refine jx_sipush (v := (-1000)) dX12_entry_40 (by decide) ?_
    cases hf
    exact jx_iret dX12_entry_43 rfl rfl
  · rw [if_neg c5] at hf
    refine jx_iload_n dX12_entry_16 rfl ?_
    refine jx_iconst (v := 0) dX12_entry_17 (by decide) ?_
    refine jx_aload_n dX12_entry_18 rfl ?_
    refine jx_iload_n dX12_entry_19 rfl ?_
    obtain ⟨x7, w8, hq6, hf⟩ := jbd2_inv hf
    refine jx_cVi (a := 162) (As := [.int a1]) (rest := [.int 0, .int a2]) dX12_entry_20 ml_X12_249 mv_X12_entriesOf (s_X12_entriesOf hE hq6) rfl rfl (jc_162 hE) (by decide) (Nat.le_of_ble_eq_true rfl) ?_
    refine jx_iconst (v := 1) dX12_entry_23 (by decide) ?_
    refine jx_isub dX12_entry_24 ?_
    obtain ⟨x10, w11, hq9, hf⟩ := jbd2_inv hf
    refine jx_cSi (As := [.int a2, .int 0, .int (x7 - 1)]) (rest := []) dX12_entry_25 ml_X12_324 ms_X12_in (s_X12_in hE hq9) rfl rfl rfl (by decide) (Nat.le_of_ble_eq_true rfl) ?_
    refine jx_if_eq (tgt := 40) dX12_entry_28 (by decide) (fun c12 => ?_) (fun c12 => ?_)
    · rw [if_pos c12] at hf
      refine jx_sipush (v := (-1000)) dX12_entry_40 (by decide) ?_
      cases hf
      exact jx_iret dX12_entry_43 rfl rfl
    · rw [if_neg c12] at hf
      refine jx_iload_n dX12_entry_31 rfl ?_
      refine jx_iconst (v := 0) dX12_entry_32 (by decide) ?_
      refine jx_iconst (v := 3) dX12_entry_33 (by decide) ?_
      obtain ⟨x14, w15, hq13, hf⟩ := jbd2_inv hf
      refine jx_cSi (As := [.int a3, .int 0, .int 3]) (rest := []) dX12_entry_34 ml_X12_324 ms_X12_in (s_X12_in hE hq13) rfl rfl rfl (by decide) (Nat.le_of_ble_eq_true rfl) ?_
      refine jx_if_ne (tgt := 44) dX12_entry_37 (by decide) (fun c16 => ?_) (fun c16 => ?_)
      · rw [if_neg c16] at hf
        refine jx_aload_n dX12_entry_44 rfl ?_
        refine jx_getr dX12_entry_45 fl_X12_77 (kj_162 hE) sr_162_34 ?_
        refine jx_iload_n dX12_entry_48 rfl ?_
        refine jx_iload_n dX12_entry_49 rfl ?_
        obtain ⟨x18, w19, hq17, hf⟩ := jbd2_inv hf
        refine jx_cSi (As := [.int a1, .int a2]) (rest := [.ref (E.2.2.2 + 182)]) dX12_entry_50 ml_X12_252 ms_X12_entryAt (s_X12_entryAt hE hq17) rfl rfl rfl (by decide) (Nat.le_of_ble_eq_true rfl) ?_
        refine jx_iload_n dX12_entry_53 rfl ?_
        refine jx_iadd dX12_entry_54 ?_
        obtain ⟨c20, hf⟩ := jg_inv hf
        refine jx_iald dX12_entry_55 (kj_182 hE) (jin_vp c20) ?_
        cases hf
        exact jx_iret dX12_entry_56 rfl rfl
      · rw [if_pos c16] at hf
        refine jx_sipush (v := (-1000)) dX12_entry_40 (by decide) ?_
        cases hf
        exact jx_iret dX12_entry_43 rfl rfl
def l_X12_copiesIn : Nat → Int32 → Int32 → Int32 → jw → Option (Int32 × jw)
  | 0, _, _, _, _ => none
  | n + 1, b1, b2, b3, w => jbd2 (f_X12_entriesOf b1 w) fun x2 w3 => (if x2 ≤ b3 then some (b2, w3) else jbd2 (f_X12_entryAt b1 b3 w3) fun x6 w7 => jg (jin (x6 + 1) 34700) (jg (jin ((1410 + (4 * b1)) + 2) 34700) ((if (w7.2.1 182 (Int32.toNatClampNeg ((1410 + (4 * b1)) + 2))) ≤ (w7.2.1 182 (Int32.toNatClampNeg (x6 + 1))) then jl (b3 + 1) fun x11 => (l_X12_copiesIn n b1 b2 x11 w7) else jl (b2 + 1) fun x12 => jl (b3 + 1) fun x13 => (l_X12_copiesIn n b1 x12 x13 w7)))))
set_option maxRecDepth 20000 in
set_option maxHeartbeats 2000000 in
theorem sl_X12_copiesIn {E : jE} (hE : jfull E) : ∀ (n : Nat) (b1 : Int32) (b2 : Int32) (b3 : Int32) (w : jw) (v : Int32) (w' : jw), l_X12_copiesIn n b1 b2 b3 w = some (v, w') → jX E m_X12_copiesIn 1 4 [(0, .ref (E.2.2.2 + 162)), (1, .int b1), (2, .int b2), (3, .int b3)] [] w (some (.int v)) w' := by
  intro n
  induction n with
  | zero => intro b1 b2 b3 w v w' hf; cases hf
  | succ n ih =>
    intro b1 b2 b3 w v w' hf
    unfold l_X12_copiesIn at hf
    refine jx_iload_n dX12_copiesIn_4 rfl ?_
    refine jx_aload_n dX12_copiesIn_5 rfl ?_
    refine jx_iload_n dX12_copiesIn_6 rfl ?_
    obtain ⟨x2, w3, hq1, hf⟩ := jbd2_inv hf
    refine jx_cVi (a := 162) (As := [.int b1]) (rest := [.int b3]) dX12_copiesIn_7 ml_X12_249 mv_X12_entriesOf (s_X12_entriesOf hE hq1) rfl rfl (jc_162 hE) (by decide) (Nat.le_of_ble_eq_true rfl) ?_
    refine jx_icmp_ge (tgt := 51) dX12_copiesIn_10 (by decide) (fun c4 => ?_) (fun c4 => ?_)
    · rw [if_pos c4] at hf
      refine jx_iload_n dX12_copiesIn_51 rfl ?_
      cases hf
      exact jx_iret dX12_copiesIn_52 rfl rfl
    · rw [if_neg c4] at hf
      refine jx_aload_n dX12_copiesIn_13 rfl ?_
      refine jx_getr dX12_copiesIn_14 fl_X12_77 (kj_162 hE) sr_162_34 ?_
      refine jx_iload_n dX12_copiesIn_17 rfl ?_
      refine jx_iload_n dX12_copiesIn_18 rfl ?_
      obtain ⟨x6, w7, hq5, hf⟩ := jbd2_inv hf
      refine jx_cSi (As := [.int b1, .int b3]) (rest := [.ref (E.2.2.2 + 182)]) dX12_copiesIn_19 ml_X12_252 ms_X12_entryAt (s_X12_entryAt hE hq5) rfl rfl rfl (by decide) (Nat.le_of_ble_eq_true rfl) ?_
      refine jx_iconst (v := 1) dX12_copiesIn_22 (by decide) ?_
      refine jx_iadd dX12_copiesIn_23 ?_
      obtain ⟨c8, hf⟩ := jg_inv hf
      refine jx_iald dX12_copiesIn_24 (kj_182 hE) (jin_vp c8) ?_
      refine jx_aload_n dX12_copiesIn_25 rfl ?_
      refine jx_getr dX12_copiesIn_26 fl_X12_77 (kj_162 hE) sr_162_34 ?_
      refine jx_sipush (v := 1410) dX12_copiesIn_29 (by decide) ?_
      refine jx_iconst (v := 4) dX12_copiesIn_32 (by decide) ?_
      refine jx_iload_n dX12_copiesIn_33 rfl ?_
      refine jx_imul dX12_copiesIn_34 ?_
      refine jx_iadd dX12_copiesIn_35 ?_
      refine jx_iconst (v := 2) dX12_copiesIn_36 (by decide) ?_
      refine jx_iadd dX12_copiesIn_37 ?_
      obtain ⟨c9, hf⟩ := jg_inv hf
      refine jx_iald dX12_copiesIn_38 (kj_182 hE) (jin_vp c9) ?_
      refine jx_icmp_ge (tgt := 45) dX12_copiesIn_39 (by decide) (fun c10 => ?_) (fun c10 => ?_)
      · rw [if_pos c10] at hf
        obtain ⟨x11, hx11, hf⟩ := jl_inv hf
        refine jx_iinc (v := x11) (ls' := [(0, .ref (E.2.2.2 + 162)), (1, .int b1), (2, .int b2), (3, .int x11)]) dX12_copiesIn_45 rfl (by rw [hx11]; rfl) (by decide) rfl ?_
        refine jx_goto (tgt := 4) dX12_copiesIn_48 (by decide) ?_
        exact ih _ _ _ _ _ _ hf
      · rw [if_neg c10] at hf
        obtain ⟨x12, hx12, hf⟩ := jl_inv hf
        refine jx_iinc (v := x12) (ls' := [(0, .ref (E.2.2.2 + 162)), (1, .int b1), (2, .int x12), (3, .int b3)]) dX12_copiesIn_42 rfl (by rw [hx12]; rfl) (by decide) rfl ?_
        obtain ⟨x13, hx13, hf⟩ := jl_inv hf
        refine jx_iinc (v := x13) (ls' := [(0, .ref (E.2.2.2 + 162)), (1, .int b1), (2, .int x12), (3, .int x13)]) dX12_copiesIn_45 rfl (by rw [hx13]; rfl) (by decide) rfl ?_
        refine jx_goto (tgt := 4) dX12_copiesIn_48 (by decide) ?_
        exact ih _ _ _ _ _ _ hf
def f_X12_copiesIn (a1 : Int32) (w : jw) : Option (Int32 × jw) := (l_X12_copiesIn jfu a1 0 0 w)
set_option maxRecDepth 20000 in
set_option maxHeartbeats 2000000 in
theorem s_X12_copiesIn {E : jE} (hE : jfull E) {a1 : Int32} {w w' : jw} {v : Int32} (hf : f_X12_copiesIn a1 w = some (v, w')) : jC E m_X12_copiesIn 1 [.ref (E.2.2.2 + 162), .int a1] w (some (.int v)) w' := by
  refine jC_of (ls := [(0, .ref (E.2.2.2 + 162)), (1, .int a1)]) (by decide) rfl (fun _ => trivial) (Nat.le_of_ble_eq_true rfl) rfl ⟨.int, rfl, rfl⟩ ?_
  unfold f_X12_copiesIn at hf
  refine jx_iconst (v := 0) dX12_copiesIn_0 (by decide) ?_
  refine jx_istore_n (ls' := [(0, .ref (E.2.2.2 + 162)), (1, .int a1), (2, .int 0)]) dX12_copiesIn_1 (by decide) rfl ?_
  refine jx_iconst (v := 0) dX12_copiesIn_2 (by decide) ?_
  refine jx_istore_n (ls' := [(0, .ref (E.2.2.2 + 162)), (1, .int a1), (2, .int 0), (3, .int 0)]) dX12_copiesIn_3 (by decide) rfl ?_
  exact sl_X12_copiesIn hE jfu _ _ _ _ _ _ hf
def l_X12_room : Nat → Int32 → Int32 → Int32 → Int32 → Int32 → jw → Option (Int32 × jw)
  | 0, _, _, _, _, _, _ => none
  | n + 1, b1, b2, b3, b4, b5, w => jg (jin 3 34700) ((if (w.2.1 182 (Int32.toNatClampNeg 3)) ≤ b5 then (if b1.toInt = 0 then jg (jin 3 34700) (some (w.2.1 182 (Int32.toNatClampNeg 3), w)) else (if b1.toInt = 1 then some (b2, w) else (if b1.toInt = 2 then some (b3, w) else (if b1.toInt = 3 then jg (jin 2 34700) (some (w.2.1 182 (Int32.toNatClampNeg 2), w)) else (if b1.toInt = 4 then some (b4, w) else jg (jin 0 34700) ((if (w.2.1 182 (Int32.toNatClampNeg 0)) = 0 then some (0, w) else jg (jin 0 34700) (jg (decide (¬ w.2.1 182 (Int32.toNatClampNeg 0) = 0)) (some ((1000 * b2) / (w.2.1 182 (Int32.toNatClampNeg 0)), w)))))))))) else jbd2 (f_X12_entriesOf b5 w) fun x15 w16 => jl (b2 + x15 : Int32) fun x17 => jg (jin ((1410 + (4 * b5)) + 3) 34700) ((if (w16.2.1 182 (Int32.toNatClampNeg ((1410 + (4 * b5)) + 3))) = (-2) then jbd2 (f_X12_isLeaf b5 w16) fun x21 w22 => (if (jb x21) = 0 then jl (b5 + 1) fun x24 => (l_X12_room n b1 x17 b3 b4 x24 w22) else jbd2 (f_X12_copiesIn b5 w22) fun x26 w27 => jl (b4 + x26 : Int32) fun x28 => jl (b5 + 1) fun x29 => (l_X12_room n b1 x17 b3 x28 x29 w27)) else jl (b3 + 1) fun x30 => jbd2 (f_X12_isLeaf b5 w16) fun x32 w33 => (if (jb x32) = 0 then jl (b5 + 1) fun x35 => (l_X12_room n b1 x17 x30 b4 x35 w33) else jbd2 (f_X12_copiesIn b5 w33) fun x37 w38 => jl (b4 + x37 : Int32) fun x39 => jl (b5 + 1) fun x40 => (l_X12_room n b1 x17 x30 x39 x40 w38))))))
set_option maxRecDepth 20000 in
set_option maxHeartbeats 2000000 in
theorem sl_X12_room {E : jE} (hE : jfull E) : ∀ (n : Nat) (b1 : Int32) (b2 : Int32) (b3 : Int32) (b4 : Int32) (b5 : Int32) (w : jw) (v : Int32) (w' : jw), l_X12_room n b1 b2 b3 b4 b5 w = some (v, w') → jX E m_X12_room 2 21 [(0, .ref (E.2.2.2 + 162)), (1, .int b1), (2, .int b2), (3, .int b3), (4, .int b4), (5, .int b5)] [] w (some (.int v)) w' := by
  intro n
  induction n with
  | zero => intro b1 b2 b3 b4 b5 w v w' hf; cases hf
  | succ n ih =>
    intro b1 b2 b3 b4 b5 w v w' hf
    unfold l_X12_room at hf
    refine jx_iload dX12_room_21 rfl ?_
    refine jx_aload_n dX12_room_23 rfl ?_
    refine jx_getr dX12_room_24 fl_X12_77 (kj_162 hE) sr_162_34 ?_
    refine jx_iconst (v := 3) dX12_room_27 (by decide) ?_
    obtain ⟨c1, hf⟩ := jg_inv hf
    refine jx_iald dX12_room_28 (kj_182 hE) (jin_vp c1) ?_
    refine jx_icmp_ge (tgt := 90) dX12_room_29 (by decide) (fun c2 => ?_) (fun c2 => ?_)
    · rw [if_pos c2] at hf
      refine jx_iload_n dX12_room_90 rfl ?_
      by_cases c3 : b1.toInt = 0
      · rw [if_pos c3] at hf
        refine jx_tableIn (off := 33) (tgt := 124) dX12_room_91 (by omega) (by omega) (by rw [c3]; rfl) (by decide) ?_
        refine jx_aload_n dX12_room_124 rfl ?_
        refine jx_getr dX12_room_125 fl_X12_77 (kj_162 hE) sr_162_34 ?_
        refine jx_iconst (v := 3) dX12_room_128 (by decide) ?_
        obtain ⟨c4, hf⟩ := jg_inv hf
        refine jx_iald dX12_room_129 (kj_182 hE) (jin_vp c4) ?_
        cases hf
        exact jx_iret dX12_room_130 rfl rfl
      rw [if_neg c3] at hf
      by_cases c5 : b1.toInt = 1
      · rw [if_pos c5] at hf
        refine jx_tableIn (off := 40) (tgt := 131) dX12_room_91 (by omega) (by omega) (by rw [c5]; rfl) (by decide) ?_
        refine jx_iload_n dX12_room_131 rfl ?_
        cases hf
        exact jx_iret dX12_room_132 rfl rfl
      rw [if_neg c5] at hf
      by_cases c6 : b1.toInt = 2
      · rw [if_pos c6] at hf
        refine jx_tableIn (off := 42) (tgt := 133) dX12_room_91 (by omega) (by omega) (by rw [c6]; rfl) (by decide) ?_
        refine jx_iload_n dX12_room_133 rfl ?_
        cases hf
        exact jx_iret dX12_room_134 rfl rfl
      rw [if_neg c6] at hf
      by_cases c7 : b1.toInt = 3
      · rw [if_pos c7] at hf
        refine jx_tableIn (off := 44) (tgt := 135) dX12_room_91 (by omega) (by omega) (by rw [c7]; rfl) (by decide) ?_
        refine jx_aload_n dX12_room_135 rfl ?_
        refine jx_getr dX12_room_136 fl_X12_77 (kj_162 hE) sr_162_34 ?_
        refine jx_iconst (v := 2) dX12_room_139 (by decide) ?_
        obtain ⟨c8, hf⟩ := jg_inv hf
        refine jx_iald dX12_room_140 (kj_182 hE) (jin_vp c8) ?_
        cases hf
        exact jx_iret dX12_room_141 rfl rfl
      rw [if_neg c7] at hf
      by_cases c9 : b1.toInt = 4
      · rw [if_pos c9] at hf
        refine jx_tableIn (off := 51) (tgt := 142) dX12_room_91 (by omega) (by omega) (by rw [c9]; rfl) (by decide) ?_
        refine jx_iload dX12_room_142 rfl ?_
        cases hf
        exact jx_iret dX12_room_144 rfl rfl
      rw [if_neg c9] at hf
      refine jx_tableOut (tgt := 145) dX12_room_91 (by omega) (by decide) ?_
      refine jx_aload_n dX12_room_145 rfl ?_
      refine jx_getr dX12_room_146 fl_X12_77 (kj_162 hE) sr_162_34 ?_
      refine jx_iconst (v := 0) dX12_room_149 (by decide) ?_
      obtain ⟨c10, hf⟩ := jg_inv hf
      refine jx_iald dX12_room_150 (kj_182 hE) (jin_vp c10) ?_
      refine jx_if_ne (tgt := 158) dX12_room_151 (by decide) (fun c11 => ?_) (fun c11 => ?_)
      · rw [if_neg c11] at hf
        refine jx_sipush (v := 1000) dX12_room_158 (by decide) ?_
        refine jx_iload_n dX12_room_161 rfl ?_
        refine jx_imul dX12_room_162 ?_
        refine jx_aload_n dX12_room_163 rfl ?_
        refine jx_getr dX12_room_164 fl_X12_77 (kj_162 hE) sr_162_34 ?_
        refine jx_iconst (v := 0) dX12_room_167 (by decide) ?_
        obtain ⟨c12, hf⟩ := jg_inv hf
        refine jx_iald dX12_room_168 (kj_182 hE) (jin_vp c12) ?_
        obtain ⟨c13, hf⟩ := jg_inv hf
        refine jx_idiv dX12_room_169 (of_decide_eq_true c13) ?_
        cases hf
        exact jx_iret dX12_room_170 rfl rfl
      · rw [if_pos c11] at hf
        refine jx_iconst (v := 0) dX12_room_154 (by decide) ?_
        refine jx_goto (tgt := 170) dX12_room_155 (by decide) ?_
        cases hf
        exact jx_iret dX12_room_170 rfl rfl
    · rw [if_neg c2] at hf
      refine jx_iload_n dX12_room_32 rfl ?_
      refine jx_aload_n dX12_room_33 rfl ?_
      refine jx_iload dX12_room_34 rfl ?_
      obtain ⟨x15, w16, hq14, hf⟩ := jbd2_inv hf
      refine jx_cVi (a := 162) (As := [.int b5]) (rest := [.int b2]) dX12_room_36 ml_X12_249 mv_X12_entriesOf (s_X12_entriesOf hE hq14) rfl rfl (jc_162 hE) (by decide) (Nat.le_of_ble_eq_true rfl) ?_
      refine jx_iadd dX12_room_39 ?_
      obtain ⟨x17, hx17, hf⟩ := jl_inv hf
      refine jx_nm hx17 ?_
      refine jx_istore_n (ls' := [(0, .ref (E.2.2.2 + 162)), (1, .int b1), (2, .int x17), (3, .int b3), (4, .int b4), (5, .int b5)]) dX12_room_40 (by decide) rfl ?_
      refine jx_aload_n dX12_room_41 rfl ?_
      refine jx_getr dX12_room_42 fl_X12_77 (kj_162 hE) sr_162_34 ?_
      refine jx_sipush (v := 1410) dX12_room_45 (by decide) ?_
      refine jx_iconst (v := 4) dX12_room_48 (by decide) ?_
      refine jx_iload dX12_room_49 rfl ?_
      refine jx_imul dX12_room_51 ?_
      refine jx_iadd dX12_room_52 ?_
      refine jx_iconst (v := 3) dX12_room_53 (by decide) ?_
      refine jx_iadd dX12_room_54 ?_
      obtain ⟨c18, hf⟩ := jg_inv hf
      refine jx_iald dX12_room_55 (kj_182 hE) (jin_vp c18) ?_
      refine jx_bipush (v := (-2)) dX12_room_56 (by decide) ?_
      refine jx_icmp_eq (tgt := 64) dX12_room_58 (by decide) (fun c19 => ?_) (fun c19 => ?_)
      · rw [if_pos c19] at hf
        refine jx_aload_n dX12_room_64 rfl ?_
        refine jx_iload dX12_room_65 rfl ?_
        obtain ⟨x21, w22, hq20, hf⟩ := jbd2_inv hf
        refine jx_cVi (a := 162) (As := [.int b5]) (rest := []) dX12_room_67 ml_X12_265 mv_X12_isLeaf (s_X12_isLeaf hE hq20) rfl rfl (jc_162 hE) (by decide) (Nat.le_of_ble_eq_true rfl) ?_
        refine jx_if_eq (tgt := 84) dX12_room_70 (by decide) (fun c23 => ?_) (fun c23 => ?_)
        · rw [if_pos c23] at hf
          obtain ⟨x24, hx24, hf⟩ := jl_inv hf
          refine jx_iinc (v := x24) (ls' := [(0, .ref (E.2.2.2 + 162)), (1, .int b1), (2, .int x17), (3, .int b3), (4, .int b4), (5, .int x24)]) dX12_room_84 rfl (by rw [hx24]; rfl) (by decide) rfl ?_
          refine jx_goto (tgt := 21) dX12_room_87 (by decide) ?_
          exact ih _ _ _ _ _ _ _ _ hf
        · rw [if_neg c23] at hf
          refine jx_iload dX12_room_73 rfl ?_
          refine jx_aload_n dX12_room_75 rfl ?_
          refine jx_iload dX12_room_76 rfl ?_
          obtain ⟨x26, w27, hq25, hf⟩ := jbd2_inv hf
          refine jx_cVi (a := 162) (As := [.int b5]) (rest := [.int b4]) dX12_room_78 ml_X12_384 mv_X12_copiesIn (s_X12_copiesIn hE hq25) rfl rfl (jc_162 hE) (by decide) (Nat.le_of_ble_eq_true rfl) ?_
          refine jx_iadd dX12_room_81 ?_
          obtain ⟨x28, hx28, hf⟩ := jl_inv hf
          refine jx_nm hx28 ?_
          refine jx_istore (ls' := [(0, .ref (E.2.2.2 + 162)), (1, .int b1), (2, .int x17), (3, .int b3), (4, .int x28), (5, .int b5)]) dX12_room_82 (by decide) rfl ?_
          obtain ⟨x29, hx29, hf⟩ := jl_inv hf
          refine jx_iinc (v := x29) (ls' := [(0, .ref (E.2.2.2 + 162)), (1, .int b1), (2, .int x17), (3, .int b3), (4, .int x28), (5, .int x29)]) dX12_room_84 rfl (by rw [hx29]; rfl) (by decide) rfl ?_
          refine jx_goto (tgt := 21) dX12_room_87 (by decide) ?_
          exact ih _ _ _ _ _ _ _ _ hf
      · rw [if_neg c19] at hf
        obtain ⟨x30, hx30, hf⟩ := jl_inv hf
        refine jx_iinc (v := x30) (ls' := [(0, .ref (E.2.2.2 + 162)), (1, .int b1), (2, .int x17), (3, .int x30), (4, .int b4), (5, .int b5)]) dX12_room_61 rfl (by rw [hx30]; rfl) (by decide) rfl ?_
        refine jx_aload_n dX12_room_64 rfl ?_
        refine jx_iload dX12_room_65 rfl ?_
        obtain ⟨x32, w33, hq31, hf⟩ := jbd2_inv hf
        refine jx_cVi (a := 162) (As := [.int b5]) (rest := []) dX12_room_67 ml_X12_265 mv_X12_isLeaf (s_X12_isLeaf hE hq31) rfl rfl (jc_162 hE) (by decide) (Nat.le_of_ble_eq_true rfl) ?_
        refine jx_if_eq (tgt := 84) dX12_room_70 (by decide) (fun c34 => ?_) (fun c34 => ?_)
        · rw [if_pos c34] at hf
          obtain ⟨x35, hx35, hf⟩ := jl_inv hf
          refine jx_iinc (v := x35) (ls' := [(0, .ref (E.2.2.2 + 162)), (1, .int b1), (2, .int x17), (3, .int x30), (4, .int b4), (5, .int x35)]) dX12_room_84 rfl (by rw [hx35]; rfl) (by decide) rfl ?_
          refine jx_goto (tgt := 21) dX12_room_87 (by decide) ?_
          exact ih _ _ _ _ _ _ _ _ hf
        · rw [if_neg c34] at hf
          refine jx_iload dX12_room_73 rfl ?_
          refine jx_aload_n dX12_room_75 rfl ?_
          refine jx_iload dX12_room_76 rfl ?_
          obtain ⟨x37, w38, hq36, hf⟩ := jbd2_inv hf
          refine jx_cVi (a := 162) (As := [.int b5]) (rest := [.int b4]) dX12_room_78 ml_X12_384 mv_X12_copiesIn (s_X12_copiesIn hE hq36) rfl rfl (jc_162 hE) (by decide) (Nat.le_of_ble_eq_true rfl) ?_
          refine jx_iadd dX12_room_81 ?_
          obtain ⟨x39, hx39, hf⟩ := jl_inv hf
          refine jx_nm hx39 ?_
          refine jx_istore (ls' := [(0, .ref (E.2.2.2 + 162)), (1, .int b1), (2, .int x17), (3, .int x30), (4, .int x39), (5, .int b5)]) dX12_room_82 (by decide) rfl ?_
          obtain ⟨x40, hx40, hf⟩ := jl_inv hf
          refine jx_iinc (v := x40) (ls' := [(0, .ref (E.2.2.2 + 162)), (1, .int b1), (2, .int x17), (3, .int x30), (4, .int x39), (5, .int x40)]) dX12_room_84 rfl (by rw [hx40]; rfl) (by decide) rfl ?_
          refine jx_goto (tgt := 21) dX12_room_87 (by decide) ?_
          exact ih _ _ _ _ _ _ _ _ hf
def f_X12_room (a1 : Int32) (w : jw) : Option (Int32 × jw) := jbd2 (f_X12_in a1 0 5 w) fun x42 w43 => (if (jb x42) = 0 then some ((-1), w43) else (l_X12_room jfu a1 0 0 0 0 w43))
set_option maxRecDepth 20000 in
set_option maxHeartbeats 2000000 in
theorem s_X12_room {E : jE} (hE : jfull E) {a1 : Int32} {w w' : jw} {v : Int32} (hf : f_X12_room a1 w = some (v, w')) : jC E m_X12_room 2 [.ref (E.2.2.2 + 162), .int a1] w (some (.int v)) w' := by
  refine jC_of (ls := [(0, .ref (E.2.2.2 + 162)), (1, .int a1)]) (by decide) rfl (fun _ => trivial) (Nat.le_of_ble_eq_true rfl) rfl ⟨.int, rfl, rfl⟩ ?_
  unfold f_X12_room at hf
  refine jx_iload_n dX12_room_0 rfl ?_
  refine jx_iconst (v := 0) dX12_room_1 (by decide) ?_
  refine jx_iconst (v := 5) dX12_room_2 (by decide) ?_
  obtain ⟨x42, w43, hq41, hf⟩ := jbd2_inv hf
  refine jx_cSi (As := [.int a1, .int 0, .int 5]) (rest := []) dX12_room_3 ml_X12_324 ms_X12_in (s_X12_in hE hq41) rfl rfl rfl (by decide) (Nat.le_of_ble_eq_true rfl) ?_
  refine jx_if_ne (tgt := 11) dX12_room_6 (by decide) (fun c44 => ?_) (fun c44 => ?_)
  · rw [if_neg c44] at hf
    refine jx_iconst (v := 0) dX12_room_11 (by decide) ?_
    refine jx_istore_n (ls' := [(0, .ref (E.2.2.2 + 162)), (1, .int a1), (2, .int 0)]) dX12_room_12 (by decide) rfl ?_
    refine jx_iconst (v := 0) dX12_room_13 (by decide) ?_
    refine jx_istore_n (ls' := [(0, .ref (E.2.2.2 + 162)), (1, .int a1), (2, .int 0), (3, .int 0)]) dX12_room_14 (by decide) rfl ?_
    refine jx_iconst (v := 0) dX12_room_15 (by decide) ?_
    refine jx_istore (ls' := [(0, .ref (E.2.2.2 + 162)), (1, .int a1), (2, .int 0), (3, .int 0), (4, .int 0)]) dX12_room_16 (by decide) rfl ?_
    refine jx_iconst (v := 0) dX12_room_18 (by decide) ?_
    refine jx_istore (ls' := [(0, .ref (E.2.2.2 + 162)), (1, .int a1), (2, .int 0), (3, .int 0), (4, .int 0), (5, .int 0)]) dX12_room_19 (by decide) rfl ?_
    exact sl_X12_room hE jfu _ _ _ _ _ _ _ _ hf
  · rw [if_pos c44] at hf
    refine jx_iconst (v := (-1)) dX12_room_9 (by decide) ?_
    cases hf
    exact jx_iret dX12_room_10 rfl rfl
def l_X12_hold : Nat → Int32 → Int32 → jw → Option (Bool × jw)
  | 0, _, _, _ => none
  | n + 1, b1, b2, w => (if 34700 ≤ b2 then some (true, w) else jg (jin b2 34700) (jg (jin ((34700 * b1) + b2) 104100) (jl (jsetX w 192 (Int32.toNatClampNeg ((34700 * b1) + b2)) (w.2.1 182 (Int32.toNatClampNeg b2))) fun w4 => jl (b2 + 1) fun x5 => (l_X12_hold n b1 x5 w4))))
set_option maxRecDepth 20000 in
set_option maxHeartbeats 2000000 in
theorem sl_X12_hold {E : jE} (hE : jfull E) : ∀ (n : Nat) (b1 : Int32) (b2 : Int32) (w : jw) (v : Bool) (w' : jw), l_X12_hold n b1 b2 w = some (v, w') → jX E m_X12_hold 1 20 [(0, .ref (E.2.2.2 + 162)), (1, .int b1), (2, .int b2)] [] w (some (.int (jb v))) w' := by
  intro n
  induction n with
  | zero => intro b1 b2 w v w' hf; cases hf
  | succ n ih =>
    intro b1 b2 w v w' hf
    unfold l_X12_hold at hf
    refine jx_iload_n dX12_hold_20 rfl ?_
    refine jx_ldc (v := 34700) dX12_hold_21 kc_X12_76 ?_
    refine jx_icmp_ge (tgt := 49) dX12_hold_23 (by decide) (fun c1 => ?_) (fun c1 => ?_)
    · rw [if_pos c1] at hf
      refine jx_iconst (v := 1) dX12_hold_49 (by decide) ?_
      cases hf
      exact jx_iret dX12_hold_50 rfl rfl
    · rw [if_neg c1] at hf
      refine jx_aload_n dX12_hold_26 rfl ?_
      refine jx_getr dX12_hold_27 fl_X12_109 (kj_162 hE) sr_162_47 ?_
      refine jx_ldc (v := 34700) dX12_hold_30 kc_X12_76 ?_
      refine jx_iload_n dX12_hold_32 rfl ?_
      refine jx_imul dX12_hold_33 ?_
      refine jx_iload_n dX12_hold_34 rfl ?_
      refine jx_iadd dX12_hold_35 ?_
      refine jx_aload_n dX12_hold_36 rfl ?_
      refine jx_getr dX12_hold_37 fl_X12_77 (kj_162 hE) sr_162_34 ?_
      refine jx_iload_n dX12_hold_40 rfl ?_
      obtain ⟨c2, hf⟩ := jg_inv hf
      refine jx_iald dX12_hold_41 (kj_182 hE) (jin_vp c2) ?_
      obtain ⟨c3, hf⟩ := jg_inv hf
      refine jx_iast dX12_hold_42 (kj_192 hE) (jin_vp c3) ?_
      obtain ⟨w4, hw4, hf⟩ := jl_inv hf
      refine jx_nw hw4 ?_
      obtain ⟨x5, hx5, hf⟩ := jl_inv hf
      refine jx_iinc (v := x5) (ls' := [(0, .ref (E.2.2.2 + 162)), (1, .int b1), (2, .int x5)]) dX12_hold_43 rfl (by rw [hx5]; rfl) (by decide) rfl ?_
      refine jx_goto (tgt := 20) dX12_hold_46 (by decide) ?_
      exact ih _ _ _ _ _ hf
def f_X12_hold (a1 : Int32) (w : jw) : Option (Bool × jw) := jbd2 (f_X12_in a1 0 2 w) fun x7 w8 => (if (jb x7) = 0 then some (false, w8) else jg (jin a1 3) (jl (jsetX w8 191 (Int32.toNatClampNeg a1) 1) fun w11 => (l_X12_hold jfu a1 0 w11)))
set_option maxRecDepth 20000 in
set_option maxHeartbeats 2000000 in
theorem s_X12_hold {E : jE} (hE : jfull E) {a1 : Int32} {w w' : jw} {v : Bool} (hf : f_X12_hold a1 w = some (v, w')) : jC E m_X12_hold 1 [.ref (E.2.2.2 + 162), .int a1] w (some (.int (jb v))) w' := by
  refine jC_of (ls := [(0, .ref (E.2.2.2 + 162)), (1, .int a1)]) (by decide) rfl (fun _ => trivial) (Nat.le_of_ble_eq_true rfl) rfl jb_ans ?_
  unfold f_X12_hold at hf
  refine jx_iload_n dX12_hold_0 rfl ?_
  refine jx_iconst (v := 0) dX12_hold_1 (by decide) ?_
  refine jx_iconst (v := 2) dX12_hold_2 (by decide) ?_
  obtain ⟨x7, w8, hq6, hf⟩ := jbd2_inv hf
  refine jx_cSi (As := [.int a1, .int 0, .int 2]) (rest := []) dX12_hold_3 ml_X12_324 ms_X12_in (s_X12_in hE hq6) rfl rfl rfl (by decide) (Nat.le_of_ble_eq_true rfl) ?_
  refine jx_if_ne (tgt := 11) dX12_hold_6 (by decide) (fun c9 => ?_) (fun c9 => ?_)
  · rw [if_neg c9] at hf
    refine jx_aload_n dX12_hold_11 rfl ?_
    refine jx_getr dX12_hold_12 fl_X12_104 (kj_162 hE) sr_162_46 ?_
    refine jx_iload_n dX12_hold_15 rfl ?_
    refine jx_iconst (v := 1) dX12_hold_16 (by decide) ?_
    obtain ⟨c10, hf⟩ := jg_inv hf
    refine jx_zast dX12_hold_17 (kj_191 hE) (jin_vp c10) rfl ?_
    obtain ⟨w11, hw11, hf⟩ := jl_inv hf
    refine jx_nw hw11 ?_
    refine jx_iconst (v := 0) dX12_hold_18 (by decide) ?_
    refine jx_istore_n (ls' := [(0, .ref (E.2.2.2 + 162)), (1, .int a1), (2, .int 0)]) dX12_hold_19 (by decide) rfl ?_
    exact sl_X12_hold hE jfu _ _ _ _ _ hf
  · rw [if_pos c9] at hf
    refine jx_iconst (v := 0) dX12_hold_9 (by decide) ?_
    cases hf
    exact jx_iret dX12_hold_10 rfl rfl
def l_X12_restore : Nat → Int32 → Int32 → jw → Option (Bool × jw)
  | 0, _, _, _ => none
  | n + 1, b1, b2, w => (if 34700 ≤ b2 then some (true, w) else jg (jin ((34700 * b1) + b2) 104100) (jg (jin b2 34700) (jl (jsetX w 182 (Int32.toNatClampNeg b2) (w.2.1 192 (Int32.toNatClampNeg ((34700 * b1) + b2)))) fun w4 => jl (b2 + 1) fun x5 => (l_X12_restore n b1 x5 w4))))
set_option maxRecDepth 20000 in
set_option maxHeartbeats 2000000 in
theorem sl_X12_restore {E : jE} (hE : jfull E) : ∀ (n : Nat) (b1 : Int32) (b2 : Int32) (w : jw) (v : Bool) (w' : jw), l_X12_restore n b1 b2 w = some (v, w') → jX E m_X12_restore 1 22 [(0, .ref (E.2.2.2 + 162)), (1, .int b1), (2, .int b2)] [] w (some (.int (jb v))) w' := by
  intro n
  induction n with
  | zero => intro b1 b2 w v w' hf; cases hf
  | succ n ih =>
    intro b1 b2 w v w' hf
    unfold l_X12_restore at hf
    refine jx_iload_n dX12_restore_22 rfl ?_
    refine jx_ldc (v := 34700) dX12_restore_23 kc_X12_76 ?_
    refine jx_icmp_ge (tgt := 51) dX12_restore_25 (by decide) (fun c1 => ?_) (fun c1 => ?_)
    · rw [if_pos c1] at hf
      refine jx_iconst (v := 1) dX12_restore_51 (by decide) ?_
      cases hf
      exact jx_iret dX12_restore_52 rfl rfl
    · rw [if_neg c1] at hf
      refine jx_aload_n dX12_restore_28 rfl ?_
      refine jx_getr dX12_restore_29 fl_X12_77 (kj_162 hE) sr_162_34 ?_
      refine jx_iload_n dX12_restore_32 rfl ?_
      refine jx_aload_n dX12_restore_33 rfl ?_
      refine jx_getr dX12_restore_34 fl_X12_109 (kj_162 hE) sr_162_47 ?_
      refine jx_ldc (v := 34700) dX12_restore_37 kc_X12_76 ?_
      refine jx_iload_n dX12_restore_39 rfl ?_
      refine jx_imul dX12_restore_40 ?_
      refine jx_iload_n dX12_restore_41 rfl ?_
      refine jx_iadd dX12_restore_42 ?_
      obtain ⟨c2, hf⟩ := jg_inv hf
      refine jx_iald dX12_restore_43 (kj_192 hE) (jin_vp c2) ?_
      obtain ⟨c3, hf⟩ := jg_inv hf
      refine jx_iast dX12_restore_44 (kj_182 hE) (jin_vp c3) ?_
      obtain ⟨w4, hw4, hf⟩ := jl_inv hf
      refine jx_nw hw4 ?_
      obtain ⟨x5, hx5, hf⟩ := jl_inv hf
      refine jx_iinc (v := x5) (ls' := [(0, .ref (E.2.2.2 + 162)), (1, .int b1), (2, .int x5)]) dX12_restore_45 rfl (by rw [hx5]; rfl) (by decide) rfl ?_
      refine jx_goto (tgt := 22) dX12_restore_48 (by decide) ?_
      exact ih _ _ _ _ _ hf
def f_X12_restore (a1 : Int32) (w : jw) : Option (Bool × jw) := jbd2 (f_X12_in a1 0 2 w) fun x7 w8 => (if (jb x7) = 0 then some (false, w8) else jg (jin a1 3) ((if (w8.2.1 191 (Int32.toNatClampNeg a1)) = 0 then some (false, w8) else (l_X12_restore jfu a1 0 w8))))
set_option maxRecDepth 20000 in
set_option maxHeartbeats 2000000 in
theorem s_X12_restore {E : jE} (hE : jfull E) {a1 : Int32} {w w' : jw} {v : Bool} (hf : f_X12_restore a1 w = some (v, w')) : jC E m_X12_restore 1 [.ref (E.2.2.2 + 162), .int a1] w (some (.int (jb v))) w' := by
  refine jC_of (ls := [(0, .ref (E.2.2.2 + 162)), (1, .int a1)]) (by decide) rfl (fun _ => trivial) (Nat.le_of_ble_eq_true rfl) rfl jb_ans ?_
  unfold f_X12_restore at hf
  refine jx_iload_n dX12_restore_0 rfl ?_
  refine jx_iconst (v := 0) dX12_restore_1 (by decide) ?_
  refine jx_iconst (v := 2) dX12_restore_2 (by decide) ?_
  obtain ⟨x7, w8, hq6, hf⟩ := jbd2_inv hf
  refine jx_cSi (As := [.int a1, .int 0, .int 2]) (rest := []) dX12_restore_3 ml_X12_324 ms_X12_in (s_X12_in hE hq6) rfl rfl rfl (by decide) (Nat.le_of_ble_eq_true rfl) ?_
  refine jx_if_eq (tgt := 18) dX12_restore_6 (by decide) (fun c9 => ?_) (fun c9 => ?_)
  · rw [if_pos c9] at hf
    refine jx_iconst (v := 0) dX12_restore_18 (by decide) ?_
    cases hf
    exact jx_iret dX12_restore_19 rfl rfl
  · rw [if_neg c9] at hf
    refine jx_aload_n dX12_restore_9 rfl ?_
    refine jx_getr dX12_restore_10 fl_X12_104 (kj_162 hE) sr_162_46 ?_
    refine jx_iload_n dX12_restore_13 rfl ?_
    obtain ⟨c10, hf⟩ := jg_inv hf
    refine jx_zald dX12_restore_14 (kj_191 hE) (jin_vp c10) ?_
    refine jx_if_ne (tgt := 20) dX12_restore_15 (by decide) (fun c11 => ?_) (fun c11 => ?_)
    · rw [if_neg c11] at hf
      refine jx_iconst (v := 0) dX12_restore_20 (by decide) ?_
      refine jx_istore_n (ls' := [(0, .ref (E.2.2.2 + 162)), (1, .int a1), (2, .int 0)]) dX12_restore_21 (by decide) rfl ?_
      exact sl_X12_restore hE jfu _ _ _ _ _ hf
    · rw [if_pos c11] at hf
      refine jx_iconst (v := 0) dX12_restore_18 (by decide) ?_
      cases hf
      exact jx_iret dX12_restore_19 rfl rfl
def l_X12_keyFrom : Nat → Int32 → Int32 → Int32 → jw → Option (Int32 × jw)
  | 0, _, _, _, _ => none
  | n + 1, b1, b2, b3, w => jbd2 (f_X12_isKey b3 w) fun x2 w3 => (if (jb x2) = 0 then some ((-2), w3) else jg (jin (33700 + b3) 34700) ((if (w3.2.1 182 (Int32.toNatClampNeg (33700 + b3))) < 0 then jl (b3 + b2 : Int32) fun x7 => (l_X12_keyFrom n b1 b2 x7 w3) else some (b3, w3))))
set_option maxRecDepth 20000 in
set_option maxHeartbeats 2000000 in
theorem sl_X12_keyFrom {E : jE} (hE : jfull E) : ∀ (n : Nat) (b1 : Int32) (b2 : Int32) (b3 : Int32) (w : jw) (v : Int32) (w' : jw), l_X12_keyFrom n b1 b2 b3 w = some (v, w') → jX E m_X12_keyFrom 2 2 [(0, .ref (E.2.2.2 + 162)), (1, .int b1), (2, .int b2), (3, .int b3)] [] w (some (.int v)) w' := by
  intro n
  induction n with
  | zero => intro b1 b2 b3 w v w' hf; cases hf
  | succ n ih =>
    intro b1 b2 b3 w v w' hf
    unfold l_X12_keyFrom at hf
    refine jx_iload_n dX12_keyFrom_2 rfl ?_
    obtain ⟨x2, w3, hq1, hf⟩ := jbd2_inv hf
    refine jx_cSi (As := [.int b3]) (rest := []) dX12_keyFrom_3 ml_X12_328 ms_X12_isKey (s_X12_isKey hE hq1) rfl rfl rfl (by decide) (Nat.le_of_ble_eq_true rfl) ?_
    refine jx_if_eq (tgt := 30) dX12_keyFrom_6 (by decide) (fun c4 => ?_) (fun c4 => ?_)
    · rw [if_pos c4] at hf
      refine jx_bipush (v := (-2)) dX12_keyFrom_30 (by decide) ?_
      cases hf
      exact jx_iret dX12_keyFrom_32 rfl rfl
    · rw [if_neg c4] at hf
      refine jx_aload_n dX12_keyFrom_9 rfl ?_
      refine jx_getr dX12_keyFrom_10 fl_X12_77 (kj_162 hE) sr_162_34 ?_
      refine jx_ldc (v := 33700) dX12_keyFrom_13 kc_X12_242 ?_
      refine jx_iload_n dX12_keyFrom_15 rfl ?_
      refine jx_iadd dX12_keyFrom_16 ?_
      obtain ⟨c5, hf⟩ := jg_inv hf
      refine jx_iald dX12_keyFrom_17 (kj_182 hE) (jin_vp c5) ?_
      refine jx_if_lt (tgt := 23) dX12_keyFrom_18 (by decide) (fun c6 => ?_) (fun c6 => ?_)
      · rw [if_pos c6] at hf
        refine jx_iload_n dX12_keyFrom_23 rfl ?_
        refine jx_iload_n dX12_keyFrom_24 rfl ?_
        refine jx_iadd dX12_keyFrom_25 ?_
        obtain ⟨x7, hx7, hf⟩ := jl_inv hf
        refine jx_nm hx7 ?_
        refine jx_istore_n (ls' := [(0, .ref (E.2.2.2 + 162)), (1, .int b1), (2, .int b2), (3, .int x7)]) dX12_keyFrom_26 (by decide) rfl ?_
        refine jx_goto (tgt := 2) dX12_keyFrom_27 (by decide) ?_
        exact ih _ _ _ _ _ _ hf
      · rw [if_neg c6] at hf
        refine jx_iload_n dX12_keyFrom_21 rfl ?_
        cases hf
        exact jx_iret dX12_keyFrom_22 rfl rfl
def f_X12_keyFrom (a1 : Int32) (a2 : Int32) (w : jw) : Option (Int32 × jw) := (l_X12_keyFrom jfu a1 a2 a1 w)
set_option maxRecDepth 20000 in
set_option maxHeartbeats 2000000 in
theorem s_X12_keyFrom {E : jE} (hE : jfull E) {a1 : Int32} {a2 : Int32} {w w' : jw} {v : Int32} (hf : f_X12_keyFrom a1 a2 w = some (v, w')) : jC E m_X12_keyFrom 2 [.ref (E.2.2.2 + 162), .int a1, .int a2] w (some (.int v)) w' := by
  refine jC_of (ls := [(0, .ref (E.2.2.2 + 162)), (1, .int a1), (2, .int a2)]) (by decide) rfl (fun _ => trivial) (Nat.le_of_ble_eq_true rfl) rfl ⟨.int, rfl, rfl⟩ ?_
  unfold f_X12_keyFrom at hf
  refine jx_iload_n dX12_keyFrom_0 rfl ?_
  refine jx_istore_n (ls' := [(0, .ref (E.2.2.2 + 162)), (1, .int a1), (2, .int a2), (3, .int a1)]) dX12_keyFrom_1 (by decide) rfl ?_
  exact sl_X12_keyFrom hE jfu _ _ _ _ _ _ hf
def l_X12_count : Nat → Int32 → Int32 → Int32 → jw → Option (Int32 × jw)
  | 0, _, _, _, _ => none
  | n + 1, b1, b2, b3, w => jg (jin 3 34700) ((if (w.2.1 182 (Int32.toNatClampNeg 3)) ≤ b3 then some (b2, w) else jg (jin ((1410 + (4 * b3)) + 2) 34700) (jg (jin 0 34700) ((if (w.2.1 182 (Int32.toNatClampNeg ((1410 + (4 * b3)) + 2))) = (w.2.1 182 (Int32.toNatClampNeg 0)) then jl (b2 + 1) fun x7 => jl (b3 + 1) fun x8 => (l_X12_count n b1 x7 x8 w) else jl (b3 + 1) fun x6 => (l_X12_count n b1 b2 x6 w))))))
set_option maxRecDepth 20000 in
set_option maxHeartbeats 2000000 in
theorem sl_X12_count {E : jE} (hE : jfull E) : ∀ (n : Nat) (b1 : Int32) (b2 : Int32) (b3 : Int32) (w : jw) (v : Int32) (w' : jw), l_X12_count n b1 b2 b3 w = some (v, w') → jX E m_X12_count 3 170 [(0, .ref (E.2.2.2 + 162)), (1, .int b1), (2, .int b2), (3, .int b3)] [] w (some (.int v)) w' := by
  intro n
  induction n with
  | zero => intro b1 b2 b3 w v w' hf; cases hf
  | succ n ih =>
    intro b1 b2 b3 w v w' hf
    unfold l_X12_count at hf
    refine jx_iload_n dX12_count_170 rfl ?_
    refine jx_aload_n dX12_count_171 rfl ?_
    refine jx_getr dX12_count_172 fl_X12_77 (kj_162 hE) sr_162_34 ?_
    refine jx_iconst (v := 3) dX12_count_175 (by decide) ?_
    obtain ⟨c1, hf⟩ := jg_inv hf
    refine jx_iald dX12_count_176 (kj_182 hE) (jin_vp c1) ?_
    refine jx_icmp_ge (tgt := 212) dX12_count_177 (by decide) (fun c2 => ?_) (fun c2 => ?_)
    · rw [if_pos c2] at hf
      refine jx_iload_n dX12_count_212 rfl ?_
      cases hf
      exact jx_iret dX12_count_213 rfl rfl
    · rw [if_neg c2] at hf
      refine jx_aload_n dX12_count_180 rfl ?_
      refine jx_getr dX12_count_181 fl_X12_77 (kj_162 hE) sr_162_34 ?_
      refine jx_sipush (v := 1410) dX12_count_184 (by decide) ?_
      refine jx_iconst (v := 4) dX12_count_187 (by decide) ?_
      refine jx_iload_n dX12_count_188 rfl ?_
      refine jx_imul dX12_count_189 ?_
      refine jx_iadd dX12_count_190 ?_
      refine jx_iconst (v := 2) dX12_count_191 (by decide) ?_
      refine jx_iadd dX12_count_192 ?_
      obtain ⟨c3, hf⟩ := jg_inv hf
      refine jx_iald dX12_count_193 (kj_182 hE) (jin_vp c3) ?_
      refine jx_aload_n dX12_count_194 rfl ?_
      refine jx_getr dX12_count_195 fl_X12_77 (kj_162 hE) sr_162_34 ?_
      refine jx_iconst (v := 0) dX12_count_198 (by decide) ?_
      obtain ⟨c4, hf⟩ := jg_inv hf
      refine jx_iald dX12_count_199 (kj_182 hE) (jin_vp c4) ?_
      refine jx_icmp_ne (tgt := 206) dX12_count_200 (by decide) (fun c5 => ?_) (fun c5 => ?_)
      · rw [if_neg c5] at hf
        obtain ⟨x6, hx6, hf⟩ := jl_inv hf
        refine jx_iinc (v := x6) (ls' := [(0, .ref (E.2.2.2 + 162)), (1, .int b1), (2, .int b2), (3, .int x6)]) dX12_count_206 rfl (by rw [hx6]; rfl) (by decide) rfl ?_
        refine jx_goto (tgt := 170) dX12_count_209 (by decide) ?_
        exact ih _ _ _ _ _ _ hf
      · rw [if_pos c5] at hf
        obtain ⟨x7, hx7, hf⟩ := jl_inv hf
        refine jx_iinc (v := x7) (ls' := [(0, .ref (E.2.2.2 + 162)), (1, .int b1), (2, .int x7), (3, .int b3)]) dX12_count_203 rfl (by rw [hx7]; rfl) (by decide) rfl ?_
        obtain ⟨x8, hx8, hf⟩ := jl_inv hf
        refine jx_iinc (v := x8) (ls' := [(0, .ref (E.2.2.2 + 162)), (1, .int b1), (2, .int x7), (3, .int x8)]) dX12_count_206 rfl (by rw [hx8]; rfl) (by decide) rfl ?_
        refine jx_goto (tgt := 170) dX12_count_209 (by decide) ?_
        exact ih _ _ _ _ _ _ hf
def f_X12_count (a1 : Int32) (w : jw) : Option (Int32 × jw) := (if a1.toInt = 0 then jg (jin 0 34700) (some (w.2.1 182 (Int32.toNatClampNeg 0), w)) else (if a1.toInt = 1 then jg (jin 7 34700) (some (w.2.1 182 (Int32.toNatClampNeg 7), w)) else (if a1.toInt = 2 then jg (jin 1 34700) (some (w.2.1 182 (Int32.toNatClampNeg 1), w)) else (if a1.toInt = 3 then jbd2 (f_X12_weak  w) fun x17 w18 => some (x17, w18) else (if a1.toInt = 4 then jg (jin 5 34700) (some (w.2.1 182 (Int32.toNatClampNeg 5), w)) else (if a1.toInt = 5 then jg (jin 6 34700) (some (w.2.1 182 (Int32.toNatClampNeg 6), w)) else (if a1.toInt = 6 then some (w.1 162 2, w) else (if a1.toInt = 7 then jg (jin 0 3) ((if (w.2.1 191 (Int32.toNatClampNeg 0)) = 0 then jg (jin 1 3) ((if (w.2.1 191 (Int32.toNatClampNeg 1)) = 0 then jg (jin 2 3) ((if (w.2.1 191 (Int32.toNatClampNeg 2)) = 0 then some ((0 + 0) + 0, w) else some ((0 + 0) + 1, w))) else jg (jin 2 3) ((if (w.2.1 191 (Int32.toNatClampNeg 2)) = 0 then some ((0 + 1) + 0, w) else some ((0 + 1) + 1, w))))) else jg (jin 1 3) ((if (w.2.1 191 (Int32.toNatClampNeg 1)) = 0 then jg (jin 2 3) ((if (w.2.1 191 (Int32.toNatClampNeg 2)) = 0 then some ((1 + 0) + 0, w) else some ((1 + 0) + 1, w))) else jg (jin 2 3) ((if (w.2.1 191 (Int32.toNatClampNeg 2)) = 0 then some ((1 + 1) + 0, w) else some ((1 + 1) + 1, w))))))) else (if a1.toInt = 8 then jbd2 (f_X12_keyFrom 999 (-1) w) fun x41 w42 => some (x41, w42) else (if a1.toInt = 9 then jbd2 (f_X12_keyFrom 0 1 w) fun x45 w46 => some (x45, w46) else (if a1.toInt = 10 then (l_X12_count jfu a1 0 0 w) else some ((-1), w))))))))))))
set_option maxRecDepth 20000 in
set_option maxHeartbeats 2000000 in
theorem s_X12_count {E : jE} (hE : jfull E) {a1 : Int32} {w w' : jw} {v : Int32} (hf : f_X12_count a1 w = some (v, w')) : jC E m_X12_count 3 [.ref (E.2.2.2 + 162), .int a1] w (some (.int v)) w' := by
  refine jC_of (ls := [(0, .ref (E.2.2.2 + 162)), (1, .int a1)]) (by decide) rfl (fun _ => trivial) (Nat.le_of_ble_eq_true rfl) rfl ⟨.int, rfl, rfl⟩ ?_
  unfold f_X12_count at hf
  refine jx_iconst (v := 0) dX12_count_0 (by decide) ?_
  refine jx_istore_n (ls' := [(0, .ref (E.2.2.2 + 162)), (1, .int a1), (2, .int 0)]) dX12_count_1 (by decide) rfl ?_
  refine jx_iload_n dX12_count_2 rfl ?_
  by_cases c9 : a1.toInt = 0
  · rw [if_pos c9] at hf
    refine jx_tableIn (off := 57) (tgt := 60) dX12_count_3 (by omega) (by omega) (by rw [c9]; rfl) (by decide) ?_
    refine jx_aload_n dX12_count_60 rfl ?_
    refine jx_getr dX12_count_61 fl_X12_77 (kj_162 hE) sr_162_34 ?_
    refine jx_iconst (v := 0) dX12_count_64 (by decide) ?_
    obtain ⟨c10, hf⟩ := jg_inv hf
    refine jx_iald dX12_count_65 (kj_182 hE) (jin_vp c10) ?_
    cases hf
    exact jx_iret dX12_count_66 rfl rfl
  rw [if_neg c9] at hf
  by_cases c11 : a1.toInt = 1
  · rw [if_pos c11] at hf
    refine jx_tableIn (off := 64) (tgt := 67) dX12_count_3 (by omega) (by omega) (by rw [c11]; rfl) (by decide) ?_
    refine jx_aload_n dX12_count_67 rfl ?_
    refine jx_getr dX12_count_68 fl_X12_77 (kj_162 hE) sr_162_34 ?_
    refine jx_bipush (v := 7) dX12_count_71 (by decide) ?_
    obtain ⟨c12, hf⟩ := jg_inv hf
    refine jx_iald dX12_count_73 (kj_182 hE) (jin_vp c12) ?_
    cases hf
    exact jx_iret dX12_count_74 rfl rfl
  rw [if_neg c11] at hf
  by_cases c13 : a1.toInt = 2
  · rw [if_pos c13] at hf
    refine jx_tableIn (off := 72) (tgt := 75) dX12_count_3 (by omega) (by omega) (by rw [c13]; rfl) (by decide) ?_
    refine jx_aload_n dX12_count_75 rfl ?_
    refine jx_getr dX12_count_76 fl_X12_77 (kj_162 hE) sr_162_34 ?_
    refine jx_iconst (v := 1) dX12_count_79 (by decide) ?_
    obtain ⟨c14, hf⟩ := jg_inv hf
    refine jx_iald dX12_count_80 (kj_182 hE) (jin_vp c14) ?_
    cases hf
    exact jx_iret dX12_count_81 rfl rfl
  rw [if_neg c13] at hf
  by_cases c15 : a1.toInt = 3
  · rw [if_pos c15] at hf
    refine jx_tableIn (off := 79) (tgt := 82) dX12_count_3 (by omega) (by omega) (by rw [c15]; rfl) (by decide) ?_
    refine jx_aload_n dX12_count_82 rfl ?_
    obtain ⟨x17, w18, hq16, hf⟩ := jbd2_inv hf
    refine jx_cVi (a := 162) (As := []) (rest := []) dX12_count_83 ml_X12_288 mv_X12_weak (s_X12_weak hE hq16) rfl rfl (jc_162 hE) (by decide) (Nat.le_of_ble_eq_true rfl) ?_
    cases hf
    exact jx_iret dX12_count_86 rfl rfl
  rw [if_neg c15] at hf
  by_cases c19 : a1.toInt = 4
  · rw [if_pos c19] at hf
    refine jx_tableIn (off := 84) (tgt := 87) dX12_count_3 (by omega) (by omega) (by rw [c19]; rfl) (by decide) ?_
    refine jx_aload_n dX12_count_87 rfl ?_
    refine jx_getr dX12_count_88 fl_X12_77 (kj_162 hE) sr_162_34 ?_
    refine jx_iconst (v := 5) dX12_count_91 (by decide) ?_
    obtain ⟨c20, hf⟩ := jg_inv hf
    refine jx_iald dX12_count_92 (kj_182 hE) (jin_vp c20) ?_
    cases hf
    exact jx_iret dX12_count_93 rfl rfl
  rw [if_neg c19] at hf
  by_cases c21 : a1.toInt = 5
  · rw [if_pos c21] at hf
    refine jx_tableIn (off := 91) (tgt := 94) dX12_count_3 (by omega) (by omega) (by rw [c21]; rfl) (by decide) ?_
    refine jx_aload_n dX12_count_94 rfl ?_
    refine jx_getr dX12_count_95 fl_X12_77 (kj_162 hE) sr_162_34 ?_
    refine jx_bipush (v := 6) dX12_count_98 (by decide) ?_
    obtain ⟨c22, hf⟩ := jg_inv hf
    refine jx_iald dX12_count_100 (kj_182 hE) (jin_vp c22) ?_
    cases hf
    exact jx_iret dX12_count_101 rfl rfl
  rw [if_neg c21] at hf
  by_cases c23 : a1.toInt = 6
  · rw [if_pos c23] at hf
    refine jx_tableIn (off := 99) (tgt := 102) dX12_count_3 (by omega) (by omega) (by rw [c23]; rfl) (by decide) ?_
    refine jx_aload_n dX12_count_102 rfl ?_
    refine jx_geti dX12_count_103 fl_X12_120 (kj_162 hE) sr_162_2 ?_
    cases hf
    exact jx_iret dX12_count_106 rfl rfl
  rw [if_neg c23] at hf
  by_cases c24 : a1.toInt = 7
  · rw [if_pos c24] at hf
    refine jx_tableIn (off := 104) (tgt := 107) dX12_count_3 (by omega) (by omega) (by rw [c24]; rfl) (by decide) ?_
    refine jx_aload_n dX12_count_107 rfl ?_
    refine jx_getr dX12_count_108 fl_X12_104 (kj_162 hE) sr_162_46 ?_
    refine jx_iconst (v := 0) dX12_count_111 (by decide) ?_
    obtain ⟨c25, hf⟩ := jg_inv hf
    refine jx_zald dX12_count_112 (kj_191 hE) (jin_vp c25) ?_
    refine jx_if_eq (tgt := 120) dX12_count_113 (by decide) (fun c26 => ?_) (fun c26 => ?_)
    · rw [if_pos c26] at hf
      refine jx_iconst (v := 0) dX12_count_120 (by decide) ?_
      refine jx_aload_n dX12_count_121 rfl ?_
      refine jx_getr dX12_count_122 fl_X12_104 (kj_162 hE) sr_162_46 ?_
      refine jx_iconst (v := 1) dX12_count_125 (by decide) ?_
      obtain ⟨c27, hf⟩ := jg_inv hf
      refine jx_zald dX12_count_126 (kj_191 hE) (jin_vp c27) ?_
      refine jx_if_eq (tgt := 134) dX12_count_127 (by decide) (fun c28 => ?_) (fun c28 => ?_)
      · rw [if_pos c28] at hf
        refine jx_iconst (v := 0) dX12_count_134 (by decide) ?_
        refine jx_iadd dX12_count_135 ?_
        refine jx_aload_n dX12_count_136 rfl ?_
        refine jx_getr dX12_count_137 fl_X12_104 (kj_162 hE) sr_162_46 ?_
        refine jx_iconst (v := 2) dX12_count_140 (by decide) ?_
        obtain ⟨c29, hf⟩ := jg_inv hf
        refine jx_zald dX12_count_141 (kj_191 hE) (jin_vp c29) ?_
        refine jx_if_eq (tgt := 149) dX12_count_142 (by decide) (fun c30 => ?_) (fun c30 => ?_)
        · rw [if_pos c30] at hf
          refine jx_iconst (v := 0) dX12_count_149 (by decide) ?_
          refine jx_iadd dX12_count_150 ?_
          cases hf
          exact jx_iret dX12_count_151 rfl rfl
        · rw [if_neg c30] at hf
          refine jx_iconst (v := 1) dX12_count_145 (by decide) ?_
          refine jx_goto (tgt := 150) dX12_count_146 (by decide) ?_
          refine jx_iadd dX12_count_150 ?_
          cases hf
          exact jx_iret dX12_count_151 rfl rfl
      · rw [if_neg c28] at hf
        refine jx_iconst (v := 1) dX12_count_130 (by decide) ?_
        refine jx_goto (tgt := 135) dX12_count_131 (by decide) ?_
        refine jx_iadd dX12_count_135 ?_
        refine jx_aload_n dX12_count_136 rfl ?_
        refine jx_getr dX12_count_137 fl_X12_104 (kj_162 hE) sr_162_46 ?_
        refine jx_iconst (v := 2) dX12_count_140 (by decide) ?_
        obtain ⟨c31, hf⟩ := jg_inv hf
        refine jx_zald dX12_count_141 (kj_191 hE) (jin_vp c31) ?_
        refine jx_if_eq (tgt := 149) dX12_count_142 (by decide) (fun c32 => ?_) (fun c32 => ?_)
        · rw [if_pos c32] at hf
          refine jx_iconst (v := 0) dX12_count_149 (by decide) ?_
          refine jx_iadd dX12_count_150 ?_
          cases hf
          exact jx_iret dX12_count_151 rfl rfl
        · rw [if_neg c32] at hf
          refine jx_iconst (v := 1) dX12_count_145 (by decide) ?_
          refine jx_goto (tgt := 150) dX12_count_146 (by decide) ?_
          refine jx_iadd dX12_count_150 ?_
          cases hf
          exact jx_iret dX12_count_151 rfl rfl
    · rw [if_neg c26] at hf
      refine jx_iconst (v := 1) dX12_count_116 (by decide) ?_
      refine jx_goto (tgt := 121) dX12_count_117 (by decide) ?_
      refine jx_aload_n dX12_count_121 rfl ?_
      refine jx_getr dX12_count_122 fl_X12_104 (kj_162 hE) sr_162_46 ?_
      refine jx_iconst (v := 1) dX12_count_125 (by decide) ?_
      obtain ⟨c33, hf⟩ := jg_inv hf
      refine jx_zald dX12_count_126 (kj_191 hE) (jin_vp c33) ?_
      refine jx_if_eq (tgt := 134) dX12_count_127 (by decide) (fun c34 => ?_) (fun c34 => ?_)
      · rw [if_pos c34] at hf
        refine jx_iconst (v := 0) dX12_count_134 (by decide) ?_
        refine jx_iadd dX12_count_135 ?_
        refine jx_aload_n dX12_count_136 rfl ?_
        refine jx_getr dX12_count_137 fl_X12_104 (kj_162 hE) sr_162_46 ?_
        refine jx_iconst (v := 2) dX12_count_140 (by decide) ?_
        obtain ⟨c35, hf⟩ := jg_inv hf
        refine jx_zald dX12_count_141 (kj_191 hE) (jin_vp c35) ?_
        refine jx_if_eq (tgt := 149) dX12_count_142 (by decide) (fun c36 => ?_) (fun c36 => ?_)
        · rw [if_pos c36] at hf
          refine jx_iconst (v := 0) dX12_count_149 (by decide) ?_
          refine jx_iadd dX12_count_150 ?_
          cases hf
          exact jx_iret dX12_count_151 rfl rfl
        · rw [if_neg c36] at hf
          refine jx_iconst (v := 1) dX12_count_145 (by decide) ?_
          refine jx_goto (tgt := 150) dX12_count_146 (by decide) ?_
          refine jx_iadd dX12_count_150 ?_
          cases hf
          exact jx_iret dX12_count_151 rfl rfl
      · rw [if_neg c34] at hf
        refine jx_iconst (v := 1) dX12_count_130 (by decide) ?_
        refine jx_goto (tgt := 135) dX12_count_131 (by decide) ?_
        refine jx_iadd dX12_count_135 ?_
        refine jx_aload_n dX12_count_136 rfl ?_
        refine jx_getr dX12_count_137 fl_X12_104 (kj_162 hE) sr_162_46 ?_
        refine jx_iconst (v := 2) dX12_count_140 (by decide) ?_
        obtain ⟨c37, hf⟩ := jg_inv hf
        refine jx_zald dX12_count_141 (kj_191 hE) (jin_vp c37) ?_
        refine jx_if_eq (tgt := 149) dX12_count_142 (by decide) (fun c38 => ?_) (fun c38 => ?_)
        · rw [if_pos c38] at hf
          refine jx_iconst (v := 0) dX12_count_149 (by decide) ?_
          refine jx_iadd dX12_count_150 ?_
          cases hf
          exact jx_iret dX12_count_151 rfl rfl
        · rw [if_neg c38] at hf
          refine jx_iconst (v := 1) dX12_count_145 (by decide) ?_
          refine jx_goto (tgt := 150) dX12_count_146 (by decide) ?_
          refine jx_iadd dX12_count_150 ?_
          cases hf
          exact jx_iret dX12_count_151 rfl rfl
  rw [if_neg c24] at hf
  by_cases c39 : a1.toInt = 8
  · rw [if_pos c39] at hf
    refine jx_tableIn (off := 149) (tgt := 152) dX12_count_3 (by omega) (by omega) (by rw [c39]; rfl) (by decide) ?_
    refine jx_aload_n dX12_count_152 rfl ?_
    refine jx_sipush (v := 999) dX12_count_153 (by decide) ?_
    refine jx_iconst (v := (-1)) dX12_count_156 (by decide) ?_
    obtain ⟨x41, w42, hq40, hf⟩ := jbd2_inv hf
    refine jx_cVi (a := 162) (As := [.int 999, .int (-1)]) (rest := []) dX12_count_157 ml_X12_387 mv_X12_keyFrom (s_X12_keyFrom hE hq40) rfl rfl (jc_162 hE) (by decide) (Nat.le_of_ble_eq_true rfl) ?_
    cases hf
    exact jx_iret dX12_count_160 rfl rfl
  rw [if_neg c39] at hf
  by_cases c43 : a1.toInt = 9
  · rw [if_pos c43] at hf
    refine jx_tableIn (off := 158) (tgt := 161) dX12_count_3 (by omega) (by omega) (by rw [c43]; rfl) (by decide) ?_
    refine jx_aload_n dX12_count_161 rfl ?_
    refine jx_iconst (v := 0) dX12_count_162 (by decide) ?_
    refine jx_iconst (v := 1) dX12_count_163 (by decide) ?_
    obtain ⟨x45, w46, hq44, hf⟩ := jbd2_inv hf
    refine jx_cVi (a := 162) (As := [.int 0, .int 1]) (rest := []) dX12_count_164 ml_X12_387 mv_X12_keyFrom (s_X12_keyFrom hE hq44) rfl rfl (jc_162 hE) (by decide) (Nat.le_of_ble_eq_true rfl) ?_
    cases hf
    exact jx_iret dX12_count_167 rfl rfl
  rw [if_neg c43] at hf
  by_cases c47 : a1.toInt = 10
  · rw [if_pos c47] at hf
    refine jx_tableIn (off := 165) (tgt := 168) dX12_count_3 (by omega) (by omega) (by rw [c47]; rfl) (by decide) ?_
    refine jx_iconst (v := 0) dX12_count_168 (by decide) ?_
    refine jx_istore_n (ls' := [(0, .ref (E.2.2.2 + 162)), (1, .int a1), (2, .int 0), (3, .int 0)]) dX12_count_169 (by decide) rfl ?_
    exact sl_X12_count hE jfu _ _ _ _ _ _ hf
  rw [if_neg c47] at hf
  refine jx_tableOut (tgt := 214) dX12_count_3 (by omega) (by decide) ?_
  refine jx_iconst (v := (-1)) dX12_count_214 (by decide) ?_
  cases hf
  exact jx_iret dX12_count_215 rfl rfl
