def l_X1_makePages : Nat → Int32 → Int32 → Int32 → Int32 → Int32 → Int32 → jw → Option (jw)
  | 0, _, _, _, _, _, _, _ => none
  | n + 1, b1, b2, b3, b4, b5, b6, w => (if (w.1 54 3) ≤ b6 then some w else (if 32 ≤ b6 then some w else (if b6 = b4 then jbd2 (f_X6_open b1 b2 w) fun x10 w11 => jg (jin b6 32) (jl (jsetI w11 51 6 (w11.2.1 55 (Int32.toNatClampNeg b6))) fun w13 => jg (jin b6 32) (jg (jin b6 32) (jg (jin b6 32) (jbd (f_X6_append x10 (w13.2.1 55 (Int32.toNatClampNeg b6)) (w13.2.1 56 (Int32.toNatClampNeg b6)) (w13.2.1 57 (Int32.toNatClampNeg b6)) w13) fun q17 => jl (b6 + 1) fun x18 => (l_X1_makePages n b1 b2 b3 b4 x10 x18 q17))))) else jg (jin b6 32) (jg (jin b6 32) (jg (jin b6 32) (jbd (f_X6_append b5 (w.2.1 55 (Int32.toNatClampNeg b6)) (w.2.1 56 (Int32.toNatClampNeg b6)) (w.2.1 57 (Int32.toNatClampNeg b6)) w) fun q7 => jl (b6 + 1) fun x8 => (l_X1_makePages n b1 b2 b3 b4 b5 x8 q7)))))))
set_option maxRecDepth 20000 in
set_option maxHeartbeats 2000000 in
theorem sl_X1_makePages {E : jE} (hE : jfull E) : ∀ (n : Nat) (b1 : Int32) (b2 : Int32) (b3 : Int32) (b4 : Int32) (b5 : Int32) (b6 : Int32) (w : jw) (w' : jw), l_X1_makePages n b1 b2 b3 b4 b5 b6 w = some w' → jX E m_X1_makePages 4 77 [(0, .ref (E.2.2.2 + 51)), (1, .int b1), (2, .int b2), (3, .int b3), (4, .int b4), (5, .int b5), (6, .int b6)] [] w none w' := by
  intro n
  induction n with
  | zero => intro b1 b2 b3 b4 b5 b6 w w' hf; cases hf
  | succ n ih =>
    intro b1 b2 b3 b4 b5 b6 w w' hf
    unfold l_X1_makePages at hf
    refine jx_iload dX1_makePages_77 rfl ?_
    refine jx_aload_n dX1_makePages_79 rfl ?_
    refine jx_getr dX1_makePages_80 fl_X1_34 kj_51 sr_51_3 ?_
    refine jx_geti dX1_makePages_83 fl_X1_75 kj_54 sr_54_3 ?_
    refine jx_icmp_ge (tgt := 173) dX1_makePages_86 (by decide) (fun c1 => ?_) (fun c1 => ?_)
    · rw [if_pos c1] at hf
      cases hf
      exact jx_vret dX1_makePages_173 rfl rfl
    · rw [if_neg c1] at hf
      refine jx_iload dX1_makePages_89 rfl ?_
      refine jx_bipush (v := 32) dX1_makePages_91 (by decide) ?_
      refine jx_icmp_ge (tgt := 173) dX1_makePages_93 (by decide) (fun c2 => ?_) (fun c2 => ?_)
      · rw [if_pos c2] at hf
        cases hf
        exact jx_vret dX1_makePages_173 rfl rfl
      · rw [if_neg c2] at hf
        refine jx_iload dX1_makePages_96 rfl ?_
        refine jx_iload dX1_makePages_98 rfl ?_
        refine jx_icmp_ne (tgt := 128) dX1_makePages_100 (by decide) (fun c3 => ?_) (fun c3 => ?_)
        · rw [if_neg c3] at hf
          refine jx_aload_n dX1_makePages_128 rfl ?_
          refine jx_getr dX1_makePages_129 fl_X1_21 kj_51 sr_51_1 ?_
          refine jx_iload dX1_makePages_132 rfl ?_
          refine jx_aload_n dX1_makePages_134 rfl ?_
          refine jx_getr dX1_makePages_135 fl_X1_34 kj_51 sr_51_3 ?_
          refine jx_getr dX1_makePages_138 fl_X1_170 kj_54 sr_54_0 ?_
          refine jx_iload dX1_makePages_141 rfl ?_
          obtain ⟨c4, hf⟩ := jg_inv hf
          refine jx_iald dX1_makePages_143 kj_55 (jin_vp c4) ?_
          refine jx_aload_n dX1_makePages_144 rfl ?_
          refine jx_getr dX1_makePages_145 fl_X1_34 kj_51 sr_51_3 ?_
          refine jx_getr dX1_makePages_148 fl_X1_173 kj_54 sr_54_1 ?_
          refine jx_iload dX1_makePages_151 rfl ?_
          obtain ⟨c5, hf⟩ := jg_inv hf
          refine jx_iald dX1_makePages_153 kj_56 (jin_vp c5) ?_
          refine jx_aload_n dX1_makePages_154 rfl ?_
          refine jx_getr dX1_makePages_155 fl_X1_34 kj_51 sr_51_3 ?_
          refine jx_getr dX1_makePages_158 fl_X1_175 kj_54 sr_54_2 ?_
          refine jx_iload dX1_makePages_161 rfl ?_
          obtain ⟨c6, hf⟩ := jg_inv hf
          refine jx_iald dX1_makePages_163 kj_57 (jin_vp c6) ?_
          obtain ⟨q7, hq7, hf⟩ := jbd_inv hf
          refine jx_cVv (a := 18) (As := [.int b5, .int (w.2.1 55 (Int32.toNatClampNeg b6)), .int (w.2.1 56 (Int32.toNatClampNeg b6)), .int (w.2.1 57 (Int32.toNatClampNeg b6))]) (rest := []) dX1_makePages_164 ml_X1_71 mv_X6_append (s_X6_append hE hq7) rfl rfl jc_18 (by decide) (Nat.le_of_ble_eq_true rfl) ?_
          obtain ⟨x8, hx8, hf⟩ := jl_inv hf
          refine jx_iinc (v := x8) (ls' := [(0, .ref (E.2.2.2 + 51)), (1, .int b1), (2, .int b2), (3, .int b3), (4, .int b4), (5, .int b5), (6, .int x8)]) dX1_makePages_167 rfl (by rw [hx8]; rfl) (by decide) rfl ?_
          refine jx_goto (tgt := 77) dX1_makePages_170 (by decide) ?_
          exact ih _ _ _ _ _ _ _ _ hf
        · rw [if_pos c3] at hf
          refine jx_aload_n dX1_makePages_103 rfl ?_
          refine jx_getr dX1_makePages_104 fl_X1_21 kj_51 sr_51_1 ?_
          refine jx_iload_n dX1_makePages_107 rfl ?_
          refine jx_iload_n dX1_makePages_108 rfl ?_
          obtain ⟨x10, w11, hq9, hf⟩ := jbd2_inv hf
          refine jx_cVi (a := 18) (As := [.int b1, .int b2]) (rest := []) dX1_makePages_109 ml_X1_161 mv_X6_open (s_X6_open hE hq9) rfl rfl jc_18 (by decide) (Nat.le_of_ble_eq_true rfl) ?_
          refine jx_istore (ls' := [(0, .ref (E.2.2.2 + 51)), (1, .int b1), (2, .int b2), (3, .int b3), (4, .int b4), (5, .int x10), (6, .int b6)]) dX1_makePages_112 (by decide) rfl ?_
          refine jx_aload_n dX1_makePages_114 rfl ?_
          refine jx_aload_n dX1_makePages_115 rfl ?_
          refine jx_getr dX1_makePages_116 fl_X1_34 kj_51 sr_51_3 ?_
          refine jx_getr dX1_makePages_119 fl_X1_170 kj_54 sr_54_0 ?_
          refine jx_iload dX1_makePages_122 rfl ?_
          obtain ⟨c12, hf⟩ := jg_inv hf
          refine jx_iald dX1_makePages_124 kj_55 (jin_vp c12) ?_
          refine jx_puti dX1_makePages_125 fp_X1_167 kj_51 sr_51_6 rfl rfl ?_
          obtain ⟨w13, hw13, hf⟩ := jl_inv hf
          refine jx_nw hw13 ?_
          refine jx_aload_n dX1_makePages_128 rfl ?_
          refine jx_getr dX1_makePages_129 fl_X1_21 kj_51 sr_51_1 ?_
          refine jx_iload dX1_makePages_132 rfl ?_
          refine jx_aload_n dX1_makePages_134 rfl ?_
          refine jx_getr dX1_makePages_135 fl_X1_34 kj_51 sr_51_3 ?_
          refine jx_getr dX1_makePages_138 fl_X1_170 kj_54 sr_54_0 ?_
          refine jx_iload dX1_makePages_141 rfl ?_
          obtain ⟨c14, hf⟩ := jg_inv hf
          refine jx_iald dX1_makePages_143 kj_55 (jin_vp c14) ?_
          refine jx_aload_n dX1_makePages_144 rfl ?_
          refine jx_getr dX1_makePages_145 fl_X1_34 kj_51 sr_51_3 ?_
          refine jx_getr dX1_makePages_148 fl_X1_173 kj_54 sr_54_1 ?_
          refine jx_iload dX1_makePages_151 rfl ?_
          obtain ⟨c15, hf⟩ := jg_inv hf
          refine jx_iald dX1_makePages_153 kj_56 (jin_vp c15) ?_
          refine jx_aload_n dX1_makePages_154 rfl ?_
          refine jx_getr dX1_makePages_155 fl_X1_34 kj_51 sr_51_3 ?_
          refine jx_getr dX1_makePages_158 fl_X1_175 kj_54 sr_54_2 ?_
          refine jx_iload dX1_makePages_161 rfl ?_
          obtain ⟨c16, hf⟩ := jg_inv hf
          refine jx_iald dX1_makePages_163 kj_57 (jin_vp c16) ?_
          obtain ⟨q17, hq17, hf⟩ := jbd_inv hf
          refine jx_cVv (a := 18) (As := [.int x10, .int (w13.2.1 55 (Int32.toNatClampNeg b6)), .int (w13.2.1 56 (Int32.toNatClampNeg b6)), .int (w13.2.1 57 (Int32.toNatClampNeg b6))]) (rest := []) dX1_makePages_164 ml_X1_71 mv_X6_append (s_X6_append hE hq17) rfl rfl jc_18 (by decide) (Nat.le_of_ble_eq_true rfl) ?_
          obtain ⟨x18, hx18, hf⟩ := jl_inv hf
          refine jx_iinc (v := x18) (ls' := [(0, .ref (E.2.2.2 + 51)), (1, .int b1), (2, .int b2), (3, .int b3), (4, .int b4), (5, .int x10), (6, .int x18)]) dX1_makePages_167 rfl (by rw [hx18]; rfl) (by decide) rfl ?_
          refine jx_goto (tgt := 77) dX1_makePages_170 (by decide) ?_
          exact ih _ _ _ _ _ _ _ _ hf
def f_X1_makePages (a1 : Int32) (a2 : Int32) (w : jw) : Option (jw) := (if (w.1 54 3) ≤ ((w.1 18 8) - 2) then (if (0 : Int32) = 0 then jl (w.1 54 3 : Int32) fun x21 => jbd2 (f_X6_open a1 a2 w) fun x23 w24 => jl (jsetI w24 51 4 x23) fun w25 => jl (w25.1 51 4 : Int32) fun x26 => jl (jsetI w25 51 6 (-1)) fun w27 => (l_X1_makePages jfu a1 a2 0 x21 x26 0 w27) else jl ((w.1 54 3) / 2 : Int32) fun x29 => jbd2 (f_X6_open a1 a2 w) fun x31 w32 => jl (jsetI w32 51 4 x31) fun w33 => jl (w33.1 51 4 : Int32) fun x34 => jl (jsetI w33 51 6 (-1)) fun w35 => (l_X1_makePages jfu a1 a2 0 x29 x34 0 w35)) else (if (1 : Int32) = 0 then jl (w.1 54 3 : Int32) fun x37 => jbd2 (f_X6_open a1 a2 w) fun x39 w40 => jl (jsetI w40 51 4 x39) fun w41 => jl (w41.1 51 4 : Int32) fun x42 => jl (jsetI w41 51 6 (-1)) fun w43 => (l_X1_makePages jfu a1 a2 1 x37 x42 0 w43) else jl ((w.1 54 3) / 2 : Int32) fun x45 => jbd2 (f_X6_open a1 a2 w) fun x47 w48 => jl (jsetI w48 51 4 x47) fun w49 => jl (w49.1 51 4 : Int32) fun x50 => jl (jsetI w49 51 6 (-1)) fun w51 => (l_X1_makePages jfu a1 a2 1 x45 x50 0 w51)))
set_option maxRecDepth 20000 in
set_option maxHeartbeats 2000000 in
theorem s_X1_makePages {E : jE} (hE : jfull E) {a1 : Int32} {a2 : Int32} {w w' : jw} (hf : f_X1_makePages a1 a2 w = some w') : jC E m_X1_makePages 4 [.ref (E.2.2.2 + 51), .int a1, .int a2] w none w' := by
  refine jC_of (ls := [(0, .ref (E.2.2.2 + 51)), (1, .int a1), (2, .int a2)]) (by decide) rfl (fun _ => trivial) (Nat.le_of_ble_eq_true rfl) rfl rfl ?_
  unfold f_X1_makePages at hf
  refine jx_aload_n dX1_makePages_0 rfl ?_
  refine jx_getr dX1_makePages_1 fl_X1_34 kj_51 sr_51_3 ?_
  refine jx_geti dX1_makePages_4 fl_X1_75 kj_54 sr_54_3 ?_
  refine jx_aload_n dX1_makePages_7 rfl ?_
  refine jx_getr dX1_makePages_8 fl_X1_21 kj_51 sr_51_1 ?_
  refine jx_geti dX1_makePages_11 fl_X1_68 kj_18 sr_18_8 ?_
  refine jx_iconst (v := 2) dX1_makePages_14 (by decide) ?_
  refine jx_isub dX1_makePages_15 ?_
  refine jx_icmp_le (tgt := 23) dX1_makePages_16 (by decide) (fun c19 => ?_) (fun c19 => ?_)
  · rw [if_pos c19] at hf
    refine jx_iconst (v := 0) dX1_makePages_23 (by decide) ?_
    refine jx_istore_n (ls' := [(0, .ref (E.2.2.2 + 51)), (1, .int a1), (2, .int a2), (3, .int 0)]) dX1_makePages_24 (by decide) rfl ?_
    refine jx_iload_n dX1_makePages_25 rfl ?_
    refine jx_if_eq (tgt := 41) dX1_makePages_26 (by decide) (fun c20 => ?_) (fun c20 => ?_)
    · rw [if_pos c20] at hf
      refine jx_aload_n dX1_makePages_41 rfl ?_
      refine jx_getr dX1_makePages_42 fl_X1_34 kj_51 sr_51_3 ?_
      refine jx_geti dX1_makePages_45 fl_X1_75 kj_54 sr_54_3 ?_
      obtain ⟨x21, hx21, hf⟩ := jl_inv hf
      refine jx_nm hx21 ?_
      refine jx_istore (ls' := [(0, .ref (E.2.2.2 + 51)), (1, .int a1), (2, .int a2), (3, .int 0), (4, .int x21)]) dX1_makePages_48 (by decide) rfl ?_
      refine jx_aload_n dX1_makePages_50 rfl ?_
      refine jx_aload_n dX1_makePages_51 rfl ?_
      refine jx_getr dX1_makePages_52 fl_X1_21 kj_51 sr_51_1 ?_
      refine jx_iload_n dX1_makePages_55 rfl ?_
      refine jx_iload_n dX1_makePages_56 rfl ?_
      obtain ⟨x23, w24, hq22, hf⟩ := jbd2_inv hf
      refine jx_cVi (a := 18) (As := [.int a1, .int a2]) (rest := [.ref (E.2.2.2 + 51)]) dX1_makePages_57 ml_X1_161 mv_X6_open (s_X6_open hE hq22) rfl rfl jc_18 (by decide) (Nat.le_of_ble_eq_true rfl) ?_
      refine jx_puti dX1_makePages_60 fp_X1_164 kj_51 sr_51_4 rfl rfl ?_
      obtain ⟨w25, hw25, hf⟩ := jl_inv hf
      refine jx_nw hw25 ?_
      refine jx_aload_n dX1_makePages_63 rfl ?_
      refine jx_geti dX1_makePages_64 fl_X1_164 kj_51 sr_51_4 ?_
      obtain ⟨x26, hx26, hf⟩ := jl_inv hf
      refine jx_nm hx26 ?_
      refine jx_istore (ls' := [(0, .ref (E.2.2.2 + 51)), (1, .int a1), (2, .int a2), (3, .int 0), (4, .int x21), (5, .int x26)]) dX1_makePages_67 (by decide) rfl ?_
      refine jx_aload_n dX1_makePages_69 rfl ?_
      refine jx_iconst (v := (-1)) dX1_makePages_70 (by decide) ?_
      refine jx_puti dX1_makePages_71 fp_X1_167 kj_51 sr_51_6 rfl rfl ?_
      obtain ⟨w27, hw27, hf⟩ := jl_inv hf
      refine jx_nw hw27 ?_
      refine jx_iconst (v := 0) dX1_makePages_74 (by decide) ?_
      refine jx_istore (ls' := [(0, .ref (E.2.2.2 + 51)), (1, .int a1), (2, .int a2), (3, .int 0), (4, .int x21), (5, .int x26), (6, .int 0)]) dX1_makePages_75 (by decide) rfl ?_
      exact sl_X1_makePages hE jfu _ _ _ _ _ _ _ _ hf
    · rw [if_neg c20] at hf
      refine jx_aload_n dX1_makePages_29 rfl ?_
      refine jx_getr dX1_makePages_30 fl_X1_34 kj_51 sr_51_3 ?_
      refine jx_geti dX1_makePages_33 fl_X1_75 kj_54 sr_54_3 ?_
      refine jx_iconst (v := 2) dX1_makePages_36 (by decide) ?_
      refine jx_idiv dX1_makePages_37 (by decide) ?_
      refine jx_goto (tgt := 48) dX1_makePages_38 (by decide) ?_
      obtain ⟨x29, hx29, hf⟩ := jl_inv hf
      refine jx_nm hx29 ?_
      refine jx_istore (ls' := [(0, .ref (E.2.2.2 + 51)), (1, .int a1), (2, .int a2), (3, .int 0), (4, .int x29)]) dX1_makePages_48 (by decide) rfl ?_
      refine jx_aload_n dX1_makePages_50 rfl ?_
      refine jx_aload_n dX1_makePages_51 rfl ?_
      refine jx_getr dX1_makePages_52 fl_X1_21 kj_51 sr_51_1 ?_
      refine jx_iload_n dX1_makePages_55 rfl ?_
      refine jx_iload_n dX1_makePages_56 rfl ?_
      obtain ⟨x31, w32, hq30, hf⟩ := jbd2_inv hf
      refine jx_cVi (a := 18) (As := [.int a1, .int a2]) (rest := [.ref (E.2.2.2 + 51)]) dX1_makePages_57 ml_X1_161 mv_X6_open (s_X6_open hE hq30) rfl rfl jc_18 (by decide) (Nat.le_of_ble_eq_true rfl) ?_
      refine jx_puti dX1_makePages_60 fp_X1_164 kj_51 sr_51_4 rfl rfl ?_
      obtain ⟨w33, hw33, hf⟩ := jl_inv hf
      refine jx_nw hw33 ?_
      refine jx_aload_n dX1_makePages_63 rfl ?_
      refine jx_geti dX1_makePages_64 fl_X1_164 kj_51 sr_51_4 ?_
      obtain ⟨x34, hx34, hf⟩ := jl_inv hf
      refine jx_nm hx34 ?_
      refine jx_istore (ls' := [(0, .ref (E.2.2.2 + 51)), (1, .int a1), (2, .int a2), (3, .int 0), (4, .int x29), (5, .int x34)]) dX1_makePages_67 (by decide) rfl ?_
      refine jx_aload_n dX1_makePages_69 rfl ?_
      refine jx_iconst (v := (-1)) dX1_makePages_70 (by decide) ?_
      refine jx_puti dX1_makePages_71 fp_X1_167 kj_51 sr_51_6 rfl rfl ?_
      obtain ⟨w35, hw35, hf⟩ := jl_inv hf
      refine jx_nw hw35 ?_
      refine jx_iconst (v := 0) dX1_makePages_74 (by decide) ?_
      refine jx_istore (ls' := [(0, .ref (E.2.2.2 + 51)), (1, .int a1), (2, .int a2), (3, .int 0), (4, .int x29), (5, .int x34), (6, .int 0)]) dX1_makePages_75 (by decide) rfl ?_
      exact sl_X1_makePages hE jfu _ _ _ _ _ _ _ _ hf
  · rw [if_neg c19] at hf
    refine jx_iconst (v := 1) dX1_makePages_19 (by decide) ?_
    refine jx_goto (tgt := 24) dX1_makePages_20 (by decide) ?_
    refine jx_istore_n (ls' := [(0, .ref (E.2.2.2 + 51)), (1, .int a1), (2, .int a2), (3, .int 1)]) dX1_makePages_24 (by decide) rfl ?_
    refine jx_iload_n dX1_makePages_25 rfl ?_
    refine jx_if_eq (tgt := 41) dX1_makePages_26 (by decide) (fun c36 => ?_) (fun c36 => ?_)
    · rw [if_pos c36] at hf
      refine jx_aload_n dX1_makePages_41 rfl ?_
      refine jx_getr dX1_makePages_42 fl_X1_34 kj_51 sr_51_3 ?_
      refine jx_geti dX1_makePages_45 fl_X1_75 kj_54 sr_54_3 ?_
      obtain ⟨x37, hx37, hf⟩ := jl_inv hf
      refine jx_nm hx37 ?_
      refine jx_istore (ls' := [(0, .ref (E.2.2.2 + 51)), (1, .int a1), (2, .int a2), (3, .int 1), (4, .int x37)]) dX1_makePages_48 (by decide) rfl ?_
      refine jx_aload_n dX1_makePages_50 rfl ?_
      refine jx_aload_n dX1_makePages_51 rfl ?_
      refine jx_getr dX1_makePages_52 fl_X1_21 kj_51 sr_51_1 ?_
      refine jx_iload_n dX1_makePages_55 rfl ?_
      refine jx_iload_n dX1_makePages_56 rfl ?_
      obtain ⟨x39, w40, hq38, hf⟩ := jbd2_inv hf
      refine jx_cVi (a := 18) (As := [.int a1, .int a2]) (rest := [.ref (E.2.2.2 + 51)]) dX1_makePages_57 ml_X1_161 mv_X6_open (s_X6_open hE hq38) rfl rfl jc_18 (by decide) (Nat.le_of_ble_eq_true rfl) ?_
      refine jx_puti dX1_makePages_60 fp_X1_164 kj_51 sr_51_4 rfl rfl ?_
      obtain ⟨w41, hw41, hf⟩ := jl_inv hf
      refine jx_nw hw41 ?_
      refine jx_aload_n dX1_makePages_63 rfl ?_
      refine jx_geti dX1_makePages_64 fl_X1_164 kj_51 sr_51_4 ?_
      obtain ⟨x42, hx42, hf⟩ := jl_inv hf
      refine jx_nm hx42 ?_
      refine jx_istore (ls' := [(0, .ref (E.2.2.2 + 51)), (1, .int a1), (2, .int a2), (3, .int 1), (4, .int x37), (5, .int x42)]) dX1_makePages_67 (by decide) rfl ?_
      refine jx_aload_n dX1_makePages_69 rfl ?_
      refine jx_iconst (v := (-1)) dX1_makePages_70 (by decide) ?_
      refine jx_puti dX1_makePages_71 fp_X1_167 kj_51 sr_51_6 rfl rfl ?_
      obtain ⟨w43, hw43, hf⟩ := jl_inv hf
      refine jx_nw hw43 ?_
      refine jx_iconst (v := 0) dX1_makePages_74 (by decide) ?_
      refine jx_istore (ls' := [(0, .ref (E.2.2.2 + 51)), (1, .int a1), (2, .int a2), (3, .int 1), (4, .int x37), (5, .int x42), (6, .int 0)]) dX1_makePages_75 (by decide) rfl ?_
      exact sl_X1_makePages hE jfu _ _ _ _ _ _ _ _ hf
    · rw [if_neg c36] at hf
      refine jx_aload_n dX1_makePages_29 rfl ?_
      refine jx_getr dX1_makePages_30 fl_X1_34 kj_51 sr_51_3 ?_
      refine jx_geti dX1_makePages_33 fl_X1_75 kj_54 sr_54_3 ?_
      refine jx_iconst (v := 2) dX1_makePages_36 (by decide) ?_
      refine jx_idiv dX1_makePages_37 (by decide) ?_
      refine jx_goto (tgt := 48) dX1_makePages_38 (by decide) ?_
      obtain ⟨x45, hx45, hf⟩ := jl_inv hf
      refine jx_nm hx45 ?_
      refine jx_istore (ls' := [(0, .ref (E.2.2.2 + 51)), (1, .int a1), (2, .int a2), (3, .int 1), (4, .int x45)]) dX1_makePages_48 (by decide) rfl ?_
      refine jx_aload_n dX1_makePages_50 rfl ?_
      refine jx_aload_n dX1_makePages_51 rfl ?_
      refine jx_getr dX1_makePages_52 fl_X1_21 kj_51 sr_51_1 ?_
      refine jx_iload_n dX1_makePages_55 rfl ?_
      refine jx_iload_n dX1_makePages_56 rfl ?_
      obtain ⟨x47, w48, hq46, hf⟩ := jbd2_inv hf
      refine jx_cVi (a := 18) (As := [.int a1, .int a2]) (rest := [.ref (E.2.2.2 + 51)]) dX1_makePages_57 ml_X1_161 mv_X6_open (s_X6_open hE hq46) rfl rfl jc_18 (by decide) (Nat.le_of_ble_eq_true rfl) ?_
      refine jx_puti dX1_makePages_60 fp_X1_164 kj_51 sr_51_4 rfl rfl ?_
      obtain ⟨w49, hw49, hf⟩ := jl_inv hf
      refine jx_nw hw49 ?_
      refine jx_aload_n dX1_makePages_63 rfl ?_
      refine jx_geti dX1_makePages_64 fl_X1_164 kj_51 sr_51_4 ?_
      obtain ⟨x50, hx50, hf⟩ := jl_inv hf
      refine jx_nm hx50 ?_
      refine jx_istore (ls' := [(0, .ref (E.2.2.2 + 51)), (1, .int a1), (2, .int a2), (3, .int 1), (4, .int x45), (5, .int x50)]) dX1_makePages_67 (by decide) rfl ?_
      refine jx_aload_n dX1_makePages_69 rfl ?_
      refine jx_iconst (v := (-1)) dX1_makePages_70 (by decide) ?_
      refine jx_puti dX1_makePages_71 fp_X1_167 kj_51 sr_51_6 rfl rfl ?_
      obtain ⟨w51, hw51, hf⟩ := jl_inv hf
      refine jx_nw hw51 ?_
      refine jx_iconst (v := 0) dX1_makePages_74 (by decide) ?_
      refine jx_istore (ls' := [(0, .ref (E.2.2.2 + 51)), (1, .int a1), (2, .int a2), (3, .int 1), (4, .int x45), (5, .int x50), (6, .int 0)]) dX1_makePages_75 (by decide) rfl ?_
      exact sl_X1_makePages hE jfu _ _ _ _ _ _ _ _ hf
def l_X1_replaceUp : Nat → Int32 → Int32 → jw → Option (jw)
  | 0, _, _, _ => none
  | n + 1, b1, b2, w => (if b2 < 0 then some w else jl (rat (w.2.2.2 52) b2 : Int32) fun x2 => (if b2 ≤ 0 then jl (jsetR w 25 (rset (w.2.2.2 25) x2 b1)) fun w4 => jbd (f_X1_makePages (rat (w4.2.2.2 19) x2) b1 w4) fun q5 => (if b2 = 0 then jbd (f_X1_crown b1 q5) fun q12 => jl (b2 + (-1)) fun x13 => (l_X1_replaceUp n b1 x13 q12) else jbd2 (f_X1_handUp (b2 - 1) b1 q5) fun x8 w9 => (if (jb x8) = 0 then some w9 else jl (b2 + (-1)) fun x11 => (l_X1_replaceUp n b1 x11 w9))) else jbd (f_X1_leaveAbove x2 (rat (w.2.2.2 52) (b2 - 1)) b1 w) fun q14 => jl (jsetR q14 25 (rset (q14.2.2.2 25) x2 b1)) fun w15 => jbd (f_X1_makePages (rat (w15.2.2.2 19) x2) b1 w15) fun q16 => (if b2 = 0 then jbd (f_X1_crown b1 q16) fun q23 => jl (b2 + (-1)) fun x24 => (l_X1_replaceUp n b1 x24 q23) else jbd2 (f_X1_handUp (b2 - 1) b1 q16) fun x19 w20 => (if (jb x19) = 0 then some w20 else jl (b2 + (-1)) fun x22 => (l_X1_replaceUp n b1 x22 w20)))))
set_option maxRecDepth 20000 in
set_option maxHeartbeats 2000000 in
theorem sl_X1_replaceUp {E : jE} (hE : jfull E) : ∀ (n : Nat) (b1 : Int32) (b2 : Int32) (w : jw) (w' : jw), l_X1_replaceUp n b1 b2 w = some w' → jX E m_X1_replaceUp 5 10 [(0, .ref (E.2.2.2 + 51)), (1, .int b1), (2, .int b2)] [] w none w' := by
  intro n
  induction n with
  | zero => intro b1 b2 w w' hf; cases hf
  | succ n ih =>
    intro b1 b2 w w' hf
    unfold l_X1_replaceUp at hf
    refine jx_iload_n dX1_replaceUp_10 rfl ?_
    refine jx_if_lt (tgt := 101) dX1_replaceUp_11 (by decide) (fun c1 => ?_) (fun c1 => ?_)
    · rw [if_pos c1] at hf
      cases hf
      exact jx_vret dX1_replaceUp_101 rfl rfl
    · rw [if_neg c1] at hf
      refine jx_aload_n dX1_replaceUp_14 rfl ?_
      refine jx_getr dX1_replaceUp_15 fl_X1_27 kj_51 sr_51_2 ?_
      refine jx_iload_n dX1_replaceUp_18 rfl ?_
      refine jx_cVi (a := 52) (As := [.int b2]) (rest := []) dX1_replaceUp_19 ml_X1_64 mv_X8_at (c_row_at (k := 0) kj_52 (by decide)) rfl rfl jc_52 (by decide) (Nat.le_of_ble_eq_true rfl) ?_
      obtain ⟨x2, hx2, hf⟩ := jl_inv hf
      refine jx_nm hx2 ?_
      refine jx_istore_n (ls' := [(0, .ref (E.2.2.2 + 51)), (1, .int b1), (2, .int b2), (3, .int x2)]) dX1_replaceUp_22 (by decide) rfl ?_
      refine jx_iload_n dX1_replaceUp_23 rfl ?_
      refine jx_if_le (tgt := 43) dX1_replaceUp_24 (by decide) (fun c3 => ?_) (fun c3 => ?_)
      · rw [if_pos c3] at hf
        refine jx_aload_n dX1_replaceUp_43 rfl ?_
        refine jx_getr dX1_replaceUp_44 fl_X1_21 kj_51 sr_51_1 ?_
        refine jx_getr dX1_replaceUp_47 fl_X1_135 kj_18 sr_18_3 ?_
        refine jx_iload_n dX1_replaceUp_50 rfl ?_
        refine jx_iload_n dX1_replaceUp_51 rfl ?_
        refine jx_cVv (a := 25) (As := [.int x2, .int b1]) (rest := []) dX1_replaceUp_52 ml_X1_113 mv_X8_change (c_row_change (k := 0) kj_25 (by decide)) rfl rfl jc_25 (by decide) (Nat.le_of_ble_eq_true rfl) ?_
        obtain ⟨w4, hw4, hf⟩ := jl_inv hf
        refine jx_nw hw4 ?_
        refine jx_aload_n dX1_replaceUp_55 rfl ?_
        refine jx_aload_n dX1_replaceUp_56 rfl ?_
        refine jx_getr dX1_replaceUp_57 fl_X1_21 kj_51 sr_51_1 ?_
        refine jx_getr dX1_replaceUp_60 fl_X1_38 kj_18 sr_18_0 ?_
        refine jx_iload_n dX1_replaceUp_63 rfl ?_
        refine jx_cVi (a := 19) (As := [.int x2]) (rest := [.ref (E.2.2.2 + 51)]) dX1_replaceUp_64 ml_X1_64 mv_X8_at (c_row_at (k := 0) kj_19 (by decide)) rfl rfl jc_19 (by decide) (Nat.le_of_ble_eq_true rfl) ?_
        refine jx_iload_n dX1_replaceUp_67 rfl ?_
        obtain ⟨q5, hq5, hf⟩ := jbd_inv hf
        refine jx_cVv (a := 51) (As := [.int (rat (w4.2.2.2 19) x2), .int b1]) (rest := []) dX1_replaceUp_68 ml_X1_138 mv_X1_makePages (s_X1_makePages hE hq5) rfl rfl jc_51 (by decide) (Nat.le_of_ble_eq_true rfl) ?_
        refine jx_iload_n dX1_replaceUp_71 rfl ?_
        refine jx_if_ne (tgt := 83) dX1_replaceUp_72 (by decide) (fun c6 => ?_) (fun c6 => ?_)
        · rw [if_neg c6] at hf
          refine jx_aload_n dX1_replaceUp_83 rfl ?_
          refine jx_iload_n dX1_replaceUp_84 rfl ?_
          refine jx_iconst (v := 1) dX1_replaceUp_85 (by decide) ?_
          refine jx_isub dX1_replaceUp_86 ?_
          refine jx_iload_n dX1_replaceUp_87 rfl ?_
          obtain ⟨x8, w9, hq7, hf⟩ := jbd2_inv hf
          refine jx_cVi (a := 51) (As := [.int (b2 - 1), .int b1]) (rest := []) dX1_replaceUp_88 ml_X1_144 mv_X1_handUp (s_X1_handUp hE hq7) rfl rfl jc_51 (by decide) (Nat.le_of_ble_eq_true rfl) ?_
          refine jx_if_ne (tgt := 95) dX1_replaceUp_91 (by decide) (fun c10 => ?_) (fun c10 => ?_)
          · rw [if_neg c10] at hf
            obtain ⟨x11, hx11, hf⟩ := jl_inv hf
            refine jx_iinc (v := x11) (ls' := [(0, .ref (E.2.2.2 + 51)), (1, .int b1), (2, .int x11), (3, .int x2)]) dX1_replaceUp_95 rfl (by rw [hx11]; rfl) (by decide) rfl ?_
            refine jx_goto (tgt := 10) dX1_replaceUp_98 (by decide) ?_
            refine jx_pick [0, 1, 2] rfl ?_
            exact ih _ _ _ _ hf
          · rw [if_pos c10] at hf
            cases hf
            exact jx_vret dX1_replaceUp_94 rfl rfl
        · rw [if_pos c6] at hf
          refine jx_aload_n dX1_replaceUp_75 rfl ?_
          refine jx_iload_n dX1_replaceUp_76 rfl ?_
          obtain ⟨q12, hq12, hf⟩ := jbd_inv hf
          refine jx_cVv (a := 51) (As := [.int b1]) (rest := []) dX1_replaceUp_77 ml_X1_141 mv_X1_crown (s_X1_crown hE hq12) rfl rfl jc_51 (by decide) (Nat.le_of_ble_eq_true rfl) ?_
          refine jx_goto (tgt := 95) dX1_replaceUp_80 (by decide) ?_
          obtain ⟨x13, hx13, hf⟩ := jl_inv hf
          refine jx_iinc (v := x13) (ls' := [(0, .ref (E.2.2.2 + 51)), (1, .int b1), (2, .int x13), (3, .int x2)]) dX1_replaceUp_95 rfl (by rw [hx13]; rfl) (by decide) rfl ?_
          refine jx_goto (tgt := 10) dX1_replaceUp_98 (by decide) ?_
          refine jx_pick [0, 1, 2] rfl ?_
          exact ih _ _ _ _ hf
      · rw [if_neg c3] at hf
        refine jx_aload_n dX1_replaceUp_27 rfl ?_
        refine jx_iload_n dX1_replaceUp_28 rfl ?_
        refine jx_aload_n dX1_replaceUp_29 rfl ?_
        refine jx_getr dX1_replaceUp_30 fl_X1_27 kj_51 sr_51_2 ?_
        refine jx_iload_n dX1_replaceUp_33 rfl ?_
        refine jx_iconst (v := 1) dX1_replaceUp_34 (by decide) ?_
        refine jx_isub dX1_replaceUp_35 ?_
        refine jx_cVi (a := 52) (As := [.int (b2 - 1)]) (rest := [.int x2, .ref (E.2.2.2 + 51)]) dX1_replaceUp_36 ml_X1_64 mv_X8_at (c_row_at (k := 0) kj_52 (by decide)) rfl rfl jc_52 (by decide) (Nat.le_of_ble_eq_true rfl) ?_
        refine jx_iload_n dX1_replaceUp_39 rfl ?_
        obtain ⟨q14, hq14, hf⟩ := jbd_inv hf
        refine jx_cVv (a := 51) (As := [.int x2, .int (rat (w.2.2.2 52) (b2 - 1)), .int b1]) (rest := []) dX1_replaceUp_40 ml_X1_132 mv_X1_leaveAbove (s_X1_leaveAbove hE hq14) rfl rfl jc_51 (by decide) (Nat.le_of_ble_eq_true rfl) ?_
        refine jx_aload_n dX1_replaceUp_43 rfl ?_
        refine jx_getr dX1_replaceUp_44 fl_X1_21 kj_51 sr_51_1 ?_
        refine jx_getr dX1_replaceUp_47 fl_X1_135 kj_18 sr_18_3 ?_
        refine jx_iload_n dX1_replaceUp_50 rfl ?_
        refine jx_iload_n dX1_replaceUp_51 rfl ?_
        refine jx_cVv (a := 25) (As := [.int x2, .int b1]) (rest := []) dX1_replaceUp_52 ml_X1_113 mv_X8_change (c_row_change (k := 0) kj_25 (by decide)) rfl rfl jc_25 (by decide) (Nat.le_of_ble_eq_true rfl) ?_
        obtain ⟨w15, hw15, hf⟩ := jl_inv hf
        refine jx_nw hw15 ?_
        refine jx_aload_n dX1_replaceUp_55 rfl ?_
        refine jx_aload_n dX1_replaceUp_56 rfl ?_
        refine jx_getr dX1_replaceUp_57 fl_X1_21 kj_51 sr_51_1 ?_
        refine jx_getr dX1_replaceUp_60 fl_X1_38 kj_18 sr_18_0 ?_
        refine jx_iload_n dX1_replaceUp_63 rfl ?_
        refine jx_cVi (a := 19) (As := [.int x2]) (rest := [.ref (E.2.2.2 + 51)]) dX1_replaceUp_64 ml_X1_64 mv_X8_at (c_row_at (k := 0) kj_19 (by decide)) rfl rfl jc_19 (by decide) (Nat.le_of_ble_eq_true rfl) ?_
        refine jx_iload_n dX1_replaceUp_67 rfl ?_
        obtain ⟨q16, hq16, hf⟩ := jbd_inv hf
        refine jx_cVv (a := 51) (As := [.int (rat (w15.2.2.2 19) x2), .int b1]) (rest := []) dX1_replaceUp_68 ml_X1_138 mv_X1_makePages (s_X1_makePages hE hq16) rfl rfl jc_51 (by decide) (Nat.le_of_ble_eq_true rfl) ?_
        refine jx_iload_n dX1_replaceUp_71 rfl ?_
        refine jx_if_ne (tgt := 83) dX1_replaceUp_72 (by decide) (fun c17 => ?_) (fun c17 => ?_)
        · rw [if_neg c17] at hf
          refine jx_aload_n dX1_replaceUp_83 rfl ?_
          refine jx_iload_n dX1_replaceUp_84 rfl ?_
          refine jx_iconst (v := 1) dX1_replaceUp_85 (by decide) ?_
          refine jx_isub dX1_replaceUp_86 ?_
          refine jx_iload_n dX1_replaceUp_87 rfl ?_
          obtain ⟨x19, w20, hq18, hf⟩ := jbd2_inv hf
          refine jx_cVi (a := 51) (As := [.int (b2 - 1), .int b1]) (rest := []) dX1_replaceUp_88 ml_X1_144 mv_X1_handUp (s_X1_handUp hE hq18) rfl rfl jc_51 (by decide) (Nat.le_of_ble_eq_true rfl) ?_
          refine jx_if_ne (tgt := 95) dX1_replaceUp_91 (by decide) (fun c21 => ?_) (fun c21 => ?_)
          · rw [if_neg c21] at hf
            obtain ⟨x22, hx22, hf⟩ := jl_inv hf
            refine jx_iinc (v := x22) (ls' := [(0, .ref (E.2.2.2 + 51)), (1, .int b1), (2, .int x22), (3, .int x2)]) dX1_replaceUp_95 rfl (by rw [hx22]; rfl) (by decide) rfl ?_
            refine jx_goto (tgt := 10) dX1_replaceUp_98 (by decide) ?_
            refine jx_pick [0, 1, 2] rfl ?_
            exact ih _ _ _ _ hf
          · rw [if_pos c21] at hf
            cases hf
            exact jx_vret dX1_replaceUp_94 rfl rfl
        · rw [if_pos c17] at hf
          refine jx_aload_n dX1_replaceUp_75 rfl ?_
          refine jx_iload_n dX1_replaceUp_76 rfl ?_
          obtain ⟨q23, hq23, hf⟩ := jbd_inv hf
          refine jx_cVv (a := 51) (As := [.int b1]) (rest := []) dX1_replaceUp_77 ml_X1_141 mv_X1_crown (s_X1_crown hE hq23) rfl rfl jc_51 (by decide) (Nat.le_of_ble_eq_true rfl) ?_
          refine jx_goto (tgt := 95) dX1_replaceUp_80 (by decide) ?_
          obtain ⟨x24, hx24, hf⟩ := jl_inv hf
          refine jx_iinc (v := x24) (ls' := [(0, .ref (E.2.2.2 + 51)), (1, .int b1), (2, .int x24), (3, .int x2)]) dX1_replaceUp_95 rfl (by rw [hx24]; rfl) (by decide) rfl ?_
          refine jx_goto (tgt := 10) dX1_replaceUp_98 (by decide) ?_
          refine jx_pick [0, 1, 2] rfl ?_
          exact ih _ _ _ _ hf
def f_X1_replaceUp (a1 : Int32) (w : jw) : Option (jw) := jl ((nI (w.2.2.2 52).length) - 1 : Int32) fun x25 => (l_X1_replaceUp jfu a1 x25 w)
set_option maxRecDepth 20000 in
set_option maxHeartbeats 2000000 in
theorem s_X1_replaceUp {E : jE} (hE : jfull E) {a1 : Int32} {w w' : jw} (hf : f_X1_replaceUp a1 w = some w') : jC E m_X1_replaceUp 5 [.ref (E.2.2.2 + 51), .int a1] w none w' := by
  refine jC_of (ls := [(0, .ref (E.2.2.2 + 51)), (1, .int a1)]) (by decide) rfl (fun _ => trivial) (Nat.le_of_ble_eq_true rfl) rfl rfl ?_
  unfold f_X1_replaceUp at hf
  refine jx_aload_n dX1_replaceUp_0 rfl ?_
  refine jx_getr dX1_replaceUp_1 fl_X1_27 kj_51 sr_51_2 ?_
  refine jx_getn dX1_replaceUp_4 fl_X1_43 kj_52 (by decide) ?_
  refine jx_iconst (v := 1) dX1_replaceUp_7 (by decide) ?_
  refine jx_isub dX1_replaceUp_8 ?_
  obtain ⟨x25, hx25, hf⟩ := jl_inv hf
  refine jx_nm hx25 ?_
  refine jx_istore_n (ls' := [(0, .ref (E.2.2.2 + 51)), (1, .int a1), (2, .int x25)]) dX1_replaceUp_9 (by decide) rfl ?_
  exact sl_X1_replaceUp hE jfu _ _ _ _ hf
def f_X1_bring (a1 : Int32) (a2 : Int32) (w : jw) : Option (Bool × jw) := (if (nI (w.2.2.2 19).length) < 280 then jbd2 (f_X2_happen 1 a1 a2 w) fun x3 w4 => jbd2 (f_X1_endLiving a1 x3 w4) fun x6 w7 => (if (w7.1 18 8) ≤ (rat (w7.2.2.2 21) x6) then jl (jsetI w7 54 3 0) fun w9 => jbd (f_X1_gather x6 x3 w9) fun q10 => jbd (f_X0_insert a1 a2 x3 q10) fun q11 => jbd (f_X1_replaceUp x3 q11) fun q12 => some (true, q12) else jbd (f_X6_append x6 a1 a2 x3 w7) fun q13 => some (true, q13)) else some (false, w))
set_option maxRecDepth 20000 in
set_option maxHeartbeats 2000000 in
theorem s_X1_bring {E : jE} (hE : jfull E) {a1 : Int32} {a2 : Int32} {w w' : jw} {v : Bool} (hf : f_X1_bring a1 a2 w = some (v, w')) : jC E m_X1_bring 6 [.ref (E.2.2.2 + 51), .int a1, .int a2] w (some (.int (jb v))) w' := by
  refine jC_of (ls := [(0, .ref (E.2.2.2 + 51)), (1, .int a1), (2, .int a2)]) (by decide) rfl (fun _ => trivial) (Nat.le_of_ble_eq_true rfl) rfl jb_ans ?_
  unfold f_X1_bring at hf
  refine jx_aload_n dX1_bring_0 rfl ?_
  refine jx_getr dX1_bring_1 fl_X1_21 kj_51 sr_51_1 ?_
  refine jx_getr dX1_bring_4 fl_X1_38 kj_18 sr_18_0 ?_
  refine jx_getn dX1_bring_7 fl_X1_43 kj_19 (by decide) ?_
  refine jx_sipush (v := 280) dX1_bring_10 (by decide) ?_
  refine jx_icmp_lt (tgt := 18) dX1_bring_13 (by decide) (fun c1 => ?_) (fun c1 => ?_)
  · rw [if_pos c1] at hf
    refine jx_aload_n dX1_bring_18 rfl ?_
    refine jx_getr dX1_bring_19 fl_X1_9 kj_51 sr_51_0 ?_
    refine jx_getr dX1_bring_22 fl_X1_47 kj_17 sr_17_1 ?_
    refine jx_iconst (v := 1) dX1_bring_25 (by decide) ?_
    refine jx_iload_n dX1_bring_26 rfl ?_
    refine jx_iload_n dX1_bring_27 rfl ?_
    obtain ⟨x3, w4, hq2, hf⟩ := jbd2_inv hf
    refine jx_cVi (a := 35) (As := [.int 1, .int a1, .int a2]) (rest := []) dX1_bring_28 ml_X1_51 mv_X2_happen (s_X2_happen hE hq2) rfl rfl jc_35 (by decide) (Nat.le_of_ble_eq_true rfl) ?_
    refine jx_istore_n (ls' := [(0, .ref (E.2.2.2 + 51)), (1, .int a1), (2, .int a2), (3, .int x3)]) dX1_bring_31 (by decide) rfl ?_
    refine jx_aload_n dX1_bring_32 rfl ?_
    refine jx_iload_n dX1_bring_33 rfl ?_
    refine jx_iload_n dX1_bring_34 rfl ?_
    obtain ⟨x6, w7, hq5, hf⟩ := jbd2_inv hf
    refine jx_cVi (a := 51) (As := [.int a1, .int x3]) (rest := []) dX1_bring_35 ml_X1_57 mv_X1_endLiving (s_X1_endLiving hE hq5) rfl rfl jc_51 (by decide) (Nat.le_of_ble_eq_true rfl) ?_
    refine jx_istore (ls' := [(0, .ref (E.2.2.2 + 51)), (1, .int a1), (2, .int a2), (3, .int x3), (4, .int x6)]) dX1_bring_38 (by decide) rfl ?_
    refine jx_aload_n dX1_bring_40 rfl ?_
    refine jx_getr dX1_bring_41 fl_X1_21 kj_51 sr_51_1 ?_
    refine jx_getr dX1_bring_44 fl_X1_61 kj_18 sr_18_1 ?_
    refine jx_iload dX1_bring_47 rfl ?_
    refine jx_cVi (a := 21) (As := [.int x6]) (rest := []) dX1_bring_49 ml_X1_64 mv_X8_at (c_row_at (k := 0) kj_21 (by decide)) rfl rfl jc_21 (by decide) (Nat.le_of_ble_eq_true rfl) ?_
    refine jx_aload_n dX1_bring_52 rfl ?_
    refine jx_getr dX1_bring_53 fl_X1_21 kj_51 sr_51_1 ?_
    refine jx_geti dX1_bring_56 fl_X1_68 kj_18 sr_18_8 ?_
    refine jx_icmp_ge (tgt := 77) dX1_bring_59 (by decide) (fun c8 => ?_) (fun c8 => ?_)
    · rw [if_pos c8] at hf
      refine jx_aload_n dX1_bring_77 rfl ?_
      refine jx_getr dX1_bring_78 fl_X1_34 kj_51 sr_51_3 ?_
      refine jx_iconst (v := 0) dX1_bring_81 (by decide) ?_
      refine jx_puti dX1_bring_82 fp_X1_75 kj_54 sr_54_3 rfl rfl ?_
      obtain ⟨w9, hw9, hf⟩ := jl_inv hf
      refine jx_nw hw9 ?_
      refine jx_aload_n dX1_bring_85 rfl ?_
      refine jx_iload dX1_bring_86 rfl ?_
      refine jx_iload_n dX1_bring_88 rfl ?_
      obtain ⟨q10, hq10, hf⟩ := jbd_inv hf
      refine jx_cVv (a := 51) (As := [.int x6, .int x3]) (rest := []) dX1_bring_89 ml_X1_76 mv_X1_gather (s_X1_gather hE hq10) rfl rfl jc_51 (by decide) (Nat.le_of_ble_eq_true rfl) ?_
      refine jx_aload_n dX1_bring_92 rfl ?_
      refine jx_getr dX1_bring_93 fl_X1_34 kj_51 sr_51_3 ?_
      refine jx_iload_n dX1_bring_96 rfl ?_
      refine jx_iload_n dX1_bring_97 rfl ?_
      refine jx_iload_n dX1_bring_98 rfl ?_
      obtain ⟨q11, hq11, hf⟩ := jbd_inv hf
      refine jx_cVv (a := 54) (As := [.int a1, .int a2, .int x3]) (rest := []) dX1_bring_99 ml_X1_80 mv_X0_insert (s_X0_insert hE hq11) rfl rfl jc_54 (by decide) (Nat.le_of_ble_eq_true rfl) ?_
      refine jx_aload_n dX1_bring_102 rfl ?_
      refine jx_iload_n dX1_bring_103 rfl ?_
      obtain ⟨q12, hq12, hf⟩ := jbd_inv hf
      refine jx_cVv (a := 51) (As := [.int x3]) (rest := []) dX1_bring_104 ml_X1_84 mv_X1_replaceUp (s_X1_replaceUp hE hq12) rfl rfl jc_51 (by decide) (Nat.le_of_ble_eq_true rfl) ?_
      refine jx_iconst (v := 1) dX1_bring_107 (by decide) ?_
      cases hf
      exact jx_iret dX1_bring_108 rfl rfl
    · rw [if_neg c8] at hf
      refine jx_aload_n dX1_bring_62 rfl ?_
      refine jx_getr dX1_bring_63 fl_X1_21 kj_51 sr_51_1 ?_
      refine jx_iload dX1_bring_66 rfl ?_
      refine jx_iload_n dX1_bring_68 rfl ?_
      refine jx_iload_n dX1_bring_69 rfl ?_
      refine jx_iload_n dX1_bring_70 rfl ?_
      obtain ⟨q13, hq13, hf⟩ := jbd_inv hf
      refine jx_cVv (a := 18) (As := [.int x6, .int a1, .int a2, .int x3]) (rest := []) dX1_bring_71 ml_X1_71 mv_X6_append (s_X6_append hE hq13) rfl rfl jc_18 (by decide) (Nat.le_of_ble_eq_true rfl) ?_
      refine jx_goto (tgt := 107) dX1_bring_74 (by decide) ?_
      refine jx_iconst (v := 1) dX1_bring_107 (by decide) ?_
      cases hf
      exact jx_iret dX1_bring_108 rfl rfl
  · rw [if_neg c1] at hf
    refine jx_iconst (v := 0) dX1_bring_16 (by decide) ?_
    cases hf
    exact jx_iret dX1_bring_17 rfl rfl
def f_X1_drop (a1 : Int32) (w : jw) : Option (Bool × jw) := (if 280 ≤ (nI (w.2.2.2 19).length) then some (false, w) else jbd2 (f_X2_now  w) fun x3 w4 => jbd2 (f_X2_livingFrom a1 x3 w4) fun x6 w7 => (if x6 = (-1) then some (false, w7) else jbd2 (f_X2_happen 0 a1 0 w7) fun x10 w11 => jbd2 (f_X1_endLiving a1 x10 w11) fun x13 w14 => (if (nI (w14.2.2.2 52).length) ≤ 1 then some (true, w14) else jbd2 (f_X6_livingIn x13 x10 w14) fun x17 w18 => jbd2 (f_X6_weak  w18) fun x20 w21 => (if x20 ≤ x17 then some (true, w21) else jl (jsetI w21 54 3 0) fun w23 => jbd (f_X1_gather x13 x10 w23) fun q24 => jbd (f_X1_replaceUp x10 q24) fun q25 => some (true, q25)))))
set_option maxRecDepth 20000 in
set_option maxHeartbeats 2000000 in
theorem s_X1_drop {E : jE} (hE : jfull E) {a1 : Int32} {w w' : jw} {v : Bool} (hf : f_X1_drop a1 w = some (v, w')) : jC E m_X1_drop 6 [.ref (E.2.2.2 + 51), .int a1] w (some (.int (jb v))) w' := by
  refine jC_of (ls := [(0, .ref (E.2.2.2 + 51)), (1, .int a1)]) (by decide) rfl (fun _ => trivial) (Nat.le_of_ble_eq_true rfl) rfl jb_ans ?_
  unfold f_X1_drop at hf
  refine jx_aload_n dX1_drop_0 rfl ?_
  refine jx_getr dX1_drop_1 fl_X1_9 kj_51 sr_51_0 ?_
  refine jx_getr dX1_drop_4 fl_X1_47 kj_17 sr_17_1 ?_
  refine jx_astore_n (ls' := [(0, .ref (E.2.2.2 + 51)), (1, .int a1), (2, .ref (E.2.2.2 + 35))]) dX1_drop_7 (by decide) rfl ?_
  refine jx_aload_n dX1_drop_8 rfl ?_
  refine jx_getr dX1_drop_9 fl_X1_21 kj_51 sr_51_1 ?_
  refine jx_getr dX1_drop_12 fl_X1_38 kj_18 sr_18_0 ?_
  refine jx_getn dX1_drop_15 fl_X1_43 kj_19 (by decide) ?_
  refine jx_sipush (v := 280) dX1_drop_18 (by decide) ?_
  refine jx_icmp_ge (tgt := 37) dX1_drop_21 (by decide) (fun c1 => ?_) (fun c1 => ?_)
  · rw [if_pos c1] at hf
    refine jx_iconst (v := 0) dX1_drop_37 (by decide) ?_
    cases hf
    exact jx_iret dX1_drop_38 rfl rfl
  · rw [if_neg c1] at hf
    refine jx_aload_n dX1_drop_24 rfl ?_
    refine jx_iload_n dX1_drop_25 rfl ?_
    refine jx_aload_n dX1_drop_26 rfl ?_
    obtain ⟨x3, w4, hq2, hf⟩ := jbd2_inv hf
    refine jx_cVi (a := 35) (As := []) (rest := [.int a1, .ref (E.2.2.2 + 35)]) dX1_drop_27 ml_X1_87 mv_X2_now (s_X2_now hE hq2) rfl rfl jc_35 (by decide) (Nat.le_of_ble_eq_true rfl) ?_
    obtain ⟨x6, w7, hq5, hf⟩ := jbd2_inv hf
    refine jx_cVi (a := 35) (As := [.int a1, .int x3]) (rest := []) dX1_drop_30 ml_X1_91 mv_X2_livingFrom (s_X2_livingFrom hE hq5) rfl rfl jc_35 (by decide) (Nat.le_of_ble_eq_true rfl) ?_
    refine jx_iconst (v := (-1)) dX1_drop_33 (by decide) ?_
    refine jx_icmp_ne (tgt := 39) dX1_drop_34 (by decide) (fun c8 => ?_) (fun c8 => ?_)
    · rw [if_neg c8] at hf
      refine jx_aload_n dX1_drop_39 rfl ?_
      refine jx_iconst (v := 0) dX1_drop_40 (by decide) ?_
      refine jx_iload_n dX1_drop_41 rfl ?_
      refine jx_iconst (v := 0) dX1_drop_42 (by decide) ?_
      obtain ⟨x10, w11, hq9, hf⟩ := jbd2_inv hf
      refine jx_cVi (a := 35) (As := [.int 0, .int a1, .int 0]) (rest := []) dX1_drop_43 ml_X1_51 mv_X2_happen (s_X2_happen hE hq9) rfl rfl jc_35 (by decide) (Nat.le_of_ble_eq_true rfl) ?_
      refine jx_istore_n (ls' := [(0, .ref (E.2.2.2 + 51)), (1, .int a1), (2, .ref (E.2.2.2 + 35)), (3, .int x10)]) dX1_drop_46 (by decide) rfl ?_
      refine jx_aload_n dX1_drop_47 rfl ?_
      refine jx_iload_n dX1_drop_48 rfl ?_
      refine jx_iload_n dX1_drop_49 rfl ?_
      obtain ⟨x13, w14, hq12, hf⟩ := jbd2_inv hf
      refine jx_cVi (a := 51) (As := [.int a1, .int x10]) (rest := []) dX1_drop_50 ml_X1_57 mv_X1_endLiving (s_X1_endLiving hE hq12) rfl rfl jc_51 (by decide) (Nat.le_of_ble_eq_true rfl) ?_
      refine jx_istore (ls' := [(0, .ref (E.2.2.2 + 51)), (1, .int a1), (2, .ref (E.2.2.2 + 35)), (3, .int x10), (4, .int x13)]) dX1_drop_53 (by decide) rfl ?_
      refine jx_aload_n dX1_drop_55 rfl ?_
      refine jx_getr dX1_drop_56 fl_X1_27 kj_51 sr_51_2 ?_
      refine jx_getn dX1_drop_59 fl_X1_43 kj_52 (by decide) ?_
      refine jx_iconst (v := 1) dX1_drop_62 (by decide) ?_
      refine jx_icmp_le (tgt := 106) dX1_drop_63 (by decide) (fun c15 => ?_) (fun c15 => ?_)
      · rw [if_pos c15] at hf
        refine jx_iconst (v := 1) dX1_drop_106 (by decide) ?_
        cases hf
        exact jx_iret dX1_drop_107 rfl rfl
      · rw [if_neg c15] at hf
        refine jx_aload_n dX1_drop_66 rfl ?_
        refine jx_getr dX1_drop_67 fl_X1_21 kj_51 sr_51_1 ?_
        refine jx_iload dX1_drop_70 rfl ?_
        refine jx_iload_n dX1_drop_72 rfl ?_
        obtain ⟨x17, w18, hq16, hf⟩ := jbd2_inv hf
        refine jx_cVi (a := 18) (As := [.int x13, .int x10]) (rest := []) dX1_drop_73 ml_X1_94 mv_X6_livingIn (s_X6_livingIn hE hq16) rfl rfl jc_18 (by decide) (Nat.le_of_ble_eq_true rfl) ?_
        refine jx_aload_n dX1_drop_76 rfl ?_
        refine jx_getr dX1_drop_77 fl_X1_21 kj_51 sr_51_1 ?_
        obtain ⟨x20, w21, hq19, hf⟩ := jbd2_inv hf
        refine jx_cVi (a := 18) (As := []) (rest := [.int x17]) dX1_drop_80 ml_X1_97 mv_X6_weak (s_X6_weak hE hq19) rfl rfl jc_18 (by decide) (Nat.le_of_ble_eq_true rfl) ?_
        refine jx_icmp_ge (tgt := 106) dX1_drop_83 (by decide) (fun c22 => ?_) (fun c22 => ?_)
        · rw [if_pos c22] at hf
          refine jx_iconst (v := 1) dX1_drop_106 (by decide) ?_
          cases hf
          exact jx_iret dX1_drop_107 rfl rfl
        · rw [if_neg c22] at hf
          refine jx_aload_n dX1_drop_86 rfl ?_
          refine jx_getr dX1_drop_87 fl_X1_34 kj_51 sr_51_3 ?_
          refine jx_iconst (v := 0) dX1_drop_90 (by decide) ?_
          refine jx_puti dX1_drop_91 fp_X1_75 kj_54 sr_54_3 rfl rfl ?_
          obtain ⟨w23, hw23, hf⟩ := jl_inv hf
          refine jx_nw hw23 ?_
          refine jx_aload_n dX1_drop_94 rfl ?_
          refine jx_iload dX1_drop_95 rfl ?_
          refine jx_iload_n dX1_drop_97 rfl ?_
          obtain ⟨q24, hq24, hf⟩ := jbd_inv hf
          refine jx_cVv (a := 51) (As := [.int x13, .int x10]) (rest := []) dX1_drop_98 ml_X1_76 mv_X1_gather (s_X1_gather hE hq24) rfl rfl jc_51 (by decide) (Nat.le_of_ble_eq_true rfl) ?_
          refine jx_aload_n dX1_drop_101 rfl ?_
          refine jx_iload_n dX1_drop_102 rfl ?_
          obtain ⟨q25, hq25, hf⟩ := jbd_inv hf
          refine jx_cVv (a := 51) (As := [.int x10]) (rest := []) dX1_drop_103 ml_X1_84 mv_X1_replaceUp (s_X1_replaceUp hE hq25) rfl rfl jc_51 (by decide) (Nat.le_of_ble_eq_true rfl) ?_
          refine jx_iconst (v := 1) dX1_drop_106 (by decide) ?_
          cases hf
          exact jx_iret dX1_drop_107 rfl rfl
    · rw [if_pos c8] at hf
      refine jx_iconst (v := 0) dX1_drop_37 (by decide) ?_
      cases hf
      exact jx_iret dX1_drop_38 rfl rfl
def l_X3_livingIn : Nat → Int32 → Int32 → Int32 → Int32 → Int32 → jw → Option (Int32 × jw)
  | 0, _, _, _, _, _, _ => none
  | n + 1, b1, b2, b3, b4, b5, w => (if b3 < b5 then some (b4, w) else jl (rat (w.2.2.2 36) b5 : Int32) fun x2 => (if x2 < b1 then jl (b5 + 1) fun x4 => (l_X3_livingIn n b1 b2 b3 b4 x4 w) else (if b2 < x2 then jl (b5 + 1) fun x6 => (l_X3_livingIn n b1 b2 b3 b4 x6 w) else jbd2 (f_X2_livesAt b5 b3 w) fun x8 w9 => (if (jb x8) = 0 then jl (b5 + 1) fun x11 => (l_X3_livingIn n b1 b2 b3 b4 x11 w9) else jl (b4 + 1) fun x12 => jl (b5 + 1) fun x13 => (l_X3_livingIn n b1 b2 b3 x12 x13 w9)))))
set_option maxRecDepth 20000 in
set_option maxHeartbeats 2000000 in
theorem sl_X3_livingIn {E : jE} (hE : jfull E) : ∀ (n : Nat) (b1 : Int32) (b2 : Int32) (b3 : Int32) (b4 : Int32) (b5 : Int32) (w : jw) (v : Int32) (w' : jw), l_X3_livingIn n b1 b2 b3 b4 b5 w = some (v, w') → jX E m_X3_livingIn 2 6 [(0, .ref (E.2.2.2 + 58)), (1, .int b1), (2, .int b2), (3, .int b3), (4, .int b4), (5, .int b5)] [] w (some (.int v)) w' := by
  intro n
  induction n with
  | zero => intro b1 b2 b3 b4 b5 w v w' hf; cases hf
  | succ n ih =>
    intro b1 b2 b3 b4 b5 w v w' hf
    unfold l_X3_livingIn at hf
    refine jx_iload dX3_livingIn_6 rfl ?_
    refine jx_iload_n dX3_livingIn_8 rfl ?_
    refine jx_icmp_gt (tgt := 60) dX3_livingIn_9 (by decide) (fun c1 => ?_) (fun c1 => ?_)
    · rw [if_pos c1] at hf
      refine jx_iload dX3_livingIn_60 rfl ?_
      cases hf
      exact jx_iret dX3_livingIn_62 rfl rfl
    · rw [if_neg c1] at hf
      refine jx_aload_n dX3_livingIn_12 rfl ?_
      refine jx_getr dX3_livingIn_13 fl_X3_9 kj_58 sr_58_0 ?_
      refine jx_getr dX3_livingIn_16 fl_X3_31 kj_35 sr_35_0 ?_
      refine jx_iload dX3_livingIn_19 rfl ?_
      refine jx_cVi (a := 36) (As := [.int b5]) (rest := []) dX3_livingIn_21 ml_X3_36 mv_X8_at (c_row_at (k := 0) kj_36 (by decide)) rfl rfl jc_36 (by decide) (Nat.le_of_ble_eq_true rfl) ?_
      obtain ⟨x2, hx2, hf⟩ := jl_inv hf
      refine jx_nm hx2 ?_
      refine jx_istore (ls' := [(0, .ref (E.2.2.2 + 58)), (1, .int b1), (2, .int b2), (3, .int b3), (4, .int b4), (5, .int b5), (6, .int x2)]) dX3_livingIn_24 (by decide) rfl ?_
      refine jx_iload dX3_livingIn_26 rfl ?_
      refine jx_iload_n dX3_livingIn_28 rfl ?_
      refine jx_icmp_lt (tgt := 54) dX3_livingIn_29 (by decide) (fun c3 => ?_) (fun c3 => ?_)
      · rw [if_pos c3] at hf
        obtain ⟨x4, hx4, hf⟩ := jl_inv hf
        refine jx_iinc (v := x4) (ls' := [(0, .ref (E.2.2.2 + 58)), (1, .int b1), (2, .int b2), (3, .int b3), (4, .int b4), (5, .int x4), (6, .int x2)]) dX3_livingIn_54 rfl (by rw [hx4]; rfl) (by decide) rfl ?_
        refine jx_goto (tgt := 6) dX3_livingIn_57 (by decide) ?_
        refine jx_pick [0, 1, 2, 3, 4, 5] rfl ?_
        exact ih _ _ _ _ _ _ _ _ hf
      · rw [if_neg c3] at hf
        refine jx_iload dX3_livingIn_32 rfl ?_
        refine jx_iload_n dX3_livingIn_34 rfl ?_
        refine jx_icmp_gt (tgt := 54) dX3_livingIn_35 (by decide) (fun c5 => ?_) (fun c5 => ?_)
        · rw [if_pos c5] at hf
          obtain ⟨x6, hx6, hf⟩ := jl_inv hf
          refine jx_iinc (v := x6) (ls' := [(0, .ref (E.2.2.2 + 58)), (1, .int b1), (2, .int b2), (3, .int b3), (4, .int b4), (5, .int x6), (6, .int x2)]) dX3_livingIn_54 rfl (by rw [hx6]; rfl) (by decide) rfl ?_
          refine jx_goto (tgt := 6) dX3_livingIn_57 (by decide) ?_
          refine jx_pick [0, 1, 2, 3, 4, 5] rfl ?_
          exact ih _ _ _ _ _ _ _ _ hf
        · rw [if_neg c5] at hf
          refine jx_aload_n dX3_livingIn_38 rfl ?_
          refine jx_getr dX3_livingIn_39 fl_X3_9 kj_58 sr_58_0 ?_
          refine jx_iload dX3_livingIn_42 rfl ?_
          refine jx_iload_n dX3_livingIn_44 rfl ?_
          obtain ⟨x8, w9, hq7, hf⟩ := jbd2_inv hf
          refine jx_cVi (a := 35) (As := [.int b5, .int b3]) (rest := []) dX3_livingIn_45 ml_X3_46 mv_X2_livesAt (s_X2_livesAt hE hq7) rfl rfl jc_35 (by decide) (Nat.le_of_ble_eq_true rfl) ?_
          refine jx_if_eq (tgt := 54) dX3_livingIn_48 (by decide) (fun c10 => ?_) (fun c10 => ?_)
          · rw [if_pos c10] at hf
            obtain ⟨x11, hx11, hf⟩ := jl_inv hf
            refine jx_iinc (v := x11) (ls' := [(0, .ref (E.2.2.2 + 58)), (1, .int b1), (2, .int b2), (3, .int b3), (4, .int b4), (5, .int x11), (6, .int x2)]) dX3_livingIn_54 rfl (by rw [hx11]; rfl) (by decide) rfl ?_
            refine jx_goto (tgt := 6) dX3_livingIn_57 (by decide) ?_
            refine jx_pick [0, 1, 2, 3, 4, 5] rfl ?_
            exact ih _ _ _ _ _ _ _ _ hf
          · rw [if_neg c10] at hf
            obtain ⟨x12, hx12, hf⟩ := jl_inv hf
            refine jx_iinc (v := x12) (ls' := [(0, .ref (E.2.2.2 + 58)), (1, .int b1), (2, .int b2), (3, .int b3), (4, .int x12), (5, .int b5), (6, .int x2)]) dX3_livingIn_51 rfl (by rw [hx12]; rfl) (by decide) rfl ?_
            obtain ⟨x13, hx13, hf⟩ := jl_inv hf
            refine jx_iinc (v := x13) (ls' := [(0, .ref (E.2.2.2 + 58)), (1, .int b1), (2, .int b2), (3, .int b3), (4, .int x12), (5, .int x13), (6, .int x2)]) dX3_livingIn_54 rfl (by rw [hx13]; rfl) (by decide) rfl ?_
            refine jx_goto (tgt := 6) dX3_livingIn_57 (by decide) ?_
            refine jx_pick [0, 1, 2, 3, 4, 5] rfl ?_
            exact ih _ _ _ _ _ _ _ _ hf
def f_X3_livingIn (a1 : Int32) (a2 : Int32) (a3 : Int32) (w : jw) : Option (Int32 × jw) := (l_X3_livingIn jfu a1 a2 a3 0 1 w)
set_option maxRecDepth 20000 in
set_option maxHeartbeats 2000000 in
theorem s_X3_livingIn {E : jE} (hE : jfull E) {a1 : Int32} {a2 : Int32} {a3 : Int32} {w w' : jw} {v : Int32} (hf : f_X3_livingIn a1 a2 a3 w = some (v, w')) : jC E m_X3_livingIn 2 [.ref (E.2.2.2 + 58), .int a1, .int a2, .int a3] w (some (.int v)) w' := by
  refine jC_of (ls := [(0, .ref (E.2.2.2 + 58)), (1, .int a1), (2, .int a2), (3, .int a3)]) (by decide) rfl (fun _ => trivial) (Nat.le_of_ble_eq_true rfl) rfl ⟨.int, rfl, rfl⟩ ?_
  unfold f_X3_livingIn at hf
  refine jx_iconst (v := 0) dX3_livingIn_0 (by decide) ?_
  refine jx_istore (ls' := [(0, .ref (E.2.2.2 + 58)), (1, .int a1), (2, .int a2), (3, .int a3), (4, .int 0)]) dX3_livingIn_1 (by decide) rfl ?_
  refine jx_iconst (v := 1) dX3_livingIn_3 (by decide) ?_
  refine jx_istore (ls' := [(0, .ref (E.2.2.2 + 58)), (1, .int a1), (2, .int a2), (3, .int a3), (4, .int 0), (5, .int 1)]) dX3_livingIn_4 (by decide) rfl ?_
  exact sl_X3_livingIn hE jfu _ _ _ _ _ _ _ _ hf
def l_X3_totalIn : Nat → Int32 → Int32 → Int32 → Int32 → Int32 → jw → Option (Int32 × jw)
  | 0, _, _, _, _, _, _ => none
  | n + 1, b1, b2, b3, b4, b5, w => (if b3 < b5 then some (b4, w) else jl (rat (w.2.2.2 36) b5 : Int32) fun x2 => (if x2 < b1 then jl (b5 + 1) fun x4 => (l_X3_totalIn n b1 b2 b3 b4 x4 w) else (if b2 < x2 then jl (b5 + 1) fun x6 => (l_X3_totalIn n b1 b2 b3 b4 x6 w) else jbd2 (f_X2_livesAt b5 b3 w) fun x8 w9 => (if (jb x8) = 0 then jl (b5 + 1) fun x11 => (l_X3_totalIn n b1 b2 b3 b4 x11 w9) else jl (b4 + (rat (w9.2.2.2 40) b5) : Int32) fun x12 => jl (b5 + 1) fun x13 => (l_X3_totalIn n b1 b2 b3 x12 x13 w9)))))
set_option maxRecDepth 20000 in
set_option maxHeartbeats 2000000 in
theorem sl_X3_totalIn {E : jE} (hE : jfull E) : ∀ (n : Nat) (b1 : Int32) (b2 : Int32) (b3 : Int32) (b4 : Int32) (b5 : Int32) (w : jw) (v : Int32) (w' : jw), l_X3_totalIn n b1 b2 b3 b4 b5 w = some (v, w') → jX E m_X3_totalIn 2 6 [(0, .ref (E.2.2.2 + 58)), (1, .int b1), (2, .int b2), (3, .int b3), (4, .int b4), (5, .int b5)] [] w (some (.int v)) w' := by
  intro n
  induction n with
  | zero => intro b1 b2 b3 b4 b5 w v w' hf; cases hf
  | succ n ih =>
    intro b1 b2 b3 b4 b5 w v w' hf
    unfold l_X3_totalIn at hf
    refine jx_iload dX3_totalIn_6 rfl ?_
    refine jx_iload_n dX3_totalIn_8 rfl ?_
    refine jx_icmp_gt (tgt := 74) dX3_totalIn_9 (by decide) (fun c1 => ?_) (fun c1 => ?_)
    · rw [if_pos c1] at hf
      refine jx_iload dX3_totalIn_74 rfl ?_
      cases hf
      exact jx_iret dX3_totalIn_76 rfl rfl
    · rw [if_neg c1] at hf
      refine jx_aload_n dX3_totalIn_12 rfl ?_
      refine jx_getr dX3_totalIn_13 fl_X3_9 kj_58 sr_58_0 ?_
      refine jx_getr dX3_totalIn_16 fl_X3_31 kj_35 sr_35_0 ?_
      refine jx_iload dX3_totalIn_19 rfl ?_
      refine jx_cVi (a := 36) (As := [.int b5]) (rest := []) dX3_totalIn_21 ml_X3_36 mv_X8_at (c_row_at (k := 0) kj_36 (by decide)) rfl rfl jc_36 (by decide) (Nat.le_of_ble_eq_true rfl) ?_
      obtain ⟨x2, hx2, hf⟩ := jl_inv hf
      refine jx_nm hx2 ?_
      refine jx_istore (ls' := [(0, .ref (E.2.2.2 + 58)), (1, .int b1), (2, .int b2), (3, .int b3), (4, .int b4), (5, .int b5), (6, .int x2)]) dX3_totalIn_24 (by decide) rfl ?_
      refine jx_iload dX3_totalIn_26 rfl ?_
      refine jx_iload_n dX3_totalIn_28 rfl ?_
      refine jx_icmp_lt (tgt := 68) dX3_totalIn_29 (by decide) (fun c3 => ?_) (fun c3 => ?_)
      · rw [if_pos c3] at hf
        obtain ⟨x4, hx4, hf⟩ := jl_inv hf
        refine jx_iinc (v := x4) (ls' := [(0, .ref (E.2.2.2 + 58)), (1, .int b1), (2, .int b2), (3, .int b3), (4, .int b4), (5, .int x4), (6, .int x2)]) dX3_totalIn_68 rfl (by rw [hx4]; rfl) (by decide) rfl ?_
        refine jx_goto (tgt := 6) dX3_totalIn_71 (by decide) ?_
        refine jx_pick [0, 1, 2, 3, 4, 5] rfl ?_
        exact ih _ _ _ _ _ _ _ _ hf
      · rw [if_neg c3] at hf
        refine jx_iload dX3_totalIn_32 rfl ?_
        refine jx_iload_n dX3_totalIn_34 rfl ?_
        refine jx_icmp_gt (tgt := 68) dX3_totalIn_35 (by decide) (fun c5 => ?_) (fun c5 => ?_)
        · rw [if_pos c5] at hf
          obtain ⟨x6, hx6, hf⟩ := jl_inv hf
          refine jx_iinc (v := x6) (ls' := [(0, .ref (E.2.2.2 + 58)), (1, .int b1), (2, .int b2), (3, .int b3), (4, .int b4), (5, .int x6), (6, .int x2)]) dX3_totalIn_68 rfl (by rw [hx6]; rfl) (by decide) rfl ?_
          refine jx_goto (tgt := 6) dX3_totalIn_71 (by decide) ?_
          refine jx_pick [0, 1, 2, 3, 4, 5] rfl ?_
          exact ih _ _ _ _ _ _ _ _ hf
        · rw [if_neg c5] at hf
          refine jx_aload_n dX3_totalIn_38 rfl ?_
          refine jx_getr dX3_totalIn_39 fl_X3_9 kj_58 sr_58_0 ?_
          refine jx_iload dX3_totalIn_42 rfl ?_
          refine jx_iload_n dX3_totalIn_44 rfl ?_
          obtain ⟨x8, w9, hq7, hf⟩ := jbd2_inv hf
          refine jx_cVi (a := 35) (As := [.int b5, .int b3]) (rest := []) dX3_totalIn_45 ml_X3_46 mv_X2_livesAt (s_X2_livesAt hE hq7) rfl rfl jc_35 (by decide) (Nat.le_of_ble_eq_true rfl) ?_
          refine jx_if_eq (tgt := 68) dX3_totalIn_48 (by decide) (fun c10 => ?_) (fun c10 => ?_)
          · rw [if_pos c10] at hf
            obtain ⟨x11, hx11, hf⟩ := jl_inv hf
            refine jx_iinc (v := x11) (ls' := [(0, .ref (E.2.2.2 + 58)), (1, .int b1), (2, .int b2), (3, .int b3), (4, .int b4), (5, .int x11), (6, .int x2)]) dX3_totalIn_68 rfl (by rw [hx11]; rfl) (by decide) rfl ?_
            refine jx_goto (tgt := 6) dX3_totalIn_71 (by decide) ?_
            refine jx_pick [0, 1, 2, 3, 4, 5] rfl ?_
            exact ih _ _ _ _ _ _ _ _ hf
          · rw [if_neg c10] at hf
            refine jx_iload dX3_totalIn_51 rfl ?_
            refine jx_aload_n dX3_totalIn_53 rfl ?_
            refine jx_getr dX3_totalIn_54 fl_X3_9 kj_58 sr_58_0 ?_
            refine jx_getr dX3_totalIn_57 fl_X3_50 kj_35 sr_35_2 ?_
            refine jx_iload dX3_totalIn_60 rfl ?_
            refine jx_cVi (a := 40) (As := [.int b5]) (rest := [.int b4]) dX3_totalIn_62 ml_X3_36 mv_X8_at (c_row_at (k := 0) kj_40 (by decide)) rfl rfl jc_40 (by decide) (Nat.le_of_ble_eq_true rfl) ?_
            refine jx_iadd dX3_totalIn_65 ?_
            obtain ⟨x12, hx12, hf⟩ := jl_inv hf
            refine jx_nm hx12 ?_
            refine jx_istore (ls' := [(0, .ref (E.2.2.2 + 58)), (1, .int b1), (2, .int b2), (3, .int b3), (4, .int x12), (5, .int b5), (6, .int x2)]) dX3_totalIn_66 (by decide) rfl ?_
            obtain ⟨x13, hx13, hf⟩ := jl_inv hf
            refine jx_iinc (v := x13) (ls' := [(0, .ref (E.2.2.2 + 58)), (1, .int b1), (2, .int b2), (3, .int b3), (4, .int x12), (5, .int x13), (6, .int x2)]) dX3_totalIn_68 rfl (by rw [hx13]; rfl) (by decide) rfl ?_
            refine jx_goto (tgt := 6) dX3_totalIn_71 (by decide) ?_
            refine jx_pick [0, 1, 2, 3, 4, 5] rfl ?_
            exact ih _ _ _ _ _ _ _ _ hf
def f_X3_totalIn (a1 : Int32) (a2 : Int32) (a3 : Int32) (w : jw) : Option (Int32 × jw) := (l_X3_totalIn jfu a1 a2 a3 0 1 w)
set_option maxRecDepth 20000 in
set_option maxHeartbeats 2000000 in
theorem s_X3_totalIn {E : jE} (hE : jfull E) {a1 : Int32} {a2 : Int32} {a3 : Int32} {w w' : jw} {v : Int32} (hf : f_X3_totalIn a1 a2 a3 w = some (v, w')) : jC E m_X3_totalIn 2 [.ref (E.2.2.2 + 58), .int a1, .int a2, .int a3] w (some (.int v)) w' := by
  refine jC_of (ls := [(0, .ref (E.2.2.2 + 58)), (1, .int a1), (2, .int a2), (3, .int a3)]) (by decide) rfl (fun _ => trivial) (Nat.le_of_ble_eq_true rfl) rfl ⟨.int, rfl, rfl⟩ ?_
  unfold f_X3_totalIn at hf
  refine jx_iconst (v := 0) dX3_totalIn_0 (by decide) ?_
  refine jx_istore (ls' := [(0, .ref (E.2.2.2 + 58)), (1, .int a1), (2, .int a2), (3, .int a3), (4, .int 0)]) dX3_totalIn_1 (by decide) rfl ?_
  refine jx_iconst (v := 1) dX3_totalIn_3 (by decide) ?_
  refine jx_istore (ls' := [(0, .ref (E.2.2.2 + 58)), (1, .int a1), (2, .int a2), (3, .int a3), (4, .int 0), (5, .int 1)]) dX3_totalIn_4 (by decide) rfl ?_
  exact sl_X3_totalIn hE jfu _ _ _ _ _ _ _ _ hf
def l_X3_keyByRank : Nat → Int32 → Int32 → Int32 → Int32 → jw → Option (Int32 × jw)
  | 0, _, _, _, _, _ => none
  | n + 1, b1, b2, b3, b4, w => (if 1000 ≤ b4 then some ((-2), w) else (if (rat (w.2.2.2 59) b4) = (-1) then jl (b4 + 1) fun x3 => (l_X3_keyByRank n b1 b2 b3 x3 w) else (if b3 = 0 then some (b4, w) else jl (b3 + (-1)) fun x5 => jl (b4 + 1) fun x6 => (l_X3_keyByRank n b1 b2 x5 x6 w))))
set_option maxRecDepth 20000 in
set_option maxHeartbeats 2000000 in
theorem sl_X3_keyByRank {E : jE} (hE : jfull E) : ∀ (n : Nat) (b1 : Int32) (b2 : Int32) (b3 : Int32) (b4 : Int32) (w : jw) (v : Int32) (w' : jw), l_X3_keyByRank n b1 b2 b3 b4 w = some (v, w') → jX E m_X3_keyByRank 2 14 [(0, .ref (E.2.2.2 + 58)), (1, .int b1), (2, .int b2), (3, .int b3), (4, .int b4)] [] w (some (.int v)) w' := by
  intro n
  induction n with
  | zero => intro b1 b2 b3 b4 w v w' hf; cases hf
  | succ n ih =>
    intro b1 b2 b3 b4 w v w' hf
    unfold l_X3_keyByRank at hf
    refine jx_iload dX3_keyByRank_14 rfl ?_
    refine jx_sipush (v := 1000) dX3_keyByRank_16 (by decide) ?_
    refine jx_icmp_ge (tgt := 51) dX3_keyByRank_19 (by decide) (fun c1 => ?_) (fun c1 => ?_)
    · rw [if_pos c1] at hf
      refine jx_bipush (v := (-2)) dX3_keyByRank_51 (by decide) ?_
      cases hf
      exact jx_iret dX3_keyByRank_53 rfl rfl
    · rw [if_neg c1] at hf
      refine jx_aload_n dX3_keyByRank_22 rfl ?_
      refine jx_getr dX3_keyByRank_23 fl_X3_20 kj_58 sr_58_1 ?_
      refine jx_iload dX3_keyByRank_26 rfl ?_
      refine jx_cVi (a := 59) (As := [.int b4]) (rest := []) dX3_keyByRank_28 ml_X3_36 mv_X8_at (c_row_at (k := 0) kj_59 (by decide)) rfl rfl jc_59 (by decide) (Nat.le_of_ble_eq_true rfl) ?_
      refine jx_iconst (v := (-1)) dX3_keyByRank_31 (by decide) ?_
      refine jx_icmp_eq (tgt := 45) dX3_keyByRank_32 (by decide) (fun c2 => ?_) (fun c2 => ?_)
      · rw [if_pos c2] at hf
        obtain ⟨x3, hx3, hf⟩ := jl_inv hf
        refine jx_iinc (v := x3) (ls' := [(0, .ref (E.2.2.2 + 58)), (1, .int b1), (2, .int b2), (3, .int b3), (4, .int x3)]) dX3_keyByRank_45 rfl (by rw [hx3]; rfl) (by decide) rfl ?_
        refine jx_goto (tgt := 14) dX3_keyByRank_48 (by decide) ?_
        exact ih _ _ _ _ _ _ _ hf
      · rw [if_neg c2] at hf
        refine jx_iload_n dX3_keyByRank_35 rfl ?_
        refine jx_if_ne (tgt := 42) dX3_keyByRank_36 (by decide) (fun c4 => ?_) (fun c4 => ?_)
        · rw [if_neg c4] at hf
          obtain ⟨x5, hx5, hf⟩ := jl_inv hf
          refine jx_iinc (v := x5) (ls' := [(0, .ref (E.2.2.2 + 58)), (1, .int b1), (2, .int b2), (3, .int x5), (4, .int b4)]) dX3_keyByRank_42 rfl (by rw [hx5]; rfl) (by decide) rfl ?_
          obtain ⟨x6, hx6, hf⟩ := jl_inv hf
          refine jx_iinc (v := x6) (ls' := [(0, .ref (E.2.2.2 + 58)), (1, .int b1), (2, .int b2), (3, .int x5), (4, .int x6)]) dX3_keyByRank_45 rfl (by rw [hx6]; rfl) (by decide) rfl ?_
          refine jx_goto (tgt := 14) dX3_keyByRank_48 (by decide) ?_
          exact ih _ _ _ _ _ _ _ hf
        · rw [if_pos c4] at hf
          refine jx_iload dX3_keyByRank_39 rfl ?_
          cases hf
          exact jx_iret dX3_keyByRank_41 rfl rfl
def f_X3_keyByRank (a1 : Int32) (a2 : Int32) (w : jw) : Option (Int32 × jw) := jbd (f_X3_fillTable_59 a2 w) fun q7 => (l_X3_keyByRank jfu a1 a2 a1 0 q7)
set_option maxRecDepth 20000 in
set_option maxHeartbeats 2000000 in
theorem s_X3_keyByRank {E : jE} (hE : jfull E) {a1 : Int32} {a2 : Int32} {w w' : jw} {v : Int32} (hf : f_X3_keyByRank a1 a2 w = some (v, w')) : jC E m_X3_keyByRank 2 [.ref (E.2.2.2 + 58), .int a1, .int a2] w (some (.int v)) w' := by
  refine jC_of (ls := [(0, .ref (E.2.2.2 + 58)), (1, .int a1), (2, .int a2)]) (by decide) rfl (fun _ => trivial) (Nat.le_of_ble_eq_true rfl) rfl ⟨.int, rfl, rfl⟩ ?_
  unfold f_X3_keyByRank at hf
  refine jx_aload_n dX3_keyByRank_0 rfl ?_
  refine jx_aload_n dX3_keyByRank_1 rfl ?_
  refine jx_getr dX3_keyByRank_2 fl_X3_20 kj_58 sr_58_1 ?_
  refine jx_iload_n dX3_keyByRank_5 rfl ?_
  obtain ⟨q7, hq7, hf⟩ := jbd_inv hf
  refine jx_cVv (a := 58) (As := [.ref (E.2.2.2 + 59), .int a2]) (rest := []) dX3_keyByRank_6 ml_X3_53 mv_X3_fillTable (s_X3_fillTable_59 hE hq7) rfl rfl jc_58 (by decide) (Nat.le_of_ble_eq_true rfl) ?_
  refine jx_iload_n dX3_keyByRank_9 rfl ?_
  refine jx_istore_n (ls' := [(0, .ref (E.2.2.2 + 58)), (1, .int a1), (2, .int a2), (3, .int a1)]) dX3_keyByRank_10 (by decide) rfl ?_
  refine jx_iconst (v := 0) dX3_keyByRank_11 (by decide) ?_
  refine jx_istore (ls' := [(0, .ref (E.2.2.2 + 58)), (1, .int a1), (2, .int a2), (3, .int a1), (4, .int 0)]) dX3_keyByRank_12 (by decide) rfl ?_
  exact sl_X3_keyByRank hE jfu _ _ _ _ _ _ _ hf
def l_X3_fromKeyUp : Nat → Int32 → Int32 → Int32 → Int32 → jw → Option (Int32 × jw)
  | 0, _, _, _, _, _ => none
  | n + 1, b1, b2, b3, b4, w => (if b2 < b4 then some (b3, w) else jl (rat (w.2.2.2 36) b4 : Int32) fun x2 => (if x2 < b1 then jl (b4 + 1) fun x4 => (l_X3_fromKeyUp n b1 b2 b3 x4 w) else (if b3 = (-2) then jbd2 (f_X2_livesAt b4 b2 w) fun x7 w8 => (if (jb x7) = 0 then jl (b4 + 1) fun x10 => (l_X3_fromKeyUp n b1 b2 b3 x10 w8) else jl (b4 + 1) fun x11 => (l_X3_fromKeyUp n b1 b2 x2 x11 w8)) else (if b3 ≤ x2 then jl (b4 + 1) fun x13 => (l_X3_fromKeyUp n b1 b2 b3 x13 w) else jbd2 (f_X2_livesAt b4 b2 w) fun x15 w16 => (if (jb x15) = 0 then jl (b4 + 1) fun x18 => (l_X3_fromKeyUp n b1 b2 b3 x18 w16) else jl (b4 + 1) fun x19 => (l_X3_fromKeyUp n b1 b2 x2 x19 w16))))))
set_option maxRecDepth 20000 in
set_option maxHeartbeats 2000000 in
theorem sl_X3_fromKeyUp {E : jE} (hE : jfull E) : ∀ (n : Nat) (b1 : Int32) (b2 : Int32) (b3 : Int32) (b4 : Int32) (w : jw) (v : Int32) (w' : jw), l_X3_fromKeyUp n b1 b2 b3 b4 w = some (v, w') → jX E m_X3_fromKeyUp 2 6 [(0, .ref (E.2.2.2 + 58)), (1, .int b1), (2, .int b2), (3, .int b3), (4, .int b4)] [] w (some (.int v)) w' := by
  intro n
  induction n with
  | zero => intro b1 b2 b3 b4 w v w' hf; cases hf
  | succ n ih =>
    intro b1 b2 b3 b4 w v w' hf
    unfold l_X3_fromKeyUp at hf
    refine jx_iload dX3_fromKeyUp_6 rfl ?_
    refine jx_iload_n dX3_fromKeyUp_8 rfl ?_
    refine jx_icmp_gt (tgt := 66) dX3_fromKeyUp_9 (by decide) (fun c1 => ?_) (fun c1 => ?_)
    · rw [if_pos c1] at hf
      refine jx_iload_n dX3_fromKeyUp_66 rfl ?_
      cases hf
      exact jx_iret dX3_fromKeyUp_67 rfl rfl
    · rw [if_neg c1] at hf
      refine jx_aload_n dX3_fromKeyUp_12 rfl ?_
      refine jx_getr dX3_fromKeyUp_13 fl_X3_9 kj_58 sr_58_0 ?_
      refine jx_getr dX3_fromKeyUp_16 fl_X3_31 kj_35 sr_35_0 ?_
      refine jx_iload dX3_fromKeyUp_19 rfl ?_
      refine jx_cVi (a := 36) (As := [.int b4]) (rest := []) dX3_fromKeyUp_21 ml_X3_36 mv_X8_at (c_row_at (k := 0) kj_36 (by decide)) rfl rfl jc_36 (by decide) (Nat.le_of_ble_eq_true rfl) ?_
      obtain ⟨x2, hx2, hf⟩ := jl_inv hf
      refine jx_nm hx2 ?_
      refine jx_istore (ls' := [(0, .ref (E.2.2.2 + 58)), (1, .int b1), (2, .int b2), (3, .int b3), (4, .int b4), (5, .int x2)]) dX3_fromKeyUp_24 (by decide) rfl ?_
      refine jx_iload dX3_fromKeyUp_26 rfl ?_
      refine jx_iload_n dX3_fromKeyUp_28 rfl ?_
      refine jx_icmp_lt (tgt := 60) dX3_fromKeyUp_29 (by decide) (fun c3 => ?_) (fun c3 => ?_)
      · rw [if_pos c3] at hf
        obtain ⟨x4, hx4, hf⟩ := jl_inv hf
        refine jx_iinc (v := x4) (ls' := [(0, .ref (E.2.2.2 + 58)), (1, .int b1), (2, .int b2), (3, .int b3), (4, .int x4), (5, .int x2)]) dX3_fromKeyUp_60 rfl (by rw [hx4]; rfl) (by decide) rfl ?_
        refine jx_goto (tgt := 6) dX3_fromKeyUp_63 (by decide) ?_
        refine jx_pick [0, 1, 2, 3, 4] rfl ?_
        exact ih _ _ _ _ _ _ _ hf
      · rw [if_neg c3] at hf
        refine jx_iload_n dX3_fromKeyUp_32 rfl ?_
        refine jx_bipush (v := (-2)) dX3_fromKeyUp_33 (by decide) ?_
        refine jx_icmp_eq (tgt := 44) dX3_fromKeyUp_35 (by decide) (fun c5 => ?_) (fun c5 => ?_)
        · rw [if_pos c5] at hf
          refine jx_aload_n dX3_fromKeyUp_44 rfl ?_
          refine jx_getr dX3_fromKeyUp_45 fl_X3_9 kj_58 sr_58_0 ?_
          refine jx_iload dX3_fromKeyUp_48 rfl ?_
          refine jx_iload_n dX3_fromKeyUp_50 rfl ?_
          obtain ⟨x7, w8, hq6, hf⟩ := jbd2_inv hf
          refine jx_cVi (a := 35) (As := [.int b4, .int b2]) (rest := []) dX3_fromKeyUp_51 ml_X3_46 mv_X2_livesAt (s_X2_livesAt hE hq6) rfl rfl jc_35 (by decide) (Nat.le_of_ble_eq_true rfl) ?_
          refine jx_if_eq (tgt := 60) dX3_fromKeyUp_54 (by decide) (fun c9 => ?_) (fun c9 => ?_)
          · rw [if_pos c9] at hf
            obtain ⟨x10, hx10, hf⟩ := jl_inv hf
            refine jx_iinc (v := x10) (ls' := [(0, .ref (E.2.2.2 + 58)), (1, .int b1), (2, .int b2), (3, .int b3), (4, .int x10), (5, .int x2)]) dX3_fromKeyUp_60 rfl (by rw [hx10]; rfl) (by decide) rfl ?_
            refine jx_goto (tgt := 6) dX3_fromKeyUp_63 (by decide) ?_
            refine jx_pick [0, 1, 2, 3, 4] rfl ?_
            exact ih _ _ _ _ _ _ _ hf
          · rw [if_neg c9] at hf
            refine jx_iload dX3_fromKeyUp_57 rfl ?_
            refine jx_istore_n (ls' := [(0, .ref (E.2.2.2 + 58)), (1, .int b1), (2, .int b2), (3, .int x2), (4, .int b4), (5, .int x2)]) dX3_fromKeyUp_59 (by decide) rfl ?_
            obtain ⟨x11, hx11, hf⟩ := jl_inv hf
            refine jx_iinc (v := x11) (ls' := [(0, .ref (E.2.2.2 + 58)), (1, .int b1), (2, .int b2), (3, .int x2), (4, .int x11), (5, .int x2)]) dX3_fromKeyUp_60 rfl (by rw [hx11]; rfl) (by decide) rfl ?_
            refine jx_goto (tgt := 6) dX3_fromKeyUp_63 (by decide) ?_
            refine jx_pick [0, 1, 2, 3, 4] rfl ?_
            exact ih _ _ _ _ _ _ _ hf
        · rw [if_neg c5] at hf
          refine jx_iload dX3_fromKeyUp_38 rfl ?_
          refine jx_iload_n dX3_fromKeyUp_40 rfl ?_
          refine jx_icmp_ge (tgt := 60) dX3_fromKeyUp_41 (by decide) (fun c12 => ?_) (fun c12 => ?_)
          · rw [if_pos c12] at hf
            obtain ⟨x13, hx13, hf⟩ := jl_inv hf
            refine jx_iinc (v := x13) (ls' := [(0, .ref (E.2.2.2 + 58)), (1, .int b1), (2, .int b2), (3, .int b3), (4, .int x13), (5, .int x2)]) dX3_fromKeyUp_60 rfl (by rw [hx13]; rfl) (by decide) rfl ?_
            refine jx_goto (tgt := 6) dX3_fromKeyUp_63 (by decide) ?_
            refine jx_pick [0, 1, 2, 3, 4] rfl ?_
            exact ih _ _ _ _ _ _ _ hf
          · rw [if_neg c12] at hf
            refine jx_aload_n dX3_fromKeyUp_44 rfl ?_
            refine jx_getr dX3_fromKeyUp_45 fl_X3_9 kj_58 sr_58_0 ?_
            refine jx_iload dX3_fromKeyUp_48 rfl ?_
            refine jx_iload_n dX3_fromKeyUp_50 rfl ?_
            obtain ⟨x15, w16, hq14, hf⟩ := jbd2_inv hf
            refine jx_cVi (a := 35) (As := [.int b4, .int b2]) (rest := []) dX3_fromKeyUp_51 ml_X3_46 mv_X2_livesAt (s_X2_livesAt hE hq14) rfl rfl jc_35 (by decide) (Nat.le_of_ble_eq_true rfl) ?_
            refine jx_if_eq (tgt := 60) dX3_fromKeyUp_54 (by decide) (fun c17 => ?_) (fun c17 => ?_)
            · rw [if_pos c17] at hf
              obtain ⟨x18, hx18, hf⟩ := jl_inv hf
              refine jx_iinc (v := x18) (ls' := [(0, .ref (E.2.2.2 + 58)), (1, .int b1), (2, .int b2), (3, .int b3), (4, .int x18), (5, .int x2)]) dX3_fromKeyUp_60 rfl (by rw [hx18]; rfl) (by decide) rfl ?_
              refine jx_goto (tgt := 6) dX3_fromKeyUp_63 (by decide) ?_
              refine jx_pick [0, 1, 2, 3, 4] rfl ?_
              exact ih _ _ _ _ _ _ _ hf
            · rw [if_neg c17] at hf
              refine jx_iload dX3_fromKeyUp_57 rfl ?_
              refine jx_istore_n (ls' := [(0, .ref (E.2.2.2 + 58)), (1, .int b1), (2, .int b2), (3, .int x2), (4, .int b4), (5, .int x2)]) dX3_fromKeyUp_59 (by decide) rfl ?_
              obtain ⟨x19, hx19, hf⟩ := jl_inv hf
              refine jx_iinc (v := x19) (ls' := [(0, .ref (E.2.2.2 + 58)), (1, .int b1), (2, .int b2), (3, .int x2), (4, .int x19), (5, .int x2)]) dX3_fromKeyUp_60 rfl (by rw [hx19]; rfl) (by decide) rfl ?_
              refine jx_goto (tgt := 6) dX3_fromKeyUp_63 (by decide) ?_
              refine jx_pick [0, 1, 2, 3, 4] rfl ?_
              exact ih _ _ _ _ _ _ _ hf
def f_X3_fromKeyUp (a1 : Int32) (a2 : Int32) (w : jw) : Option (Int32 × jw) := (l_X3_fromKeyUp jfu a1 a2 (-2) 1 w)
set_option maxRecDepth 20000 in
set_option maxHeartbeats 2000000 in
theorem s_X3_fromKeyUp {E : jE} (hE : jfull E) {a1 : Int32} {a2 : Int32} {w w' : jw} {v : Int32} (hf : f_X3_fromKeyUp a1 a2 w = some (v, w')) : jC E m_X3_fromKeyUp 2 [.ref (E.2.2.2 + 58), .int a1, .int a2] w (some (.int v)) w' := by
  refine jC_of (ls := [(0, .ref (E.2.2.2 + 58)), (1, .int a1), (2, .int a2)]) (by decide) rfl (fun _ => trivial) (Nat.le_of_ble_eq_true rfl) rfl ⟨.int, rfl, rfl⟩ ?_
  unfold f_X3_fromKeyUp at hf
  refine jx_bipush (v := (-2)) dX3_fromKeyUp_0 (by decide) ?_
  refine jx_istore_n (ls' := [(0, .ref (E.2.2.2 + 58)), (1, .int a1), (2, .int a2), (3, .int (-2))]) dX3_fromKeyUp_2 (by decide) rfl ?_
  refine jx_iconst (v := 1) dX3_fromKeyUp_3 (by decide) ?_
  refine jx_istore (ls' := [(0, .ref (E.2.2.2 + 58)), (1, .int a1), (2, .int a2), (3, .int (-2)), (4, .int 1)]) dX3_fromKeyUp_4 (by decide) rfl ?_
  exact sl_X3_fromKeyUp hE jfu _ _ _ _ _ _ _ hf
def l_X3_fromKeyDown : Nat → Int32 → Int32 → Int32 → Int32 → jw → Option (Int32 × jw)
  | 0, _, _, _, _, _ => none
  | n + 1, b1, b2, b3, b4, w => (if b2 < b4 then some (b3, w) else jl (rat (w.2.2.2 36) b4 : Int32) fun x2 => (if b1 < x2 then jl (b4 + 1) fun x4 => (l_X3_fromKeyDown n b1 b2 b3 x4 w) else (if x2 ≤ b3 then jl (b4 + 1) fun x6 => (l_X3_fromKeyDown n b1 b2 b3 x6 w) else jbd2 (f_X2_livesAt b4 b2 w) fun x8 w9 => (if (jb x8) = 0 then jl (b4 + 1) fun x11 => (l_X3_fromKeyDown n b1 b2 b3 x11 w9) else jl (b4 + 1) fun x12 => (l_X3_fromKeyDown n b1 b2 x2 x12 w9)))))
set_option maxRecDepth 20000 in
set_option maxHeartbeats 2000000 in
theorem sl_X3_fromKeyDown {E : jE} (hE : jfull E) : ∀ (n : Nat) (b1 : Int32) (b2 : Int32) (b3 : Int32) (b4 : Int32) (w : jw) (v : Int32) (w' : jw), l_X3_fromKeyDown n b1 b2 b3 b4 w = some (v, w') → jX E m_X3_fromKeyDown 2 6 [(0, .ref (E.2.2.2 + 58)), (1, .int b1), (2, .int b2), (3, .int b3), (4, .int b4)] [] w (some (.int v)) w' := by
  intro n
  induction n with
  | zero => intro b1 b2 b3 b4 w v w' hf; cases hf
  | succ n ih =>
    intro b1 b2 b3 b4 w v w' hf
    unfold l_X3_fromKeyDown at hf
    refine jx_iload dX3_fromKeyDown_6 rfl ?_
    refine jx_iload_n dX3_fromKeyDown_8 rfl ?_
    refine jx_icmp_gt (tgt := 60) dX3_fromKeyDown_9 (by decide) (fun c1 => ?_) (fun c1 => ?_)
    · rw [if_pos c1] at hf
      refine jx_iload_n dX3_fromKeyDown_60 rfl ?_
      cases hf
      exact jx_iret dX3_fromKeyDown_61 rfl rfl
    · rw [if_neg c1] at hf
      refine jx_aload_n dX3_fromKeyDown_12 rfl ?_
      refine jx_getr dX3_fromKeyDown_13 fl_X3_9 kj_58 sr_58_0 ?_
      refine jx_getr dX3_fromKeyDown_16 fl_X3_31 kj_35 sr_35_0 ?_
      refine jx_iload dX3_fromKeyDown_19 rfl ?_
      refine jx_cVi (a := 36) (As := [.int b4]) (rest := []) dX3_fromKeyDown_21 ml_X3_36 mv_X8_at (c_row_at (k := 0) kj_36 (by decide)) rfl rfl jc_36 (by decide) (Nat.le_of_ble_eq_true rfl) ?_
      obtain ⟨x2, hx2, hf⟩ := jl_inv hf
      refine jx_nm hx2 ?_
      refine jx_istore (ls' := [(0, .ref (E.2.2.2 + 58)), (1, .int b1), (2, .int b2), (3, .int b3), (4, .int b4), (5, .int x2)]) dX3_fromKeyDown_24 (by decide) rfl ?_
      refine jx_iload dX3_fromKeyDown_26 rfl ?_
      refine jx_iload_n dX3_fromKeyDown_28 rfl ?_
      refine jx_icmp_gt (tgt := 54) dX3_fromKeyDown_29 (by decide) (fun c3 => ?_) (fun c3 => ?_)
      · rw [if_pos c3] at hf
        obtain ⟨x4, hx4, hf⟩ := jl_inv hf
        refine jx_iinc (v := x4) (ls' := [(0, .ref (E.2.2.2 + 58)), (1, .int b1), (2, .int b2), (3, .int b3), (4, .int x4), (5, .int x2)]) dX3_fromKeyDown_54 rfl (by rw [hx4]; rfl) (by decide) rfl ?_
        refine jx_goto (tgt := 6) dX3_fromKeyDown_57 (by decide) ?_
        refine jx_pick [0, 1, 2, 3, 4] rfl ?_
        exact ih _ _ _ _ _ _ _ hf
      · rw [if_neg c3] at hf
        refine jx_iload dX3_fromKeyDown_32 rfl ?_
        refine jx_iload_n dX3_fromKeyDown_34 rfl ?_
        refine jx_icmp_le (tgt := 54) dX3_fromKeyDown_35 (by decide) (fun c5 => ?_) (fun c5 => ?_)
        · rw [if_pos c5] at hf
          obtain ⟨x6, hx6, hf⟩ := jl_inv hf
          refine jx_iinc (v := x6) (ls' := [(0, .ref (E.2.2.2 + 58)), (1, .int b1), (2, .int b2), (3, .int b3), (4, .int x6), (5, .int x2)]) dX3_fromKeyDown_54 rfl (by rw [hx6]; rfl) (by decide) rfl ?_
          refine jx_goto (tgt := 6) dX3_fromKeyDown_57 (by decide) ?_
          refine jx_pick [0, 1, 2, 3, 4] rfl ?_
          exact ih _ _ _ _ _ _ _ hf
        · rw [if_neg c5] at hf
          refine jx_aload_n dX3_fromKeyDown_38 rfl ?_
          refine jx_getr dX3_fromKeyDown_39 fl_X3_9 kj_58 sr_58_0 ?_
          refine jx_iload dX3_fromKeyDown_42 rfl ?_
          refine jx_iload_n dX3_fromKeyDown_44 rfl ?_
          obtain ⟨x8, w9, hq7, hf⟩ := jbd2_inv hf
          refine jx_cVi (a := 35) (As := [.int b4, .int b2]) (rest := []) dX3_fromKeyDown_45 ml_X3_46 mv_X2_livesAt (s_X2_livesAt hE hq7) rfl rfl jc_35 (by decide) (Nat.le_of_ble_eq_true rfl) ?_
          refine jx_if_eq (tgt := 54) dX3_fromKeyDown_48 (by decide) (fun c10 => ?_) (fun c10 => ?_)
          · rw [if_pos c10] at hf
            obtain ⟨x11, hx11, hf⟩ := jl_inv hf
            refine jx_iinc (v := x11) (ls' := [(0, .ref (E.2.2.2 + 58)), (1, .int b1), (2, .int b2), (3, .int b3), (4, .int x11), (5, .int x2)]) dX3_fromKeyDown_54 rfl (by rw [hx11]; rfl) (by decide) rfl ?_
            refine jx_goto (tgt := 6) dX3_fromKeyDown_57 (by decide) ?_
            refine jx_pick [0, 1, 2, 3, 4] rfl ?_
            exact ih _ _ _ _ _ _ _ hf
          · rw [if_neg c10] at hf
            refine jx_iload dX3_fromKeyDown_51 rfl ?_
            refine jx_istore_n (ls' := [(0, .ref (E.2.2.2 + 58)), (1, .int b1), (2, .int b2), (3, .int x2), (4, .int b4), (5, .int x2)]) dX3_fromKeyDown_53 (by decide) rfl ?_
            obtain ⟨x12, hx12, hf⟩ := jl_inv hf
            refine jx_iinc (v := x12) (ls' := [(0, .ref (E.2.2.2 + 58)), (1, .int b1), (2, .int b2), (3, .int x2), (4, .int x12), (5, .int x2)]) dX3_fromKeyDown_54 rfl (by rw [hx12]; rfl) (by decide) rfl ?_
            refine jx_goto (tgt := 6) dX3_fromKeyDown_57 (by decide) ?_
            refine jx_pick [0, 1, 2, 3, 4] rfl ?_
            exact ih _ _ _ _ _ _ _ hf
def f_X3_fromKeyDown (a1 : Int32) (a2 : Int32) (w : jw) : Option (Int32 × jw) := (l_X3_fromKeyDown jfu a1 a2 (-2) 1 w)
set_option maxRecDepth 20000 in
set_option maxHeartbeats 2000000 in
theorem s_X3_fromKeyDown {E : jE} (hE : jfull E) {a1 : Int32} {a2 : Int32} {w w' : jw} {v : Int32} (hf : f_X3_fromKeyDown a1 a2 w = some (v, w')) : jC E m_X3_fromKeyDown 2 [.ref (E.2.2.2 + 58), .int a1, .int a2] w (some (.int v)) w' := by
  refine jC_of (ls := [(0, .ref (E.2.2.2 + 58)), (1, .int a1), (2, .int a2)]) (by decide) rfl (fun _ => trivial) (Nat.le_of_ble_eq_true rfl) rfl ⟨.int, rfl, rfl⟩ ?_
  unfold f_X3_fromKeyDown at hf
  refine jx_bipush (v := (-2)) dX3_fromKeyDown_0 (by decide) ?_
  refine jx_istore_n (ls' := [(0, .ref (E.2.2.2 + 58)), (1, .int a1), (2, .int a2), (3, .int (-2))]) dX3_fromKeyDown_2 (by decide) rfl ?_
  refine jx_iconst (v := 1) dX3_fromKeyDown_3 (by decide) ?_
  refine jx_istore (ls' := [(0, .ref (E.2.2.2 + 58)), (1, .int a1), (2, .int a2), (3, .int (-2)), (4, .int 1)]) dX3_fromKeyDown_4 (by decide) rfl ?_
  exact sl_X3_fromKeyDown hE jfu _ _ _ _ _ _ _ hf
def l_X3_differences : Nat → Int32 → Int32 → Int32 → Int32 → Int32 → Int32 → jw → Option (Int32 × jw)
  | 0, _, _, _, _, _, _, _ => none
  | n + 1, b1, b2, b3, b4, b5, b6, w => (if b2 < b6 then some (b5, w) else jl (rat (w.2.2.2 59) b6 : Int32) fun x2 => jl (rat (w.2.2.2 61) b6 : Int32) fun x3 => jbd (if x2 = (-1) then some (1 : Int32) else some (0 : Int32)) fun x5 => jbd (if x3 = (-1) then some (1 : Int32) else some (0 : Int32)) fun x8 => jbd (if x5 = x8 then some (0 : Int32) else some (1 : Int32)) fun x11 => jbd (if x11 = 0 then (if x2 = (-1) then some b5 else (if (rat (w.2.2.2 40) x2) = (rat (w.2.2.2 40) x3) then some b5 else jl (b5 + 1) fun x20 => some x20)) else jl (b5 + 1) fun x17 => some x17) fun x14 => jl (b6 + 1) fun x16 => (l_X3_differences n b1 b2 b3 b4 x14 x16 w))
set_option maxRecDepth 20000 in
set_option maxHeartbeats 2000000 in
theorem sl_X3_differences {E : jE} (hE : jfull E) : ∀ (n : Nat) (b1 : Int32) (b2 : Int32) (b3 : Int32) (b4 : Int32) (b5 : Int32) (b6 : Int32) (w : jw) (v : Int32) (w' : jw), l_X3_differences n b1 b2 b3 b4 b5 b6 w = some (v, w') → jX E m_X3_differences 2 25 [(0, .ref (E.2.2.2 + 58)), (1, .int b1), (2, .int b2), (3, .int b3), (4, .int b4), (5, .int b5), (6, .int b6)] [] w (some (.int v)) w' := by
  intro n
  induction n with
  | zero => intro b1 b2 b3 b4 b5 b6 w v w' hf; cases hf
  | succ n ih =>
    intro b1 b2 b3 b4 b5 b6 w v w' hf
    unfold l_X3_differences at hf
    refine jx_iload dX3_differences_25 rfl ?_
    refine jx_iload_n dX3_differences_27 rfl ?_
    refine jx_icmp_gt (tgt := 132) dX3_differences_28 (by decide) (fun c1 => ?_) (fun c1 => ?_)
    · rw [if_pos c1] at hf
      refine jx_iload dX3_differences_132 rfl ?_
      cases hf
      exact jx_iret dX3_differences_134 rfl rfl
    · rw [if_neg c1] at hf
      refine jx_aload_n dX3_differences_31 rfl ?_
      refine jx_getr dX3_differences_32 fl_X3_20 kj_58 sr_58_1 ?_
      refine jx_iload dX3_differences_35 rfl ?_
      refine jx_cVi (a := 59) (As := [.int b6]) (rest := []) dX3_differences_37 ml_X3_36 mv_X8_at (c_row_at (k := 0) kj_59 (by decide)) rfl rfl jc_59 (by decide) (Nat.le_of_ble_eq_true rfl) ?_
      obtain ⟨x2, hx2, hf⟩ := jl_inv hf
      refine jx_nm hx2 ?_
      refine jx_istore (ls' := [(0, .ref (E.2.2.2 + 58)), (1, .int b1), (2, .int b2), (3, .int b3), (4, .int b4), (5, .int b5), (6, .int b6), (7, .int x2)]) dX3_differences_40 (by decide) rfl ?_
      refine jx_aload_n dX3_differences_42 rfl ?_
      refine jx_getr dX3_differences_43 fl_X3_24 kj_58 sr_58_2 ?_
      refine jx_iload dX3_differences_46 rfl ?_
      refine jx_cVi (a := 61) (As := [.int b6]) (rest := []) dX3_differences_48 ml_X3_36 mv_X8_at (c_row_at (k := 0) kj_61 (by decide)) rfl rfl jc_61 (by decide) (Nat.le_of_ble_eq_true rfl) ?_
      obtain ⟨x3, hx3, hf⟩ := jl_inv hf
      refine jx_nm hx3 ?_
      refine jx_istore (ls' := [(0, .ref (E.2.2.2 + 58)), (1, .int b1), (2, .int b2), (3, .int b3), (4, .int b4), (5, .int b5), (6, .int b6), (7, .int x2), (8, .int x3)]) dX3_differences_51 (by decide) rfl ?_
      refine jx_iload dX3_differences_53 rfl ?_
      refine jx_iconst (v := (-1)) dX3_differences_55 (by decide) ?_
      obtain ⟨x5, hqhJ6, hf⟩ := jbd_inv hf
      have hJ6 : jX E m_X3_differences 2 64 [(0, .ref (E.2.2.2 + 58)), (1, .int b1), (2, .int b2), (3, .int b3), (4, .int b4), (5, .int b5), (6, .int b6), (7, .int x2), (8, .int x3)] [.int x5] w (some (.int v)) w' := by
        refine jx_iload dX3_differences_64 rfl ?_
        refine jx_iconst (v := (-1)) dX3_differences_66 (by decide) ?_
        obtain ⟨x8, hqhJ9, hf⟩ := jbd_inv hf
        have hJ9 : jX E m_X3_differences 2 75 [(0, .ref (E.2.2.2 + 58)), (1, .int b1), (2, .int b2), (3, .int b3), (4, .int b4), (5, .int b5), (6, .int b6), (7, .int x2), (8, .int x3)] [.int x8, .int x5] w (some (.int v)) w' := by
          obtain ⟨x11, hqhJ12, hf⟩ := jbd_inv hf
          have hJ12 : jX E m_X3_differences 2 83 [(0, .ref (E.2.2.2 + 58)), (1, .int b1), (2, .int b2), (3, .int b3), (4, .int b4), (5, .int b5), (6, .int b6), (7, .int x2), (8, .int x3)] [.int x11] w (some (.int v)) w' := by
            refine jx_istore (ls' := [(0, .ref (E.2.2.2 + 58)), (1, .int b1), (2, .int b2), (3, .int b3), (4, .int b4), (5, .int b5), (6, .int b6), (7, .int x2), (8, .int x3), (9, .int x11)]) dX3_differences_83 (by decide) rfl ?_
            refine jx_iload dX3_differences_85 rfl ?_
            obtain ⟨x14, hqhJ15, hf⟩ := jbd_inv hf
            have hJ15 : jX E m_X3_differences 2 126 [(0, .ref (E.2.2.2 + 58)), (1, .int b1), (2, .int b2), (3, .int b3), (4, .int b4), (5, .int x14), (6, .int b6), (7, .int x2), (8, .int x3), (9, .int x11)] [] w (some (.int v)) w' := by
              obtain ⟨x16, hx16, hf⟩ := jl_inv hf
              refine jx_iinc (v := x16) (ls' := [(0, .ref (E.2.2.2 + 58)), (1, .int b1), (2, .int b2), (3, .int b3), (4, .int b4), (5, .int x14), (6, .int x16), (7, .int x2), (8, .int x3), (9, .int x11)]) dX3_differences_126 rfl (by rw [hx16]; rfl) (by decide) rfl ?_
              refine jx_goto (tgt := 25) dX3_differences_129 (by decide) ?_
              refine jx_pick [0, 1, 2, 3, 4, 5, 6] rfl ?_
              exact ih _ _ _ _ _ _ _ _ _ hf
            clear hf
            have hf := hqhJ15
            clear hqhJ15
            refine jx_if_ne (tgt := 123) dX3_differences_87 (by decide) (fun c13 => ?_) (fun c13 => ?_)
            · rw [if_neg c13] at hf
              obtain ⟨x17, hx17, hf⟩ := jl_inv hf
              refine jx_iinc (v := x17) (ls' := [(0, .ref (E.2.2.2 + 58)), (1, .int b1), (2, .int b2), (3, .int b3), (4, .int b4), (5, .int x17), (6, .int b6), (7, .int x2), (8, .int x3), (9, .int x11)]) dX3_differences_123 rfl (by rw [hx17]; rfl) (by decide) rfl ?_
              cases hf
              exact hJ15
            · rw [if_pos c13] at hf
              refine jx_iload dX3_differences_90 rfl ?_
              refine jx_iconst (v := (-1)) dX3_differences_92 (by decide) ?_
              refine jx_icmp_eq (tgt := 126) dX3_differences_93 (by decide) (fun c18 => ?_) (fun c18 => ?_)
              · rw [if_pos c18] at hf
                cases hf
                exact hJ15
              · rw [if_neg c18] at hf
                refine jx_aload_n dX3_differences_96 rfl ?_
                refine jx_getr dX3_differences_97 fl_X3_9 kj_58 sr_58_0 ?_
                refine jx_getr dX3_differences_100 fl_X3_50 kj_35 sr_35_2 ?_
                refine jx_iload dX3_differences_103 rfl ?_
                refine jx_cVi (a := 40) (As := [.int x2]) (rest := []) dX3_differences_105 ml_X3_36 mv_X8_at (c_row_at (k := 0) kj_40 (by decide)) rfl rfl jc_40 (by decide) (Nat.le_of_ble_eq_true rfl) ?_
                refine jx_aload_n dX3_differences_108 rfl ?_
                refine jx_getr dX3_differences_109 fl_X3_9 kj_58 sr_58_0 ?_
                refine jx_getr dX3_differences_112 fl_X3_50 kj_35 sr_35_2 ?_
                refine jx_iload dX3_differences_115 rfl ?_
                refine jx_cVi (a := 40) (As := [.int x3]) (rest := [.int (rat (w.2.2.2 40) x2)]) dX3_differences_117 ml_X3_36 mv_X8_at (c_row_at (k := 0) kj_40 (by decide)) rfl rfl jc_40 (by decide) (Nat.le_of_ble_eq_true rfl) ?_
                refine jx_icmp_eq (tgt := 126) dX3_differences_120 (by decide) (fun c19 => ?_) (fun c19 => ?_)
                · rw [if_pos c19] at hf
                  cases hf
                  exact hJ15
                · rw [if_neg c19] at hf
                  obtain ⟨x20, hx20, hf⟩ := jl_inv hf
                  refine jx_iinc (v := x20) (ls' := [(0, .ref (E.2.2.2 + 58)), (1, .int b1), (2, .int b2), (3, .int b3), (4, .int b4), (5, .int x20), (6, .int b6), (7, .int x2), (8, .int x3), (9, .int x11)]) dX3_differences_123 rfl (by rw [hx20]; rfl) (by decide) rfl ?_
                  cases hf
                  exact hJ15
          clear hf
          have hf := hqhJ12
          clear hqhJ12
          refine jx_icmp_eq (tgt := 82) dX3_differences_75 (by decide) (fun c10 => ?_) (fun c10 => ?_)
          · rw [if_pos c10] at hf
            refine jx_iconst (v := 0) dX3_differences_82 (by decide) ?_
            cases hf
            exact hJ12
          · rw [if_neg c10] at hf
            refine jx_iconst (v := 1) dX3_differences_78 (by decide) ?_
            refine jx_goto (tgt := 83) dX3_differences_79 (by decide) ?_
            cases hf
            exact hJ12
        clear hf
        have hf := hqhJ9
        clear hqhJ9
        refine jx_icmp_ne (tgt := 74) dX3_differences_67 (by decide) (fun c7 => ?_) (fun c7 => ?_)
        · rw [if_neg c7] at hf
          refine jx_iconst (v := 0) dX3_differences_74 (by decide) ?_
          cases hf
          exact hJ9
        · rw [if_pos c7] at hf
          refine jx_iconst (v := 1) dX3_differences_70 (by decide) ?_
          refine jx_goto (tgt := 75) dX3_differences_71 (by decide) ?_
          cases hf
          exact hJ9
      clear hf
      have hf := hqhJ6
      clear hqhJ6
      refine jx_icmp_ne (tgt := 63) dX3_differences_56 (by decide) (fun c4 => ?_) (fun c4 => ?_)
      · rw [if_neg c4] at hf
        refine jx_iconst (v := 0) dX3_differences_63 (by decide) ?_
        cases hf
        exact hJ6
      · rw [if_pos c4] at hf
        refine jx_iconst (v := 1) dX3_differences_59 (by decide) ?_
        refine jx_goto (tgt := 64) dX3_differences_60 (by decide) ?_
        cases hf
        exact hJ6
def f_X3_differences (a1 : Int32) (a2 : Int32) (a3 : Int32) (a4 : Int32) (w : jw) : Option (Int32 × jw) := jbd (f_X3_fillTable_59 a3 w) fun q21 => jbd (f_X3_fillTable_61 a4 q21) fun q22 => (l_X3_differences jfu a1 a2 a3 a4 0 a1 q22)
set_option maxRecDepth 20000 in
set_option maxHeartbeats 2000000 in
theorem s_X3_differences {E : jE} (hE : jfull E) {a1 : Int32} {a2 : Int32} {a3 : Int32} {a4 : Int32} {w w' : jw} {v : Int32} (hf : f_X3_differences a1 a2 a3 a4 w = some (v, w')) : jC E m_X3_differences 2 [.ref (E.2.2.2 + 58), .int a1, .int a2, .int a3, .int a4] w (some (.int v)) w' := by
  refine jC_of (ls := [(0, .ref (E.2.2.2 + 58)), (1, .int a1), (2, .int a2), (3, .int a3), (4, .int a4)]) (by decide) rfl (fun _ => trivial) (Nat.le_of_ble_eq_true rfl) rfl ⟨.int, rfl, rfl⟩ ?_
  unfold f_X3_differences at hf
  refine jx_aload_n dX3_differences_0 rfl ?_
  refine jx_aload_n dX3_differences_1 rfl ?_
  refine jx_getr dX3_differences_2 fl_X3_20 kj_58 sr_58_1 ?_
  refine jx_iload_n dX3_differences_5 rfl ?_
  obtain ⟨q21, hq21, hf⟩ := jbd_inv hf
  refine jx_cVv (a := 58) (As := [.ref (E.2.2.2 + 59), .int a3]) (rest := []) dX3_differences_6 ml_X3_53 mv_X3_fillTable (s_X3_fillTable_59 hE hq21) rfl rfl jc_58 (by decide) (Nat.le_of_ble_eq_true rfl) ?_
  refine jx_aload_n dX3_differences_9 rfl ?_
  refine jx_aload_n dX3_differences_10 rfl ?_
  refine jx_getr dX3_differences_11 fl_X3_24 kj_58 sr_58_2 ?_
  refine jx_iload dX3_differences_14 rfl ?_
  obtain ⟨q22, hq22, hf⟩ := jbd_inv hf
  refine jx_cVv (a := 58) (As := [.ref (E.2.2.2 + 61), .int a4]) (rest := []) dX3_differences_16 ml_X3_53 mv_X3_fillTable (s_X3_fillTable_61 hE hq22) rfl rfl jc_58 (by decide) (Nat.le_of_ble_eq_true rfl) ?_
  refine jx_iconst (v := 0) dX3_differences_19 (by decide) ?_
  refine jx_istore (ls' := [(0, .ref (E.2.2.2 + 58)), (1, .int a1), (2, .int a2), (3, .int a3), (4, .int a4), (5, .int 0)]) dX3_differences_20 (by decide) rfl ?_
  refine jx_iload_n dX3_differences_22 rfl ?_
  refine jx_istore (ls' := [(0, .ref (E.2.2.2 + 58)), (1, .int a1), (2, .int a2), (3, .int a3), (4, .int a4), (5, .int 0), (6, .int a1)]) dX3_differences_23 (by decide) rfl ?_
  exact sl_X3_differences hE jfu _ _ _ _ _ _ _ _ _ hf
def l_X3_livingWithin_70 : Nat → Int32 → Int32 → Int32 → Int32 → Int32 → Int32 → jw → Option (Int32 × jw)
  | 0, _, _, _, _, _, _, _ => none
  | n + 1, b1, b2, b3, b4, b5, b6, w => (if b2 < b6 then some (b5, w) else (if (rat (w.2.2.2 59) b6) = (-1) then jl (b6 + 1) fun x3 => (l_X3_livingWithin_70 n b1 b2 b3 b4 b5 x3 w) else jl (b5 + 1) fun x4 => jl (b6 + 1) fun x5 => (l_X3_livingWithin_70 n b1 b2 b3 b4 x4 x5 w)))
set_option maxRecDepth 20000 in
set_option maxHeartbeats 2000000 in
theorem sl_X3_livingWithin_70 {E : jE} (hE : jfull E) : ∀ (n : Nat) (b1 : Int32) (b2 : Int32) (b3 : Int32) (b4 : Int32) (b5 : Int32) (b6 : Int32) (w : jw) (v : Int32) (w' : jw), l_X3_livingWithin_70 n b1 b2 b3 b4 b5 b6 w = some (v, w') → jX E m_X3_livingWithin 2 70 [(0, .ref (E.2.2.2 + 58)), (1, .int b1), (2, .int b2), (3, .int b3), (4, .int b4), (5, .int b5), (6, .int b6)] [] w (some (.int v)) w' := by
  intro n
  induction n with
  | zero => intro b1 b2 b3 b4 b5 b6 w v w' hf; cases hf
  | succ n ih =>
    intro b1 b2 b3 b4 b5 b6 w v w' hf
    unfold l_X3_livingWithin_70 at hf
    refine jx_iload dX3_livingWithin_70 rfl ?_
    refine jx_iload_n dX3_livingWithin_72 rfl ?_
    refine jx_icmp_gt (tgt := 98) dX3_livingWithin_73 (by decide) (fun c1 => ?_) (fun c1 => ?_)
    · rw [if_pos c1] at hf
      refine jx_iload dX3_livingWithin_98 rfl ?_
      cases hf
      exact jx_iret dX3_livingWithin_100 rfl rfl
    · rw [if_neg c1] at hf
      refine jx_aload_n dX3_livingWithin_76 rfl ?_
      refine jx_getr dX3_livingWithin_77 fl_X3_20 kj_58 sr_58_1 ?_
      refine jx_iload dX3_livingWithin_80 rfl ?_
      refine jx_cVi (a := 59) (As := [.int b6]) (rest := []) dX3_livingWithin_82 ml_X3_36 mv_X8_at (c_row_at (k := 0) kj_59 (by decide)) rfl rfl jc_59 (by decide) (Nat.le_of_ble_eq_true rfl) ?_
      refine jx_iconst (v := (-1)) dX3_livingWithin_85 (by decide) ?_
      refine jx_icmp_eq (tgt := 92) dX3_livingWithin_86 (by decide) (fun c2 => ?_) (fun c2 => ?_)
      · rw [if_pos c2] at hf
        obtain ⟨x3, hx3, hf⟩ := jl_inv hf
        refine jx_iinc (v := x3) (ls' := [(0, .ref (E.2.2.2 + 58)), (1, .int b1), (2, .int b2), (3, .int b3), (4, .int b4), (5, .int b5), (6, .int x3)]) dX3_livingWithin_92 rfl (by rw [hx3]; rfl) (by decide) rfl ?_
        refine jx_goto (tgt := 70) dX3_livingWithin_95 (by decide) ?_
        exact ih _ _ _ _ _ _ _ _ _ hf
      · rw [if_neg c2] at hf
        obtain ⟨x4, hx4, hf⟩ := jl_inv hf
        refine jx_iinc (v := x4) (ls' := [(0, .ref (E.2.2.2 + 58)), (1, .int b1), (2, .int b2), (3, .int b3), (4, .int b4), (5, .int x4), (6, .int b6)]) dX3_livingWithin_89 rfl (by rw [hx4]; rfl) (by decide) rfl ?_
        obtain ⟨x5, hx5, hf⟩ := jl_inv hf
        refine jx_iinc (v := x5) (ls' := [(0, .ref (E.2.2.2 + 58)), (1, .int b1), (2, .int b2), (3, .int b3), (4, .int b4), (5, .int x4), (6, .int x5)]) dX3_livingWithin_92 rfl (by rw [hx5]; rfl) (by decide) rfl ?_
        refine jx_goto (tgt := 70) dX3_livingWithin_95 (by decide) ?_
        exact ih _ _ _ _ _ _ _ _ _ hf
def l_X3_livingWithin_14 : Nat → Int32 → Int32 → Int32 → Int32 → Int32 → jw → Option (Int32 × jw)
  | 0, _, _, _, _, _, _ => none
  | n + 1, b1, b2, b3, b4, b5, w => (if b4 < b5 then (l_X3_livingWithin_70 jfu b1 b2 b3 b4 0 b1 w) else (if (rat (w.2.2.2 38) b5) = 1 then jl (jsetR w 59 (rset (w.2.2.2 59) (rat (w.2.2.2 36) b5) b5)) fun w9 => jl (b5 + 1) fun x10 => (l_X3_livingWithin_14 n b1 b2 b3 b4 x10 w9) else jl (b5 + 1) fun x8 => (l_X3_livingWithin_14 n b1 b2 b3 b4 x8 w)))
set_option maxRecDepth 20000 in
set_option maxHeartbeats 2000000 in
theorem sl_X3_livingWithin_14 {E : jE} (hE : jfull E) : ∀ (n : Nat) (b1 : Int32) (b2 : Int32) (b3 : Int32) (b4 : Int32) (b5 : Int32) (w : jw) (v : Int32) (w' : jw), l_X3_livingWithin_14 n b1 b2 b3 b4 b5 w = some (v, w') → jX E m_X3_livingWithin 2 14 [(0, .ref (E.2.2.2 + 58)), (1, .int b1), (2, .int b2), (3, .int b3), (4, .int b4), (5, .int b5)] [] w (some (.int v)) w' := by
  intro n
  induction n with
  | zero => intro b1 b2 b3 b4 b5 w v w' hf; cases hf
  | succ n ih =>
    intro b1 b2 b3 b4 b5 w v w' hf
    unfold l_X3_livingWithin_14 at hf
    refine jx_iload dX3_livingWithin_14 rfl ?_
    refine jx_iload dX3_livingWithin_16 rfl ?_
    refine jx_icmp_gt (tgt := 64) dX3_livingWithin_18 (by decide) (fun c6 => ?_) (fun c6 => ?_)
    · rw [if_pos c6] at hf
      refine jx_iconst (v := 0) dX3_livingWithin_64 (by decide) ?_
      refine jx_istore (ls' := [(0, .ref (E.2.2.2 + 58)), (1, .int b1), (2, .int b2), (3, .int b3), (4, .int b4), (5, .int 0)]) dX3_livingWithin_65 (by decide) rfl ?_
      refine jx_iload_n dX3_livingWithin_67 rfl ?_
      refine jx_istore (ls' := [(0, .ref (E.2.2.2 + 58)), (1, .int b1), (2, .int b2), (3, .int b3), (4, .int b4), (5, .int 0), (6, .int b1)]) dX3_livingWithin_68 (by decide) rfl ?_
      exact sl_X3_livingWithin_70 hE jfu _ _ _ _ _ _ _ _ _ hf
    · rw [if_neg c6] at hf
      refine jx_aload_n dX3_livingWithin_21 rfl ?_
      refine jx_getr dX3_livingWithin_22 fl_X3_9 kj_58 sr_58_0 ?_
      refine jx_getr dX3_livingWithin_25 fl_X3_40 kj_35 sr_35_1 ?_
      refine jx_iload dX3_livingWithin_28 rfl ?_
      refine jx_cVi (a := 38) (As := [.int b5]) (rest := []) dX3_livingWithin_30 ml_X3_36 mv_X8_at (c_row_at (k := 0) kj_38 (by decide)) rfl rfl jc_38 (by decide) (Nat.le_of_ble_eq_true rfl) ?_
      refine jx_iconst (v := 1) dX3_livingWithin_33 (by decide) ?_
      refine jx_icmp_ne (tgt := 58) dX3_livingWithin_34 (by decide) (fun c7 => ?_) (fun c7 => ?_)
      · rw [if_neg c7] at hf
        obtain ⟨x8, hx8, hf⟩ := jl_inv hf
        refine jx_iinc (v := x8) (ls' := [(0, .ref (E.2.2.2 + 58)), (1, .int b1), (2, .int b2), (3, .int b3), (4, .int b4), (5, .int x8)]) dX3_livingWithin_58 rfl (by rw [hx8]; rfl) (by decide) rfl ?_
        refine jx_goto (tgt := 14) dX3_livingWithin_61 (by decide) ?_
        exact ih _ _ _ _ _ _ _ _ hf
      · rw [if_pos c7] at hf
        refine jx_aload_n dX3_livingWithin_37 rfl ?_
        refine jx_getr dX3_livingWithin_38 fl_X3_20 kj_58 sr_58_1 ?_
        refine jx_aload_n dX3_livingWithin_41 rfl ?_
        refine jx_getr dX3_livingWithin_42 fl_X3_9 kj_58 sr_58_0 ?_
        refine jx_getr dX3_livingWithin_45 fl_X3_31 kj_35 sr_35_0 ?_
        refine jx_iload dX3_livingWithin_48 rfl ?_
        refine jx_cVi (a := 36) (As := [.int b5]) (rest := [.ref (E.2.2.2 + 59)]) dX3_livingWithin_50 ml_X3_36 mv_X8_at (c_row_at (k := 0) kj_36 (by decide)) rfl rfl jc_36 (by decide) (Nat.le_of_ble_eq_true rfl) ?_
        refine jx_iload dX3_livingWithin_53 rfl ?_
        refine jx_cVv (a := 59) (As := [.int (rat (w.2.2.2 36) b5), .int b5]) (rest := []) dX3_livingWithin_55 ml_X3_43 mv_X8_change (c_row_change (k := 0) kj_59 (by decide)) rfl rfl jc_59 (by decide) (Nat.le_of_ble_eq_true rfl) ?_
        obtain ⟨w9, hw9, hf⟩ := jl_inv hf
        refine jx_nw hw9 ?_
        obtain ⟨x10, hx10, hf⟩ := jl_inv hf
        refine jx_iinc (v := x10) (ls' := [(0, .ref (E.2.2.2 + 58)), (1, .int b1), (2, .int b2), (3, .int b3), (4, .int b4), (5, .int x10)]) dX3_livingWithin_58 rfl (by rw [hx10]; rfl) (by decide) rfl ?_
        refine jx_goto (tgt := 14) dX3_livingWithin_61 (by decide) ?_
        exact ih _ _ _ _ _ _ _ _ hf
def f_X3_livingWithin (a1 : Int32) (a2 : Int32) (a3 : Int32) (a4 : Int32) (w : jw) : Option (Int32 × jw) := jbd (f_X3_fillTable_59 a3 w) fun q11 => jl (a3 + 1 : Int32) fun x12 => (l_X3_livingWithin_14 jfu a1 a2 a3 a4 x12 q11)
set_option maxRecDepth 20000 in
set_option maxHeartbeats 2000000 in
theorem s_X3_livingWithin {E : jE} (hE : jfull E) {a1 : Int32} {a2 : Int32} {a3 : Int32} {a4 : Int32} {w w' : jw} {v : Int32} (hf : f_X3_livingWithin a1 a2 a3 a4 w = some (v, w')) : jC E m_X3_livingWithin 2 [.ref (E.2.2.2 + 58), .int a1, .int a2, .int a3, .int a4] w (some (.int v)) w' := by
  refine jC_of (ls := [(0, .ref (E.2.2.2 + 58)), (1, .int a1), (2, .int a2), (3, .int a3), (4, .int a4)]) (by decide) rfl (fun _ => trivial) (Nat.le_of_ble_eq_true rfl) rfl ⟨.int, rfl, rfl⟩ ?_
  unfold f_X3_livingWithin at hf
  refine jx_aload_n dX3_livingWithin_0 rfl ?_
  refine jx_aload_n dX3_livingWithin_1 rfl ?_
  refine jx_getr dX3_livingWithin_2 fl_X3_20 kj_58 sr_58_1 ?_
  refine jx_iload_n dX3_livingWithin_5 rfl ?_
  obtain ⟨q11, hq11, hf⟩ := jbd_inv hf
  refine jx_cVv (a := 58) (As := [.ref (E.2.2.2 + 59), .int a3]) (rest := []) dX3_livingWithin_6 ml_X3_53 mv_X3_fillTable (s_X3_fillTable_59 hE hq11) rfl rfl jc_58 (by decide) (Nat.le_of_ble_eq_true rfl) ?_
  refine jx_iload_n dX3_livingWithin_9 rfl ?_
  refine jx_iconst (v := 1) dX3_livingWithin_10 (by decide) ?_
  refine jx_iadd dX3_livingWithin_11 ?_
  obtain ⟨x12, hx12, hf⟩ := jl_inv hf
  refine jx_nm hx12 ?_
  refine jx_istore (ls' := [(0, .ref (E.2.2.2 + 58)), (1, .int a1), (2, .int a2), (3, .int a3), (4, .int a4), (5, .int x12)]) dX3_livingWithin_12 (by decide) rfl ?_
  exact sl_X3_livingWithin_14 hE jfu _ _ _ _ _ _ _ _ hf
def l_X3_timesOf : Nat → Int32 → Int32 → Int32 → Int32 → Int32 → Int32 → jw → Option (Int32 × jw)
  | 0, _, _, _, _, _, _, _ => none
  | n + 1, b1, b2, b3, b4, b5, b6, w => (if b3 < b6 then some (b5, w) else (if (rat (w.2.2.2 36) b6) = b1 then (if (rat (w.2.2.2 38) b6) = 1 then (if (1 : Int32) = 0 then jl (b5 + 0 : Int32) fun x15 => jl (b6 + 1) fun x16 => (l_X3_timesOf n b1 b2 b3 1 x15 x16 w) else jl (b5 + 1 : Int32) fun x17 => jl (b6 + 1) fun x18 => (l_X3_timesOf n b1 b2 b3 1 x17 x18 w)) else (if (0 : Int32) = 0 then jl (b5 + 0 : Int32) fun x10 => jl (b6 + 1) fun x11 => (l_X3_timesOf n b1 b2 b3 0 x10 x11 w) else jl (b5 + 1 : Int32) fun x12 => jl (b6 + 1) fun x13 => (l_X3_timesOf n b1 b2 b3 0 x12 x13 w))) else (if b4 = 0 then jl (b5 + 0 : Int32) fun x4 => jl (b6 + 1) fun x5 => (l_X3_timesOf n b1 b2 b3 b4 x4 x5 w) else jl (b5 + 1 : Int32) fun x6 => jl (b6 + 1) fun x7 => (l_X3_timesOf n b1 b2 b3 b4 x6 x7 w))))
set_option maxRecDepth 20000 in
set_option maxHeartbeats 2000000 in
theorem sl_X3_timesOf {E : jE} (hE : jfull E) : ∀ (n : Nat) (b1 : Int32) (b2 : Int32) (b3 : Int32) (b4 : Int32) (b5 : Int32) (b6 : Int32) (w : jw) (v : Int32) (w' : jw), l_X3_timesOf n b1 b2 b3 b4 b5 b6 w = some (v, w') → jX E m_X3_timesOf 2 37 [(0, .ref (E.2.2.2 + 58)), (1, .int b1), (2, .int b2), (3, .int b3), (4, .int b4), (5, .int b5), (6, .int b6)] [] w (some (.int v)) w' := by
  intro n
  induction n with
  | zero => intro b1 b2 b3 b4 b5 b6 w v w' hf; cases hf
  | succ n ih =>
    intro b1 b2 b3 b4 b5 b6 w v w' hf
    unfold l_X3_timesOf at hf
    refine jx_iload dX3_timesOf_37 rfl ?_
    refine jx_iload_n dX3_timesOf_39 rfl ?_
    refine jx_icmp_gt (tgt := 103) dX3_timesOf_40 (by decide) (fun c1 => ?_) (fun c1 => ?_)
    · rw [if_pos c1] at hf
      refine jx_iload dX3_timesOf_103 rfl ?_
      cases hf
      exact jx_iret dX3_timesOf_105 rfl rfl
    · rw [if_neg c1] at hf
      refine jx_aload_n dX3_timesOf_43 rfl ?_
      refine jx_getr dX3_timesOf_44 fl_X3_9 kj_58 sr_58_0 ?_
      refine jx_getr dX3_timesOf_47 fl_X3_31 kj_35 sr_35_0 ?_
      refine jx_iload dX3_timesOf_50 rfl ?_
      refine jx_cVi (a := 36) (As := [.int b6]) (rest := []) dX3_timesOf_52 ml_X3_36 mv_X8_at (c_row_at (k := 0) kj_36 (by decide)) rfl rfl jc_36 (by decide) (Nat.le_of_ble_eq_true rfl) ?_
      refine jx_iload_n dX3_timesOf_55 rfl ?_
      refine jx_icmp_ne (tgt := 82) dX3_timesOf_56 (by decide) (fun c2 => ?_) (fun c2 => ?_)
      · rw [if_neg c2] at hf
        refine jx_iload dX3_timesOf_82 rfl ?_
        refine jx_iload dX3_timesOf_84 rfl ?_
        refine jx_if_eq (tgt := 93) dX3_timesOf_86 (by decide) (fun c3 => ?_) (fun c3 => ?_)
        · rw [if_pos c3] at hf
          refine jx_iconst (v := 0) dX3_timesOf_93 (by decide) ?_
          refine jx_iadd dX3_timesOf_94 ?_
          obtain ⟨x4, hx4, hf⟩ := jl_inv hf
          refine jx_nm hx4 ?_
          refine jx_istore (ls' := [(0, .ref (E.2.2.2 + 58)), (1, .int b1), (2, .int b2), (3, .int b3), (4, .int b4), (5, .int x4), (6, .int b6)]) dX3_timesOf_95 (by decide) rfl ?_
          obtain ⟨x5, hx5, hf⟩ := jl_inv hf
          refine jx_iinc (v := x5) (ls' := [(0, .ref (E.2.2.2 + 58)), (1, .int b1), (2, .int b2), (3, .int b3), (4, .int b4), (5, .int x4), (6, .int x5)]) dX3_timesOf_97 rfl (by rw [hx5]; rfl) (by decide) rfl ?_
          refine jx_goto (tgt := 37) dX3_timesOf_100 (by decide) ?_
          exact ih _ _ _ _ _ _ _ _ _ hf
        · rw [if_neg c3] at hf
          refine jx_iconst (v := 1) dX3_timesOf_89 (by decide) ?_
          refine jx_goto (tgt := 94) dX3_timesOf_90 (by decide) ?_
          refine jx_iadd dX3_timesOf_94 ?_
          obtain ⟨x6, hx6, hf⟩ := jl_inv hf
          refine jx_nm hx6 ?_
          refine jx_istore (ls' := [(0, .ref (E.2.2.2 + 58)), (1, .int b1), (2, .int b2), (3, .int b3), (4, .int b4), (5, .int x6), (6, .int b6)]) dX3_timesOf_95 (by decide) rfl ?_
          obtain ⟨x7, hx7, hf⟩ := jl_inv hf
          refine jx_iinc (v := x7) (ls' := [(0, .ref (E.2.2.2 + 58)), (1, .int b1), (2, .int b2), (3, .int b3), (4, .int b4), (5, .int x6), (6, .int x7)]) dX3_timesOf_97 rfl (by rw [hx7]; rfl) (by decide) rfl ?_
          refine jx_goto (tgt := 37) dX3_timesOf_100 (by decide) ?_
          exact ih _ _ _ _ _ _ _ _ _ hf
      · rw [if_pos c2] at hf
        refine jx_aload_n dX3_timesOf_59 rfl ?_
        refine jx_getr dX3_timesOf_60 fl_X3_9 kj_58 sr_58_0 ?_
        refine jx_getr dX3_timesOf_63 fl_X3_40 kj_35 sr_35_1 ?_
        refine jx_iload dX3_timesOf_66 rfl ?_
        refine jx_cVi (a := 38) (As := [.int b6]) (rest := []) dX3_timesOf_68 ml_X3_36 mv_X8_at (c_row_at (k := 0) kj_38 (by decide)) rfl rfl jc_38 (by decide) (Nat.le_of_ble_eq_true rfl) ?_
        refine jx_iconst (v := 1) dX3_timesOf_71 (by decide) ?_
        refine jx_icmp_ne (tgt := 79) dX3_timesOf_72 (by decide) (fun c8 => ?_) (fun c8 => ?_)
        · rw [if_neg c8] at hf
          refine jx_iconst (v := 0) dX3_timesOf_79 (by decide) ?_
          refine jx_istore (ls' := [(0, .ref (E.2.2.2 + 58)), (1, .int b1), (2, .int b2), (3, .int b3), (4, .int 0), (5, .int b5), (6, .int b6)]) dX3_timesOf_80 (by decide) rfl ?_
          refine jx_iload dX3_timesOf_82 rfl ?_
          refine jx_iload dX3_timesOf_84 rfl ?_
          refine jx_if_eq (tgt := 93) dX3_timesOf_86 (by decide) (fun c9 => ?_) (fun c9 => ?_)
          · rw [if_pos c9] at hf
            refine jx_iconst (v := 0) dX3_timesOf_93 (by decide) ?_
            refine jx_iadd dX3_timesOf_94 ?_
            obtain ⟨x10, hx10, hf⟩ := jl_inv hf
            refine jx_nm hx10 ?_
            refine jx_istore (ls' := [(0, .ref (E.2.2.2 + 58)), (1, .int b1), (2, .int b2), (3, .int b3), (4, .int 0), (5, .int x10), (6, .int b6)]) dX3_timesOf_95 (by decide) rfl ?_
            obtain ⟨x11, hx11, hf⟩ := jl_inv hf
            refine jx_iinc (v := x11) (ls' := [(0, .ref (E.2.2.2 + 58)), (1, .int b1), (2, .int b2), (3, .int b3), (4, .int 0), (5, .int x10), (6, .int x11)]) dX3_timesOf_97 rfl (by rw [hx11]; rfl) (by decide) rfl ?_
            refine jx_goto (tgt := 37) dX3_timesOf_100 (by decide) ?_
            exact ih _ _ _ _ _ _ _ _ _ hf
          · rw [if_neg c9] at hf
            refine jx_iconst (v := 1) dX3_timesOf_89 (by decide) ?_
            refine jx_goto (tgt := 94) dX3_timesOf_90 (by decide) ?_
            refine jx_iadd dX3_timesOf_94 ?_
            obtain ⟨x12, hx12, hf⟩ := jl_inv hf
            refine jx_nm hx12 ?_
            refine jx_istore (ls' := [(0, .ref (E.2.2.2 + 58)), (1, .int b1), (2, .int b2), (3, .int b3), (4, .int 0), (5, .int x12), (6, .int b6)]) dX3_timesOf_95 (by decide) rfl ?_
            obtain ⟨x13, hx13, hf⟩ := jl_inv hf
            refine jx_iinc (v := x13) (ls' := [(0, .ref (E.2.2.2 + 58)), (1, .int b1), (2, .int b2), (3, .int b3), (4, .int 0), (5, .int x12), (6, .int x13)]) dX3_timesOf_97 rfl (by rw [hx13]; rfl) (by decide) rfl ?_
            refine jx_goto (tgt := 37) dX3_timesOf_100 (by decide) ?_
            exact ih _ _ _ _ _ _ _ _ _ hf
        · rw [if_pos c8] at hf
          refine jx_iconst (v := 1) dX3_timesOf_75 (by decide) ?_
          refine jx_goto (tgt := 80) dX3_timesOf_76 (by decide) ?_
          refine jx_istore (ls' := [(0, .ref (E.2.2.2 + 58)), (1, .int b1), (2, .int b2), (3, .int b3), (4, .int 1), (5, .int b5), (6, .int b6)]) dX3_timesOf_80 (by decide) rfl ?_
          refine jx_iload dX3_timesOf_82 rfl ?_
          refine jx_iload dX3_timesOf_84 rfl ?_
          refine jx_if_eq (tgt := 93) dX3_timesOf_86 (by decide) (fun c14 => ?_) (fun c14 => ?_)
          · rw [if_pos c14] at hf
            refine jx_iconst (v := 0) dX3_timesOf_93 (by decide) ?_
            refine jx_iadd dX3_timesOf_94 ?_
            obtain ⟨x15, hx15, hf⟩ := jl_inv hf
            refine jx_nm hx15 ?_
            refine jx_istore (ls' := [(0, .ref (E.2.2.2 + 58)), (1, .int b1), (2, .int b2), (3, .int b3), (4, .int 1), (5, .int x15), (6, .int b6)]) dX3_timesOf_95 (by decide) rfl ?_
            obtain ⟨x16, hx16, hf⟩ := jl_inv hf
            refine jx_iinc (v := x16) (ls' := [(0, .ref (E.2.2.2 + 58)), (1, .int b1), (2, .int b2), (3, .int b3), (4, .int 1), (5, .int x15), (6, .int x16)]) dX3_timesOf_97 rfl (by rw [hx16]; rfl) (by decide) rfl ?_
            refine jx_goto (tgt := 37) dX3_timesOf_100 (by decide) ?_
            exact ih _ _ _ _ _ _ _ _ _ hf
          · rw [if_neg c14] at hf
            refine jx_iconst (v := 1) dX3_timesOf_89 (by decide) ?_
            refine jx_goto (tgt := 94) dX3_timesOf_90 (by decide) ?_
            refine jx_iadd dX3_timesOf_94 ?_
            obtain ⟨x17, hx17, hf⟩ := jl_inv hf
            refine jx_nm hx17 ?_
            refine jx_istore (ls' := [(0, .ref (E.2.2.2 + 58)), (1, .int b1), (2, .int b2), (3, .int b3), (4, .int 1), (5, .int x17), (6, .int b6)]) dX3_timesOf_95 (by decide) rfl ?_
            obtain ⟨x18, hx18, hf⟩ := jl_inv hf
            refine jx_iinc (v := x18) (ls' := [(0, .ref (E.2.2.2 + 58)), (1, .int b1), (2, .int b2), (3, .int b3), (4, .int 1), (5, .int x17), (6, .int x18)]) dX3_timesOf_97 rfl (by rw [hx18]; rfl) (by decide) rfl ?_
            refine jx_goto (tgt := 37) dX3_timesOf_100 (by decide) ?_
            exact ih _ _ _ _ _ _ _ _ _ hf
def f_X3_timesOf (a1 : Int32) (a2 : Int32) (a3 : Int32) (w : jw) : Option (Int32 × jw) := jbd2 (f_X2_livingFrom a1 a2 w) fun x20 w21 => (if x20 = (-1) then (if (0 : Int32) = 0 then jl (a2 + 1 : Int32) fun x24 => (l_X3_timesOf jfu a1 a2 a3 0 0 x24 w21) else jl (a2 + 1 : Int32) fun x25 => (l_X3_timesOf jfu a1 a2 a3 0 1 x25 w21)) else (if (1 : Int32) = 0 then jl (a2 + 1 : Int32) fun x27 => (l_X3_timesOf jfu a1 a2 a3 1 0 x27 w21) else jl (a2 + 1 : Int32) fun x28 => (l_X3_timesOf jfu a1 a2 a3 1 1 x28 w21)))
set_option maxRecDepth 20000 in
set_option maxHeartbeats 2000000 in
theorem s_X3_timesOf {E : jE} (hE : jfull E) {a1 : Int32} {a2 : Int32} {a3 : Int32} {w w' : jw} {v : Int32} (hf : f_X3_timesOf a1 a2 a3 w = some (v, w')) : jC E m_X3_timesOf 2 [.ref (E.2.2.2 + 58), .int a1, .int a2, .int a3] w (some (.int v)) w' := by
  refine jC_of (ls := [(0, .ref (E.2.2.2 + 58)), (1, .int a1), (2, .int a2), (3, .int a3)]) (by decide) rfl (fun _ => trivial) (Nat.le_of_ble_eq_true rfl) rfl ⟨.int, rfl, rfl⟩ ?_
  unfold f_X3_timesOf at hf
  refine jx_aload_n dX3_timesOf_0 rfl ?_
  refine jx_getr dX3_timesOf_1 fl_X3_9 kj_58 sr_58_0 ?_
  refine jx_iload_n dX3_timesOf_4 rfl ?_
  refine jx_iload_n dX3_timesOf_5 rfl ?_
  obtain ⟨x20, w21, hq19, hf⟩ := jbd2_inv hf
  refine jx_cVi (a := 35) (As := [.int a1, .int a2]) (rest := []) dX3_timesOf_6 ml_X3_57 mv_X2_livingFrom (s_X2_livingFrom hE hq19) rfl rfl jc_35 (by decide) (Nat.le_of_ble_eq_true rfl) ?_
  refine jx_iconst (v := (-1)) dX3_timesOf_9 (by decide) ?_
  refine jx_icmp_eq (tgt := 17) dX3_timesOf_10 (by decide) (fun c22 => ?_) (fun c22 => ?_)
  · rw [if_pos c22] at hf
    refine jx_iconst (v := 0) dX3_timesOf_17 (by decide) ?_
    refine jx_istore (ls' := [(0, .ref (E.2.2.2 + 58)), (1, .int a1), (2, .int a2), (3, .int a3), (4, .int 0)]) dX3_timesOf_18 (by decide) rfl ?_
    refine jx_iload dX3_timesOf_20 rfl ?_
    refine jx_if_eq (tgt := 29) dX3_timesOf_22 (by decide) (fun c23 => ?_) (fun c23 => ?_)
    · rw [if_pos c23] at hf
      refine jx_iconst (v := 0) dX3_timesOf_29 (by decide) ?_
      refine jx_istore (ls' := [(0, .ref (E.2.2.2 + 58)), (1, .int a1), (2, .int a2), (3, .int a3), (4, .int 0), (5, .int 0)]) dX3_timesOf_30 (by decide) rfl ?_
      refine jx_iload_n dX3_timesOf_32 rfl ?_
      refine jx_iconst (v := 1) dX3_timesOf_33 (by decide) ?_
      refine jx_iadd dX3_timesOf_34 ?_
      obtain ⟨x24, hx24, hf⟩ := jl_inv hf
      refine jx_nm hx24 ?_
      refine jx_istore (ls' := [(0, .ref (E.2.2.2 + 58)), (1, .int a1), (2, .int a2), (3, .int a3), (4, .int 0), (5, .int 0), (6, .int x24)]) dX3_timesOf_35 (by decide) rfl ?_
      exact sl_X3_timesOf hE jfu _ _ _ _ _ _ _ _ _ hf
    · rw [if_neg c23] at hf
      refine jx_iconst (v := 1) dX3_timesOf_25 (by decide) ?_
      refine jx_goto (tgt := 30) dX3_timesOf_26 (by decide) ?_
      refine jx_istore (ls' := [(0, .ref (E.2.2.2 + 58)), (1, .int a1), (2, .int a2), (3, .int a3), (4, .int 0), (5, .int 1)]) dX3_timesOf_30 (by decide) rfl ?_
      refine jx_iload_n dX3_timesOf_32 rfl ?_
      refine jx_iconst (v := 1) dX3_timesOf_33 (by decide) ?_
      refine jx_iadd dX3_timesOf_34 ?_
      obtain ⟨x25, hx25, hf⟩ := jl_inv hf
      refine jx_nm hx25 ?_
      refine jx_istore (ls' := [(0, .ref (E.2.2.2 + 58)), (1, .int a1), (2, .int a2), (3, .int a3), (4, .int 0), (5, .int 1), (6, .int x25)]) dX3_timesOf_35 (by decide) rfl ?_
      exact sl_X3_timesOf hE jfu _ _ _ _ _ _ _ _ _ hf
  · rw [if_neg c22] at hf
    refine jx_iconst (v := 1) dX3_timesOf_13 (by decide) ?_
    refine jx_goto (tgt := 18) dX3_timesOf_14 (by decide) ?_
    refine jx_istore (ls' := [(0, .ref (E.2.2.2 + 58)), (1, .int a1), (2, .int a2), (3, .int a3), (4, .int 1)]) dX3_timesOf_18 (by decide) rfl ?_
    refine jx_iload dX3_timesOf_20 rfl ?_
    refine jx_if_eq (tgt := 29) dX3_timesOf_22 (by decide) (fun c26 => ?_) (fun c26 => ?_)
    · rw [if_pos c26] at hf
      refine jx_iconst (v := 0) dX3_timesOf_29 (by decide) ?_
      refine jx_istore (ls' := [(0, .ref (E.2.2.2 + 58)), (1, .int a1), (2, .int a2), (3, .int a3), (4, .int 1), (5, .int 0)]) dX3_timesOf_30 (by decide) rfl ?_
      refine jx_iload_n dX3_timesOf_32 rfl ?_
      refine jx_iconst (v := 1) dX3_timesOf_33 (by decide) ?_
      refine jx_iadd dX3_timesOf_34 ?_
      obtain ⟨x27, hx27, hf⟩ := jl_inv hf
      refine jx_nm hx27 ?_
      refine jx_istore (ls' := [(0, .ref (E.2.2.2 + 58)), (1, .int a1), (2, .int a2), (3, .int a3), (4, .int 1), (5, .int 0), (6, .int x27)]) dX3_timesOf_35 (by decide) rfl ?_
      exact sl_X3_timesOf hE jfu _ _ _ _ _ _ _ _ _ hf
    · rw [if_neg c26] at hf
      refine jx_iconst (v := 1) dX3_timesOf_25 (by decide) ?_
      refine jx_goto (tgt := 30) dX3_timesOf_26 (by decide) ?_
      refine jx_istore (ls' := [(0, .ref (E.2.2.2 + 58)), (1, .int a1), (2, .int a2), (3, .int a3), (4, .int 1), (5, .int 1)]) dX3_timesOf_30 (by decide) rfl ?_
      refine jx_iload_n dX3_timesOf_32 rfl ?_
      refine jx_iconst (v := 1) dX3_timesOf_33 (by decide) ?_
      refine jx_iadd dX3_timesOf_34 ?_
      obtain ⟨x28, hx28, hf⟩ := jl_inv hf
      refine jx_nm hx28 ?_
      refine jx_istore (ls' := [(0, .ref (E.2.2.2 + 58)), (1, .int a1), (2, .int a2), (3, .int a3), (4, .int 1), (5, .int 1), (6, .int x28)]) dX3_timesOf_35 (by decide) rfl ?_
      exact sl_X3_timesOf hE jfu _ _ _ _ _ _ _ _ _ hf
def l_X3_mostLiving : Nat → Int32 → Int32 → Int32 → Int32 → Int32 → Int32 → Int32 → jw → Option (Int32 × jw)
  | 0, _, _, _, _, _, _, _, _ => none
  | n + 1, b1, b2, b3, b4, b5, b6, b7, w => (if (nI (w.2.2.2 36).length) ≤ b7 then (if b3 = 0 then some (b6, w) else some (b5, w)) else jl (rat (w.2.2.2 36) b7 : Int32) fun x3 => (if x3 < b1 then (if b4 ≤ b5 then jl (b7 + 1) fun x6 => (l_X3_mostLiving n b1 b2 b3 b4 b5 b6 x6 w) else jl (b7 + 1) fun x7 => (l_X3_mostLiving n b1 b2 b3 b4 b4 b7 x7 w)) else (if b2 < x3 then (if b4 ≤ b5 then jl (b7 + 1) fun x10 => (l_X3_mostLiving n b1 b2 b3 b4 b5 b6 x10 w) else jl (b7 + 1) fun x11 => (l_X3_mostLiving n b1 b2 b3 b4 b4 b7 x11 w)) else jl (b4 + ((rat (w.2.2.2 38) b7) - (rat (w.2.2.2 59) x3)) : Int32) fun x12 => jl (jsetR w 59 (rset (w.2.2.2 59) x3 (rat (w.2.2.2 38) b7))) fun w13 => (if x12 ≤ b5 then jl (b7 + 1) fun x15 => (l_X3_mostLiving n b1 b2 b3 x12 b5 b6 x15 w13) else jl (b7 + 1) fun x16 => (l_X3_mostLiving n b1 b2 b3 x12 x12 b7 x16 w13)))))
set_option maxRecDepth 20000 in
set_option maxHeartbeats 2000000 in
theorem sl_X3_mostLiving {E : jE} (hE : jfull E) : ∀ (n : Nat) (b1 : Int32) (b2 : Int32) (b3 : Int32) (b4 : Int32) (b5 : Int32) (b6 : Int32) (b7 : Int32) (w : jw) (v : Int32) (w' : jw), l_X3_mostLiving n b1 b2 b3 b4 b5 b6 b7 w = some (v, w') → jX E m_X3_mostLiving 1 23 [(0, .ref (E.2.2.2 + 58)), (1, .int b1), (2, .int b2), (3, .int b3), (4, .int b4), (5, .int b5), (6, .int b6), (7, .int b7)] [] w (some (.int v)) w' := by
  intro n
  induction n with
  | zero => intro b1 b2 b3 b4 b5 b6 b7 w v w' hf; cases hf
  | succ n ih =>
    intro b1 b2 b3 b4 b5 b6 b7 w v w' hf
    unfold l_X3_mostLiving at hf
    refine jx_iload dX3_mostLiving_23 rfl ?_
    refine jx_aload_n dX3_mostLiving_25 rfl ?_
    refine jx_getr dX3_mostLiving_26 fl_X3_9 kj_58 sr_58_0 ?_
    refine jx_getr dX3_mostLiving_29 fl_X3_31 kj_35 sr_35_0 ?_
    refine jx_getn dX3_mostLiving_32 fl_X3_61 kj_36 (by decide) ?_
    refine jx_icmp_ge (tgt := 133) dX3_mostLiving_35 (by decide) (fun c1 => ?_) (fun c1 => ?_)
    · rw [if_pos c1] at hf
      refine jx_iload_n dX3_mostLiving_133 rfl ?_
      refine jx_if_ne (tgt := 142) dX3_mostLiving_134 (by decide) (fun c2 => ?_) (fun c2 => ?_)
      · rw [if_neg c2] at hf
        refine jx_iload dX3_mostLiving_142 rfl ?_
        cases hf
        exact jx_iret dX3_mostLiving_144 rfl rfl
      · rw [if_pos c2] at hf
        refine jx_iload dX3_mostLiving_137 rfl ?_
        refine jx_goto (tgt := 144) dX3_mostLiving_139 (by decide) ?_
        cases hf
        exact jx_iret dX3_mostLiving_144 rfl rfl
    · rw [if_neg c1] at hf
      refine jx_aload_n dX3_mostLiving_38 rfl ?_
      refine jx_getr dX3_mostLiving_39 fl_X3_9 kj_58 sr_58_0 ?_
      refine jx_getr dX3_mostLiving_42 fl_X3_31 kj_35 sr_35_0 ?_
      refine jx_iload dX3_mostLiving_45 rfl ?_
      refine jx_cVi (a := 36) (As := [.int b7]) (rest := []) dX3_mostLiving_47 ml_X3_36 mv_X8_at (c_row_at (k := 0) kj_36 (by decide)) rfl rfl jc_36 (by decide) (Nat.le_of_ble_eq_true rfl) ?_
      obtain ⟨x3, hx3, hf⟩ := jl_inv hf
      refine jx_nm hx3 ?_
      refine jx_istore (ls' := [(0, .ref (E.2.2.2 + 58)), (1, .int b1), (2, .int b2), (3, .int b3), (4, .int b4), (5, .int b5), (6, .int b6), (7, .int b7), (8, .int x3)]) dX3_mostLiving_50 (by decide) rfl ?_
      refine jx_iload dX3_mostLiving_52 rfl ?_
      refine jx_iload_n dX3_mostLiving_54 rfl ?_
      refine jx_icmp_lt (tgt := 112) dX3_mostLiving_55 (by decide) (fun c4 => ?_) (fun c4 => ?_)
      · rw [if_pos c4] at hf
        refine jx_iload dX3_mostLiving_112 rfl ?_
        refine jx_iload dX3_mostLiving_114 rfl ?_
        refine jx_icmp_le (tgt := 127) dX3_mostLiving_116 (by decide) (fun c5 => ?_) (fun c5 => ?_)
        · rw [if_pos c5] at hf
          obtain ⟨x6, hx6, hf⟩ := jl_inv hf
          refine jx_iinc (v := x6) (ls' := [(0, .ref (E.2.2.2 + 58)), (1, .int b1), (2, .int b2), (3, .int b3), (4, .int b4), (5, .int b5), (6, .int b6), (7, .int x6), (8, .int x3)]) dX3_mostLiving_127 rfl (by rw [hx6]; rfl) (by decide) rfl ?_
          refine jx_goto (tgt := 23) dX3_mostLiving_130 (by decide) ?_
          refine jx_pick [0, 1, 2, 3, 4, 5, 6, 7] rfl ?_
          exact ih _ _ _ _ _ _ _ _ _ _ hf
        · rw [if_neg c5] at hf
          refine jx_iload dX3_mostLiving_119 rfl ?_
          refine jx_istore (ls' := [(0, .ref (E.2.2.2 + 58)), (1, .int b1), (2, .int b2), (3, .int b3), (4, .int b4), (5, .int b4), (6, .int b6), (7, .int b7), (8, .int x3)]) dX3_mostLiving_121 (by decide) rfl ?_
          refine jx_iload dX3_mostLiving_123 rfl ?_
          refine jx_istore (ls' := [(0, .ref (E.2.2.2 + 58)), (1, .int b1), (2, .int b2), (3, .int b3), (4, .int b4), (5, .int b4), (6, .int b7), (7, .int b7), (8, .int x3)]) dX3_mostLiving_125 (by decide) rfl ?_
          obtain ⟨x7, hx7, hf⟩ := jl_inv hf
          refine jx_iinc (v := x7) (ls' := [(0, .ref (E.2.2.2 + 58)), (1, .int b1), (2, .int b2), (3, .int b3), (4, .int b4), (5, .int b4), (6, .int b7), (7, .int x7), (8, .int x3)]) dX3_mostLiving_127 rfl (by rw [hx7]; rfl) (by decide) rfl ?_
          refine jx_goto (tgt := 23) dX3_mostLiving_130 (by decide) ?_
          refine jx_pick [0, 1, 2, 3, 4, 5, 6, 7] rfl ?_
          exact ih _ _ _ _ _ _ _ _ _ _ hf
      · rw [if_neg c4] at hf
        refine jx_iload dX3_mostLiving_58 rfl ?_
        refine jx_iload_n dX3_mostLiving_60 rfl ?_
        refine jx_icmp_gt (tgt := 112) dX3_mostLiving_61 (by decide) (fun c8 => ?_) (fun c8 => ?_)
        · rw [if_pos c8] at hf
          refine jx_iload dX3_mostLiving_112 rfl ?_
          refine jx_iload dX3_mostLiving_114 rfl ?_
          refine jx_icmp_le (tgt := 127) dX3_mostLiving_116 (by decide) (fun c9 => ?_) (fun c9 => ?_)
          · rw [if_pos c9] at hf
            obtain ⟨x10, hx10, hf⟩ := jl_inv hf
            refine jx_iinc (v := x10) (ls' := [(0, .ref (E.2.2.2 + 58)), (1, .int b1), (2, .int b2), (3, .int b3), (4, .int b4), (5, .int b5), (6, .int b6), (7, .int x10), (8, .int x3)]) dX3_mostLiving_127 rfl (by rw [hx10]; rfl) (by decide) rfl ?_
            refine jx_goto (tgt := 23) dX3_mostLiving_130 (by decide) ?_
            refine jx_pick [0, 1, 2, 3, 4, 5, 6, 7] rfl ?_
            exact ih _ _ _ _ _ _ _ _ _ _ hf
          · rw [if_neg c9] at hf
            refine jx_iload dX3_mostLiving_119 rfl ?_
            refine jx_istore (ls' := [(0, .ref (E.2.2.2 + 58)), (1, .int b1), (2, .int b2), (3, .int b3), (4, .int b4), (5, .int b4), (6, .int b6), (7, .int b7), (8, .int x3)]) dX3_mostLiving_121 (by decide) rfl ?_
            refine jx_iload dX3_mostLiving_123 rfl ?_
            refine jx_istore (ls' := [(0, .ref (E.2.2.2 + 58)), (1, .int b1), (2, .int b2), (3, .int b3), (4, .int b4), (5, .int b4), (6, .int b7), (7, .int b7), (8, .int x3)]) dX3_mostLiving_125 (by decide) rfl ?_
            obtain ⟨x11, hx11, hf⟩ := jl_inv hf
            refine jx_iinc (v := x11) (ls' := [(0, .ref (E.2.2.2 + 58)), (1, .int b1), (2, .int b2), (3, .int b3), (4, .int b4), (5, .int b4), (6, .int b7), (7, .int x11), (8, .int x3)]) dX3_mostLiving_127 rfl (by rw [hx11]; rfl) (by decide) rfl ?_
            refine jx_goto (tgt := 23) dX3_mostLiving_130 (by decide) ?_
            refine jx_pick [0, 1, 2, 3, 4, 5, 6, 7] rfl ?_
            exact ih _ _ _ _ _ _ _ _ _ _ hf
        · rw [if_neg c8] at hf
          refine jx_iload dX3_mostLiving_64 rfl ?_
          refine jx_aload_n dX3_mostLiving_66 rfl ?_
          refine jx_getr dX3_mostLiving_67 fl_X3_9 kj_58 sr_58_0 ?_
          refine jx_getr dX3_mostLiving_70 fl_X3_40 kj_35 sr_35_1 ?_
          refine jx_iload dX3_mostLiving_73 rfl ?_
          refine jx_cVi (a := 38) (As := [.int b7]) (rest := [.int b4]) dX3_mostLiving_75 ml_X3_36 mv_X8_at (c_row_at (k := 0) kj_38 (by decide)) rfl rfl jc_38 (by decide) (Nat.le_of_ble_eq_true rfl) ?_
          refine jx_aload_n dX3_mostLiving_78 rfl ?_
          refine jx_getr dX3_mostLiving_79 fl_X3_20 kj_58 sr_58_1 ?_
          refine jx_iload dX3_mostLiving_82 rfl ?_
          refine jx_cVi (a := 59) (As := [.int x3]) (rest := [.int (rat (w.2.2.2 38) b7), .int b4]) dX3_mostLiving_84 ml_X3_36 mv_X8_at (c_row_at (k := 0) kj_59 (by decide)) rfl rfl jc_59 (by decide) (Nat.le_of_ble_eq_true rfl) ?_
          refine jx_isub dX3_mostLiving_87 ?_
          refine jx_iadd dX3_mostLiving_88 ?_
          obtain ⟨x12, hx12, hf⟩ := jl_inv hf
          refine jx_nm hx12 ?_
          refine jx_istore (ls' := [(0, .ref (E.2.2.2 + 58)), (1, .int b1), (2, .int b2), (3, .int b3), (4, .int x12), (5, .int b5), (6, .int b6), (7, .int b7), (8, .int x3)]) dX3_mostLiving_89 (by decide) rfl ?_
          refine jx_aload_n dX3_mostLiving_91 rfl ?_
          refine jx_getr dX3_mostLiving_92 fl_X3_20 kj_58 sr_58_1 ?_
          refine jx_iload dX3_mostLiving_95 rfl ?_
          refine jx_aload_n dX3_mostLiving_97 rfl ?_
          refine jx_getr dX3_mostLiving_98 fl_X3_9 kj_58 sr_58_0 ?_
          refine jx_getr dX3_mostLiving_101 fl_X3_40 kj_35 sr_35_1 ?_
          refine jx_iload dX3_mostLiving_104 rfl ?_
          refine jx_cVi (a := 38) (As := [.int b7]) (rest := [.int x3, .ref (E.2.2.2 + 59)]) dX3_mostLiving_106 ml_X3_36 mv_X8_at (c_row_at (k := 0) kj_38 (by decide)) rfl rfl jc_38 (by decide) (Nat.le_of_ble_eq_true rfl) ?_
          refine jx_cVv (a := 59) (As := [.int x3, .int (rat (w.2.2.2 38) b7)]) (rest := []) dX3_mostLiving_109 ml_X3_43 mv_X8_change (c_row_change (k := 0) kj_59 (by decide)) rfl rfl jc_59 (by decide) (Nat.le_of_ble_eq_true rfl) ?_
          obtain ⟨w13, hw13, hf⟩ := jl_inv hf
          refine jx_nw hw13 ?_
          refine jx_iload dX3_mostLiving_112 rfl ?_
          refine jx_iload dX3_mostLiving_114 rfl ?_
          refine jx_icmp_le (tgt := 127) dX3_mostLiving_116 (by decide) (fun c14 => ?_) (fun c14 => ?_)
          · rw [if_pos c14] at hf
            obtain ⟨x15, hx15, hf⟩ := jl_inv hf
            refine jx_iinc (v := x15) (ls' := [(0, .ref (E.2.2.2 + 58)), (1, .int b1), (2, .int b2), (3, .int b3), (4, .int x12), (5, .int b5), (6, .int b6), (7, .int x15), (8, .int x3)]) dX3_mostLiving_127 rfl (by rw [hx15]; rfl) (by decide) rfl ?_
            refine jx_goto (tgt := 23) dX3_mostLiving_130 (by decide) ?_
            refine jx_pick [0, 1, 2, 3, 4, 5, 6, 7] rfl ?_
            exact ih _ _ _ _ _ _ _ _ _ _ hf
          · rw [if_neg c14] at hf
            refine jx_iload dX3_mostLiving_119 rfl ?_
            refine jx_istore (ls' := [(0, .ref (E.2.2.2 + 58)), (1, .int b1), (2, .int b2), (3, .int b3), (4, .int x12), (5, .int x12), (6, .int b6), (7, .int b7), (8, .int x3)]) dX3_mostLiving_121 (by decide) rfl ?_
            refine jx_iload dX3_mostLiving_123 rfl ?_
            refine jx_istore (ls' := [(0, .ref (E.2.2.2 + 58)), (1, .int b1), (2, .int b2), (3, .int b3), (4, .int x12), (5, .int x12), (6, .int b7), (7, .int b7), (8, .int x3)]) dX3_mostLiving_125 (by decide) rfl ?_
            obtain ⟨x16, hx16, hf⟩ := jl_inv hf
            refine jx_iinc (v := x16) (ls' := [(0, .ref (E.2.2.2 + 58)), (1, .int b1), (2, .int b2), (3, .int b3), (4, .int x12), (5, .int x12), (6, .int b7), (7, .int x16), (8, .int x3)]) dX3_mostLiving_127 rfl (by rw [hx16]; rfl) (by decide) rfl ?_
            refine jx_goto (tgt := 23) dX3_mostLiving_130 (by decide) ?_
            refine jx_pick [0, 1, 2, 3, 4, 5, 6, 7] rfl ?_
            exact ih _ _ _ _ _ _ _ _ _ _ hf
def f_X3_mostLiving (a1 : Int32) (a2 : Int32) (a3 : Int32) (w : jw) : Option (Int32 × jw) := jl (jsetR w 59 (List.replicate 1000 0)) fun w17 => (l_X3_mostLiving jfu a1 a2 a3 0 0 0 1 w17)
set_option maxRecDepth 20000 in
set_option maxHeartbeats 2000000 in
theorem s_X3_mostLiving {E : jE} (hE : jfull E) {a1 : Int32} {a2 : Int32} {a3 : Int32} {w w' : jw} {v : Int32} (hf : f_X3_mostLiving a1 a2 a3 w = some (v, w')) : jC E m_X3_mostLiving 1 [.ref (E.2.2.2 + 58), .int a1, .int a2, .int a3] w (some (.int v)) w' := by
  refine jC_of (ls := [(0, .ref (E.2.2.2 + 58)), (1, .int a1), (2, .int a2), (3, .int a3)]) (by decide) rfl (fun _ => trivial) (Nat.le_of_ble_eq_true rfl) rfl ⟨.int, rfl, rfl⟩ ?_
  unfold f_X3_mostLiving at hf
  refine jx_aload_n dX3_mostLiving_0 rfl ?_
  refine jx_getr dX3_mostLiving_1 fl_X3_20 kj_58 sr_58_1 ?_
  refine jx_sipush (v := 1000) dX3_mostLiving_4 (by decide) ?_
  refine jx_iconst (v := 0) dX3_mostLiving_7 (by decide) ?_
  refine jx_cVv (a := 59) (As := [.int 1000, .int 0]) (rest := []) dX3_mostLiving_8 ml_X3_27 mv_X8_fill (c_row_fill (k := 0) (N := 1000) kj_59 (by decide) (Or.inr (by decide))) rfl rfl jc_59 (by decide) (Nat.le_of_ble_eq_true rfl) ?_
  obtain ⟨w17, hw17, hf⟩ := jl_inv hf
  refine jx_nw hw17 ?_
  refine jx_iconst (v := 0) dX3_mostLiving_11 (by decide) ?_
  refine jx_istore (ls' := [(0, .ref (E.2.2.2 + 58)), (1, .int a1), (2, .int a2), (3, .int a3), (4, .int 0)]) dX3_mostLiving_12 (by decide) rfl ?_
  refine jx_iconst (v := 0) dX3_mostLiving_14 (by decide) ?_
  refine jx_istore (ls' := [(0, .ref (E.2.2.2 + 58)), (1, .int a1), (2, .int a2), (3, .int a3), (4, .int 0), (5, .int 0)]) dX3_mostLiving_15 (by decide) rfl ?_
  refine jx_iconst (v := 0) dX3_mostLiving_17 (by decide) ?_
  refine jx_istore (ls' := [(0, .ref (E.2.2.2 + 58)), (1, .int a1), (2, .int a2), (3, .int a3), (4, .int 0), (5, .int 0), (6, .int 0)]) dX3_mostLiving_18 (by decide) rfl ?_
  refine jx_iconst (v := 1) dX3_mostLiving_20 (by decide) ?_
  refine jx_istore (ls' := [(0, .ref (E.2.2.2 + 58)), (1, .int a1), (2, .int a2), (3, .int a3), (4, .int 0), (5, .int 0), (6, .int 0), (7, .int 1)]) dX3_mostLiving_21 (by decide) rfl ?_
  exact sl_X3_mostLiving hE jfu _ _ _ _ _ _ _ _ _ _ hf
