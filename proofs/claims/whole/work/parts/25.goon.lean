def l_X10_goOn : Nat → Int32 → jw → Option (Bool × jw)
  | 0, _, _ => none
  | n + 1, b1, w => (if 10000 ≤ b1 then some (false, w) else jl (jsetI w 48 6 (rat (w.2.2.2 4) (w.1 48 4))) fun w2 => (if (w2.1 48 6).toInt = 4 then jl (jsetI w2 48 4 ((w2.1 48 4) + 1)) fun w4 => jbd2 (f_X10_total 0 w4) fun x6 w7 => jl (jsetI w7 48 7 (fmq x6)) fun w8 => jbd2 (f_X10_total 0 w8) fun x10 w11 => jl (jsetI w11 48 8 x10) fun w12 => jl (jsetI w12 48 5 (w12.1 48 7)) fun w13 => jl (jsetI w13 48 4 ((w13.1 48 4) + 1)) fun w14 => some (true, w14) else (if (w2.1 48 6).toInt = 5 then jl (jsetI w2 48 4 ((w2.1 48 4) + 1)) fun w16 => jbd2 (f_X10_total 0 w16) fun x18 w19 => jl (jsetI w19 48 7 (fmq x18)) fun w20 => jl (jsetI w20 48 4 ((w20.1 48 4) + 1)) fun w21 => some (true, w21) else (if (w2.1 48 6).toInt = 6 then jbd (f_X10_beginDo  w2) fun q23 => jl (b1 + 1) fun x24 => (l_X10_goOn n x24 q23) else (if (w2.1 48 6).toInt = 7 then jbd (f_X10_endRound  w2) fun q26 => jl (b1 + 1) fun x27 => (l_X10_goOn n x27 q26) else some (false, w2))))))
set_option maxRecDepth 20000 in
set_option maxHeartbeats 2000000 in
theorem sl_X10_goOn {E : jE} (hE : jfull E) : ∀ (n : Nat) (b1 : Int32) (w : jw) (v : Bool) (w' : jw), l_X10_goOn n b1 w = some (v, w') → jX E m_X10_goOn 30 2 [(0, .ref (E.2.2.2 + 48)), (1, .int b1)] [] w (some (.int (jb v))) w' := by
  intro n
  induction n with
  | zero => intro b1 w v w' hf; cases hf
  | succ n ih =>
    intro b1 w v w' hf
    unfold l_X10_goOn at hf
    refine jx_iload_n dX10_goOn_2 rfl ?_
    refine jx_sipush (v := 10000) dX10_goOn_3 (by decide) ?_
    refine jx_icmp_ge (tgt := 173) dX10_goOn_6 (by decide) (fun c1 => ?_) (fun c1 => ?_)
    · rw [if_pos c1] at hf
      refine jx_iconst (v := 0) dX10_goOn_173 (by decide) ?_
      cases hf
      exact jx_iret dX10_goOn_174 rfl rfl
    · rw [if_neg c1] at hf
      refine jx_aload_n dX10_goOn_9 rfl ?_
      refine jx_aload_n dX10_goOn_10 rfl ?_
      refine jx_getr dX10_goOn_11 fl_X10_9 kj_48 sr_48_0 ?_
      refine jx_getr dX10_goOn_14 fl_X10_32 kj_3 sr_3_1 ?_
      refine jx_aload_n dX10_goOn_17 rfl ?_
      refine jx_geti dX10_goOn_18 fl_X10_41 kj_48 sr_48_4 ?_
      refine jx_cVi (a := 4) (As := [.int (w.1 48 4)]) (rest := [.ref (E.2.2.2 + 48)]) dX10_goOn_21 ml_X10_37 mv_X8_at (c_row_at (k := 0) kj_4 (by decide)) rfl rfl jc_4 (by decide) (Nat.le_of_ble_eq_true rfl) ?_
      refine jx_puti dX10_goOn_24 fp_X10_50 kj_48 sr_48_6 rfl rfl ?_
      obtain ⟨w2, hw2, hf⟩ := jl_inv hf
      refine jx_nw hw2 ?_
      refine jx_aload_n dX10_goOn_27 rfl ?_
      refine jx_geti dX10_goOn_28 fl_X10_50 kj_48 sr_48_6 ?_
      by_cases c3 : (w2.1 48 6).toInt = 4
      · rw [if_pos c3] at hf
        refine jx_tableIn (off := 29) (tgt := 60) dX10_goOn_31 (by omega) (by omega) (by rw [c3]; rfl) (by decide) ?_
        refine jx_aload_n dX10_goOn_60 rfl ?_
        refine jx_dup dX10_goOn_61 rfl ?_
        refine jx_geti dX10_goOn_62 fl_X10_41 kj_48 sr_48_4 ?_
        refine jx_iconst (v := 1) dX10_goOn_65 (by decide) ?_
        refine jx_iadd dX10_goOn_66 ?_
        refine jx_puti dX10_goOn_67 fp_X10_41 kj_48 sr_48_4 rfl rfl ?_
        obtain ⟨w4, hw4, hf⟩ := jl_inv hf
        refine jx_nw hw4 ?_
        refine jx_aload_n dX10_goOn_70 rfl ?_
        refine jx_aload_n dX10_goOn_71 rfl ?_
        refine jx_iconst (v := 0) dX10_goOn_72 (by decide) ?_
        obtain ⟨x6, w7, hq5, hf⟩ := jbd2_inv hf
        refine jx_cVi (a := 48) (As := [.int 0]) (rest := [.ref (E.2.2.2 + 48)]) dX10_goOn_73 ml_X10_53 mv_X10_total (s_X10_total hE hq5) rfl rfl jc_48 (by decide) (Nat.le_of_ble_eq_true rfl) ?_
        refine jx_sipush (v := 1000) dX10_goOn_76 (by decide) ?_
        refine jx_fm dX10_goOn_79 ml_fm (by decide) (Nat.le_of_ble_eq_true rfl) ?_
        refine jx_puti dX10_goOn_82 fp_X10_62 kj_48 sr_48_7 rfl rfl ?_
        obtain ⟨w8, hw8, hf⟩ := jl_inv hf
        refine jx_nw hw8 ?_
        refine jx_aload_n dX10_goOn_85 rfl ?_
        refine jx_aload_n dX10_goOn_86 rfl ?_
        refine jx_iconst (v := 0) dX10_goOn_87 (by decide) ?_
        obtain ⟨x10, w11, hq9, hf⟩ := jbd2_inv hf
        refine jx_cVi (a := 48) (As := [.int 0]) (rest := [.ref (E.2.2.2 + 48)]) dX10_goOn_88 ml_X10_53 mv_X10_total (s_X10_total hE hq9) rfl rfl jc_48 (by decide) (Nat.le_of_ble_eq_true rfl) ?_
        refine jx_puti dX10_goOn_91 fp_X10_65 kj_48 sr_48_8 rfl rfl ?_
        obtain ⟨w12, hw12, hf⟩ := jl_inv hf
        refine jx_nw hw12 ?_
        refine jx_aload_n dX10_goOn_94 rfl ?_
        refine jx_aload_n dX10_goOn_95 rfl ?_
        refine jx_geti dX10_goOn_96 fl_X10_62 kj_48 sr_48_7 ?_
        refine jx_puti dX10_goOn_99 fp_X10_44 kj_48 sr_48_5 rfl rfl ?_
        obtain ⟨w13, hw13, hf⟩ := jl_inv hf
        refine jx_nw hw13 ?_
        refine jx_aload_n dX10_goOn_102 rfl ?_
        refine jx_dup dX10_goOn_103 rfl ?_
        refine jx_geti dX10_goOn_104 fl_X10_41 kj_48 sr_48_4 ?_
        refine jx_iconst (v := 1) dX10_goOn_107 (by decide) ?_
        refine jx_iadd dX10_goOn_108 ?_
        refine jx_puti dX10_goOn_109 fp_X10_41 kj_48 sr_48_4 rfl rfl ?_
        obtain ⟨w14, hw14, hf⟩ := jl_inv hf
        refine jx_nw hw14 ?_
        refine jx_iconst (v := 1) dX10_goOn_112 (by decide) ?_
        cases hf
        exact jx_iret dX10_goOn_113 rfl rfl
      rw [if_neg c3] at hf
      by_cases c15 : (w2.1 48 6).toInt = 5
      · rw [if_pos c15] at hf
        refine jx_tableIn (off := 83) (tgt := 114) dX10_goOn_31 (by omega) (by omega) (by rw [c15]; rfl) (by decide) ?_
        refine jx_aload_n dX10_goOn_114 rfl ?_
        refine jx_dup dX10_goOn_115 rfl ?_
        refine jx_geti dX10_goOn_116 fl_X10_41 kj_48 sr_48_4 ?_
        refine jx_iconst (v := 1) dX10_goOn_119 (by decide) ?_
        refine jx_iadd dX10_goOn_120 ?_
        refine jx_puti dX10_goOn_121 fp_X10_41 kj_48 sr_48_4 rfl rfl ?_
        obtain ⟨w16, hw16, hf⟩ := jl_inv hf
        refine jx_nw hw16 ?_
        refine jx_aload_n dX10_goOn_124 rfl ?_
        refine jx_aload_n dX10_goOn_125 rfl ?_
        refine jx_iconst (v := 0) dX10_goOn_126 (by decide) ?_
        obtain ⟨x18, w19, hq17, hf⟩ := jbd2_inv hf
        refine jx_cVi (a := 48) (As := [.int 0]) (rest := [.ref (E.2.2.2 + 48)]) dX10_goOn_127 ml_X10_53 mv_X10_total (s_X10_total hE hq17) rfl rfl jc_48 (by decide) (Nat.le_of_ble_eq_true rfl) ?_
        refine jx_sipush (v := 1000) dX10_goOn_130 (by decide) ?_
        refine jx_fm dX10_goOn_133 ml_fm (by decide) (Nat.le_of_ble_eq_true rfl) ?_
        refine jx_puti dX10_goOn_136 fp_X10_62 kj_48 sr_48_7 rfl rfl ?_
        obtain ⟨w20, hw20, hf⟩ := jl_inv hf
        refine jx_nw hw20 ?_
        refine jx_aload_n dX10_goOn_139 rfl ?_
        refine jx_dup dX10_goOn_140 rfl ?_
        refine jx_geti dX10_goOn_141 fl_X10_41 kj_48 sr_48_4 ?_
        refine jx_iconst (v := 1) dX10_goOn_144 (by decide) ?_
        refine jx_iadd dX10_goOn_145 ?_
        refine jx_puti dX10_goOn_146 fp_X10_41 kj_48 sr_48_4 rfl rfl ?_
        obtain ⟨w21, hw21, hf⟩ := jl_inv hf
        refine jx_nw hw21 ?_
        refine jx_iconst (v := 1) dX10_goOn_149 (by decide) ?_
        cases hf
        exact jx_iret dX10_goOn_150 rfl rfl
      rw [if_neg c15] at hf
      by_cases c22 : (w2.1 48 6).toInt = 6
      · rw [if_pos c22] at hf
        refine jx_tableIn (off := 120) (tgt := 151) dX10_goOn_31 (by omega) (by omega) (by rw [c22]; rfl) (by decide) ?_
        refine jx_aload_n dX10_goOn_151 rfl ?_
        obtain ⟨q23, hq23, hf⟩ := jbd_inv hf
        refine jx_cVv (a := 48) (As := []) (rest := []) dX10_goOn_152 ml_X10_68 mv_X10_beginDo (s_X10_beginDo hE hq23) rfl rfl jc_48 (by decide) (Nat.le_of_ble_eq_true rfl) ?_
        refine jx_goto (tgt := 167) dX10_goOn_155 (by decide) ?_
        obtain ⟨x24, hx24, hf⟩ := jl_inv hf
        refine jx_iinc (v := x24) (ls' := [(0, .ref (E.2.2.2 + 48)), (1, .int x24)]) dX10_goOn_167 rfl (by rw [hx24]; rfl) (by decide) rfl ?_
        refine jx_goto (tgt := 2) dX10_goOn_170 (by decide) ?_
        exact ih _ _ _ _ hf
      rw [if_neg c22] at hf
      by_cases c25 : (w2.1 48 6).toInt = 7
      · rw [if_pos c25] at hf
        refine jx_tableIn (off := 127) (tgt := 158) dX10_goOn_31 (by omega) (by omega) (by rw [c25]; rfl) (by decide) ?_
        refine jx_aload_n dX10_goOn_158 rfl ?_
        obtain ⟨q26, hq26, hf⟩ := jbd_inv hf
        refine jx_cVv (a := 48) (As := []) (rest := []) dX10_goOn_159 ml_X10_71 mv_X10_endRound (s_X10_endRound hE hq26) rfl rfl jc_48 (by decide) (Nat.le_of_ble_eq_true rfl) ?_
        refine jx_goto (tgt := 167) dX10_goOn_162 (by decide) ?_
        obtain ⟨x27, hx27, hf⟩ := jl_inv hf
        refine jx_iinc (v := x27) (ls' := [(0, .ref (E.2.2.2 + 48)), (1, .int x27)]) dX10_goOn_167 rfl (by rw [hx27]; rfl) (by decide) rfl ?_
        refine jx_goto (tgt := 2) dX10_goOn_170 (by decide) ?_
        exact ih _ _ _ _ hf
      rw [if_neg c25] at hf
      refine jx_tableOut (tgt := 165) dX10_goOn_31 (by omega) (by decide) ?_
      refine jx_iconst (v := 0) dX10_goOn_165 (by decide) ?_
      cases hf
      exact jx_iret dX10_goOn_166 rfl rfl
def f_X10_goOn  (w : jw) : Option (Bool × jw) := (l_X10_goOn jfu 0 w)
set_option maxRecDepth 20000 in
set_option maxHeartbeats 2000000 in
theorem s_X10_goOn {E : jE} (hE : jfull E)  {w w' : jw} {v : Bool} (hf : f_X10_goOn  w = some (v, w')) : jC E m_X10_goOn 30 [.ref (E.2.2.2 + 48)] w (some (.int (jb v))) w' := by
  refine jC_of (ls := [(0, .ref (E.2.2.2 + 48))]) (by decide) rfl (fun _ => trivial) (Nat.le_of_ble_eq_true rfl) rfl jb_ans ?_
  unfold f_X10_goOn at hf
  refine jx_iconst (v := 0) dX10_goOn_0 (by decide) ?_
  refine jx_istore_n (ls' := [(0, .ref (E.2.2.2 + 48)), (1, .int 0)]) dX10_goOn_1 (by decide) rfl ?_
  exact sl_X10_goOn hE jfu _ _ _ _ hf
def l_X11_tellAll : Nat → Int32 → jw → Option (jw)
  | 0, _, _ => none
  | n + 1, b1, w => (if 400 ≤ b1 then some w else jbd2 (f_X10_goOn  w) fun x3 w4 => (if (jb x3) = 0 then some w4 else (if (w4.1 48 6) = 4 then jbd2 (f_X1_bring (w4.1 48 7) (w4.1 48 8) w4) fun x17 w18 => jl (jb x17 : Int32) fun x19 => jl (jsetI w18 0 10 ((w18.1 0 10) + 1)) fun w20 => (if x19 = 0 then jl (jsetI w20 0 11 ((w20.1 0 11) + 1)) fun w23 => jl (b1 + 1) fun x24 => (l_X11_tellAll n x24 w23) else jl (b1 + 1) fun x22 => (l_X11_tellAll n x22 w20)) else jbd2 (f_X1_drop (w4.1 48 7) w4) fun x8 w9 => jl (jb x8 : Int32) fun x10 => jl (jsetI w9 0 10 ((w9.1 0 10) + 1)) fun w11 => (if x10 = 0 then jl (jsetI w11 0 11 ((w11.1 0 11) + 1)) fun w14 => jl (b1 + 1) fun x15 => (l_X11_tellAll n x15 w14) else jl (b1 + 1) fun x13 => (l_X11_tellAll n x13 w11)))))
set_option maxRecDepth 20000 in
set_option maxHeartbeats 2000000 in
theorem sl_X11_tellAll {E : jE} (hE : jfull E) : ∀ (n : Nat) (b1 : Int32) (w : jw) (w' : jw), l_X11_tellAll n b1 w = some w' → jX E m_X11_tellAll 31 19 [(0, .ref (E.2.2.2 + 0)), (1, .int b1)] [] w none w' := by
  intro n
  induction n with
  | zero => intro b1 w w' hf; cases hf
  | succ n ih =>
    intro b1 w w' hf
    unfold l_X11_tellAll at hf
    refine jx_iload_n dX11_tellAll_19 rfl ?_
    refine jx_sipush (v := 400) dX11_tellAll_20 (by decide) ?_
    refine jx_icmp_ge (tgt := 116) dX11_tellAll_23 (by decide) (fun c1 => ?_) (fun c1 => ?_)
    · rw [if_pos c1] at hf
      cases hf
      exact jx_vret dX11_tellAll_116 rfl rfl
    · rw [if_neg c1] at hf
      refine jx_aload_n dX11_tellAll_26 rfl ?_
      refine jx_getr dX11_tellAll_27 fl_X11_48 kj_0 sr_0_3 ?_
      obtain ⟨x3, w4, hq2, hf⟩ := jbd2_inv hf
      refine jx_cVi (a := 48) (As := []) (rest := []) dX11_tellAll_30 ml_X11_313 mv_X10_goOn (s_X10_goOn hE hq2) rfl rfl jc_48 (by decide) (Nat.le_of_ble_eq_true rfl) ?_
      refine jx_if_eq (tgt := 116) dX11_tellAll_33 (by decide) (fun c5 => ?_) (fun c5 => ?_)
      · rw [if_pos c5] at hf
        cases hf
        exact jx_vret dX11_tellAll_116 rfl rfl
      · rw [if_neg c5] at hf
        refine jx_aload_n dX11_tellAll_36 rfl ?_
        refine jx_getr dX11_tellAll_37 fl_X11_48 kj_0 sr_0_3 ?_
        refine jx_geti dX11_tellAll_40 fl_X11_317 kj_48 sr_48_6 ?_
        refine jx_iconst (v := 4) dX11_tellAll_43 (by decide) ?_
        refine jx_icmp_ne (tgt := 71) dX11_tellAll_44 (by decide) (fun c6 => ?_) (fun c6 => ?_)
        · rw [if_neg c6] at hf
          refine jx_aload_n dX11_tellAll_71 rfl ?_
          refine jx_getr dX11_tellAll_72 fl_X11_57 kj_0 sr_0_5 ?_
          refine jx_aload_n dX11_tellAll_75 rfl ?_
          refine jx_getr dX11_tellAll_76 fl_X11_48 kj_0 sr_0_3 ?_
          refine jx_geti dX11_tellAll_79 fl_X11_320 kj_48 sr_48_7 ?_
          obtain ⟨x8, w9, hq7, hf⟩ := jbd2_inv hf
          refine jx_cVi (a := 51) (As := [.int (w4.1 48 7)]) (rest := []) dX11_tellAll_82 ml_X11_140 mv_X1_drop (s_X1_drop hE hq7) rfl rfl jc_51 (by decide) (Nat.le_of_ble_eq_true rfl) ?_
          obtain ⟨x10, hx10, hf⟩ := jl_inv hf
          refine jx_nm hx10 ?_
          refine jx_istore_n (ls' := [(0, .ref (E.2.2.2 + 0)), (1, .int b1), (2, .int x10)]) dX11_tellAll_85 (by decide) rfl ?_
          refine jx_aload_n dX11_tellAll_86 rfl ?_
          refine jx_dup dX11_tellAll_87 rfl ?_
          refine jx_geti dX11_tellAll_88 fl_X11_89 kj_0 sr_0_10 ?_
          refine jx_iconst (v := 1) dX11_tellAll_91 (by decide) ?_
          refine jx_iadd dX11_tellAll_92 ?_
          refine jx_puti dX11_tellAll_93 fp_X11_89 kj_0 sr_0_10 rfl rfl ?_
          obtain ⟨w11, hw11, hf⟩ := jl_inv hf
          refine jx_nw hw11 ?_
          refine jx_iload_n dX11_tellAll_96 rfl ?_
          refine jx_if_ne (tgt := 110) dX11_tellAll_97 (by decide) (fun c12 => ?_) (fun c12 => ?_)
          · rw [if_neg c12] at hf
            obtain ⟨x13, hx13, hf⟩ := jl_inv hf
            refine jx_iinc (v := x13) (ls' := [(0, .ref (E.2.2.2 + 0)), (1, .int x13), (2, .int x10)]) dX11_tellAll_110 rfl (by rw [hx13]; rfl) (by decide) rfl ?_
            refine jx_goto (tgt := 19) dX11_tellAll_113 (by decide) ?_
            refine jx_pick [0, 1] rfl ?_
            exact ih _ _ _ hf
          · rw [if_pos c12] at hf
            refine jx_aload_n dX11_tellAll_100 rfl ?_
            refine jx_dup dX11_tellAll_101 rfl ?_
            refine jx_geti dX11_tellAll_102 fl_X11_92 kj_0 sr_0_11 ?_
            refine jx_iconst (v := 1) dX11_tellAll_105 (by decide) ?_
            refine jx_iadd dX11_tellAll_106 ?_
            refine jx_puti dX11_tellAll_107 fp_X11_92 kj_0 sr_0_11 rfl rfl ?_
            obtain ⟨w14, hw14, hf⟩ := jl_inv hf
            refine jx_nw hw14 ?_
            obtain ⟨x15, hx15, hf⟩ := jl_inv hf
            refine jx_iinc (v := x15) (ls' := [(0, .ref (E.2.2.2 + 0)), (1, .int x15), (2, .int x10)]) dX11_tellAll_110 rfl (by rw [hx15]; rfl) (by decide) rfl ?_
            refine jx_goto (tgt := 19) dX11_tellAll_113 (by decide) ?_
            refine jx_pick [0, 1] rfl ?_
            exact ih _ _ _ hf
        · rw [if_pos c6] at hf
          refine jx_aload_n dX11_tellAll_47 rfl ?_
          refine jx_getr dX11_tellAll_48 fl_X11_57 kj_0 sr_0_5 ?_
          refine jx_aload_n dX11_tellAll_51 rfl ?_
          refine jx_getr dX11_tellAll_52 fl_X11_48 kj_0 sr_0_3 ?_
          refine jx_geti dX11_tellAll_55 fl_X11_320 kj_48 sr_48_7 ?_
          refine jx_aload_n dX11_tellAll_58 rfl ?_
          refine jx_getr dX11_tellAll_59 fl_X11_48 kj_0 sr_0_3 ?_
          refine jx_geti dX11_tellAll_62 fl_X11_323 kj_48 sr_48_8 ?_
          obtain ⟨x17, w18, hq16, hf⟩ := jbd2_inv hf
          refine jx_cVi (a := 51) (As := [.int (w4.1 48 7), .int (w4.1 48 8)]) (rest := []) dX11_tellAll_65 ml_X11_130 mv_X1_bring (s_X1_bring hE hq16) rfl rfl jc_51 (by decide) (Nat.le_of_ble_eq_true rfl) ?_
          refine jx_goto (tgt := 85) dX11_tellAll_68 (by decide) ?_
          obtain ⟨x19, hx19, hf⟩ := jl_inv hf
          refine jx_nm hx19 ?_
          refine jx_istore_n (ls' := [(0, .ref (E.2.2.2 + 0)), (1, .int b1), (2, .int x19)]) dX11_tellAll_85 (by decide) rfl ?_
          refine jx_aload_n dX11_tellAll_86 rfl ?_
          refine jx_dup dX11_tellAll_87 rfl ?_
          refine jx_geti dX11_tellAll_88 fl_X11_89 kj_0 sr_0_10 ?_
          refine jx_iconst (v := 1) dX11_tellAll_91 (by decide) ?_
          refine jx_iadd dX11_tellAll_92 ?_
          refine jx_puti dX11_tellAll_93 fp_X11_89 kj_0 sr_0_10 rfl rfl ?_
          obtain ⟨w20, hw20, hf⟩ := jl_inv hf
          refine jx_nw hw20 ?_
          refine jx_iload_n dX11_tellAll_96 rfl ?_
          refine jx_if_ne (tgt := 110) dX11_tellAll_97 (by decide) (fun c21 => ?_) (fun c21 => ?_)
          · rw [if_neg c21] at hf
            obtain ⟨x22, hx22, hf⟩ := jl_inv hf
            refine jx_iinc (v := x22) (ls' := [(0, .ref (E.2.2.2 + 0)), (1, .int x22), (2, .int x19)]) dX11_tellAll_110 rfl (by rw [hx22]; rfl) (by decide) rfl ?_
            refine jx_goto (tgt := 19) dX11_tellAll_113 (by decide) ?_
            refine jx_pick [0, 1] rfl ?_
            exact ih _ _ _ hf
          · rw [if_pos c21] at hf
            refine jx_aload_n dX11_tellAll_100 rfl ?_
            refine jx_dup dX11_tellAll_101 rfl ?_
            refine jx_geti dX11_tellAll_102 fl_X11_92 kj_0 sr_0_11 ?_
            refine jx_iconst (v := 1) dX11_tellAll_105 (by decide) ?_
            refine jx_iadd dX11_tellAll_106 ?_
            refine jx_puti dX11_tellAll_107 fp_X11_92 kj_0 sr_0_11 rfl rfl ?_
            obtain ⟨w23, hw23, hf⟩ := jl_inv hf
            refine jx_nw hw23 ?_
            obtain ⟨x24, hx24, hf⟩ := jl_inv hf
            refine jx_iinc (v := x24) (ls' := [(0, .ref (E.2.2.2 + 0)), (1, .int x24), (2, .int x19)]) dX11_tellAll_110 rfl (by rw [hx24]; rfl) (by decide) rfl ?_
            refine jx_goto (tgt := 19) dX11_tellAll_113 (by decide) ?_
            refine jx_pick [0, 1] rfl ?_
            exact ih _ _ _ hf
def f_X11_tellAll  (w : jw) : Option (jw) := jl (jsetI w 0 10 0) fun w25 => jl (jsetI w25 0 11 0) fun w26 => jbd (f_X10_start  w26) fun q27 => (l_X11_tellAll jfu 0 q27)
set_option maxRecDepth 20000 in
set_option maxHeartbeats 2000000 in
theorem s_X11_tellAll {E : jE} (hE : jfull E)  {w w' : jw} (hf : f_X11_tellAll  w = some w') : jC E m_X11_tellAll 31 [.ref (E.2.2.2 + 0)] w none w' := by
  refine jC_of (ls := [(0, .ref (E.2.2.2 + 0))]) (by decide) rfl (fun _ => trivial) (Nat.le_of_ble_eq_true rfl) rfl rfl ?_
  unfold f_X11_tellAll at hf
  refine jx_aload_n dX11_tellAll_0 rfl ?_
  refine jx_iconst (v := 0) dX11_tellAll_1 (by decide) ?_
  refine jx_puti dX11_tellAll_2 fp_X11_89 kj_0 sr_0_10 rfl rfl ?_
  obtain ⟨w25, hw25, hf⟩ := jl_inv hf
  refine jx_nw hw25 ?_
  refine jx_aload_n dX11_tellAll_5 rfl ?_
  refine jx_iconst (v := 0) dX11_tellAll_6 (by decide) ?_
  refine jx_puti dX11_tellAll_7 fp_X11_92 kj_0 sr_0_11 rfl rfl ?_
  obtain ⟨w26, hw26, hf⟩ := jl_inv hf
  refine jx_nw hw26 ?_
  refine jx_aload_n dX11_tellAll_10 rfl ?_
  refine jx_getr dX11_tellAll_11 fl_X11_48 kj_0 sr_0_3 ?_
  obtain ⟨q27, hq27, hf⟩ := jbd_inv hf
  refine jx_cVv (a := 48) (As := []) (rest := []) dX11_tellAll_14 ml_X11_310 mv_X10_start (s_X10_start hE hq27) rfl rfl jc_48 (by decide) (Nat.le_of_ble_eq_true rfl) ?_
  refine jx_iconst (v := 0) dX11_tellAll_17 (by decide) ?_
  refine jx_istore_n (ls' := [(0, .ref (E.2.2.2 + 0)), (1, .int 0)]) dX11_tellAll_18 (by decide) rfl ?_
  exact sl_X11_tellAll hE jfu _ _ _ hf
