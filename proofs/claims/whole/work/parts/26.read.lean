def f_X11_read  (w : jw) : Option (Int32 × jw) := jbd (f_X4_lexAll  w) fun q1 => jbd (f_X7_parseAll  q1) fun q2 => jl (jsetR q2 1 (rcut (q2.2.2.2 1) 0)) fun w3 => jl (jsetI w3 0 9 (w3.1 10 7)) fun w4 => (if (w4.1 10 6) = 0 then jbd (f_X9_reset (w4.1 10 8) w4) fun q6 => jbd (f_X11_emptySlots  q6) fun q7 => jbd (f_X11_tellAll  q7) fun q8 => some (0, q8) else some (w4.1 10 6, w4))
set_option maxRecDepth 20000 in
set_option maxHeartbeats 2000000 in
theorem s_X11_read {E : jE} {A : (Nat → Nat) × Option Nat} (hE : jfull E)  {w w' : jw} {v : Int32} (hf : f_X11_read  w = some (v, w')) : jC E (ma_X11_read A) 32 [.ref (E.2.2.2 + 0)] w (some (.int v)) w' := by
  refine jC_of (ls := [(0, .ref (E.2.2.2 + 0))]) pnX11 rfl (fun _ => trivial) (Nat.le_of_ble_eq_true rfl) rfl ⟨.int, rfl, rfl⟩ ?_
  unfold f_X11_read at hf
  refine jx_aload_n dX11_read_0 rfl ?_
  refine jx_getr dX11_read_1 fl_X11_23 kj_0 sr_0_1 ?_
  obtain ⟨q1, hq1, hf⟩ := jbd_inv hf
  refine jx_cVv (a := 3) (As := []) (rest := []) dX11_read_4 ml_X11_107 (mva_X4_lexAll (A := A)) (s_X4_lexAll hE hq1) rfl rfl jc_3 (by decide) (Nat.le_of_ble_eq_true rfl) ?_ (Zs_i rfl rfl)
  refine jx_aload_n dX11_read_7 rfl ?_
  refine jx_getr dX11_read_8 fl_X11_32 kj_0 sr_0_2 ?_
  obtain ⟨q2, hq2, hf⟩ := jbd_inv hf
  refine jx_cVv (a := 10) (As := []) (rest := []) dX11_read_11 ml_X11_110 mv_X7_parseAll (s_X7_parseAll hE hq2) rfl rfl jc_10 (by decide) (Nat.le_of_ble_eq_true rfl) ?_
  refine jx_aload_n dX11_read_14 rfl ?_
  refine jx_getr dX11_read_15 fl_X11_12 kj_0 sr_0_0 ?_
  refine jx_iconst (v := 0) dX11_read_18 (by decide) ?_
  refine jx_cVv (a := 1) (As := [.int 0]) (rest := []) dX11_read_19 ml_X11_104 mv_X8_shorten (c_row_shorten (k := 0) kj_1 (by decide)) rfl rfl jc_1 (by decide) (Nat.le_of_ble_eq_true rfl) ?_
  obtain ⟨w3, hw3, hf⟩ := jl_inv hf
  refine jx_nw hw3 ?_
  refine jx_aload_n dX11_read_22 rfl ?_
  refine jx_aload_n dX11_read_23 rfl ?_
  refine jx_getr dX11_read_24 fl_X11_32 kj_0 sr_0_2 ?_
  refine jx_geti dX11_read_27 fl_X11_113 kj_10 sr_10_7 ?_
  refine jx_puti dX11_read_30 fp_X11_85 kj_0 sr_0_9 rfl rfl ?_
  obtain ⟨w4, hw4, hf⟩ := jl_inv hf
  refine jx_nw hw4 ?_
  refine jx_aload_n dX11_read_33 rfl ?_
  refine jx_getr dX11_read_34 fl_X11_32 kj_0 sr_0_2 ?_
  refine jx_geti dX11_read_37 fl_X11_114 kj_10 sr_10_6 ?_
  refine jx_if_eq (tgt := 51) dX11_read_40 (by decide) (fun c5 => ?_) (fun c5 => ?_)
  · rw [if_pos c5] at hf
    refine jx_aload_n dX11_read_51 rfl ?_
    refine jx_getr dX11_read_52 fl_X11_39 kj_0 sr_0_4 ?_
    refine jx_aload_n dX11_read_55 rfl ?_
    refine jx_getr dX11_read_56 fl_X11_32 kj_0 sr_0_2 ?_
    refine jx_geti dX11_read_59 fl_X11_117 kj_10 sr_10_8 ?_
    obtain ⟨q6, hq6, hf⟩ := jbd_inv hf
    refine jx_cVv (a := 17) (As := [.int (w4.1 10 8)]) (rest := []) dX11_read_62 ml_X11_95 mv_X9_reset (s_X9_reset hE hq6) rfl rfl jc_17 (by decide) (Nat.le_of_ble_eq_true rfl) ?_
    refine jx_aload_n dX11_read_65 rfl ?_
    obtain ⟨q7, hq7, hf⟩ := jbd_inv hf
    refine jx_cVv (a := 0) (As := []) (rest := []) dX11_read_66 ml_X11_120 mv_X11_emptySlots (s_X11_emptySlots hE hq7) rfl rfl jc_0 (by decide) (Nat.le_of_ble_eq_true rfl) ?_
    refine jx_aload_n dX11_read_69 rfl ?_
    obtain ⟨q8, hq8, hf⟩ := jbd_inv hf
    refine jx_cVv (a := 0) (As := []) (rest := []) dX11_read_70 ml_X11_123 mv_X11_tellAll (s_X11_tellAll hE hq8) rfl rfl jc_0 (by decide) (Nat.le_of_ble_eq_true rfl) ?_
    refine jx_iconst (v := 0) dX11_read_73 (by decide) ?_
    cases hf
    exact jx_iret dX11_read_74 rfl rfl
  · rw [if_neg c5] at hf
    refine jx_aload_n dX11_read_43 rfl ?_
    refine jx_getr dX11_read_44 fl_X11_32 kj_0 sr_0_2 ?_
    refine jx_geti dX11_read_47 fl_X11_114 kj_10 sr_10_6 ?_
    cases hf
    exact jx_iret dX11_read_50 rfl rfl
