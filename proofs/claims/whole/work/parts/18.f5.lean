def f_X11_nth (a1 : Int32) (a2 : Int32) (w : jw) : Option (Int32 × jw) := (if a1 < 0 then some ((-1), w) else jbd2 (f_X11_isTime a2 w) fun x3 w4 => (if (jb x3) = 0 then some ((-1), w4) else jbd2 (f_X3_keyByRank a1 a2 w4) fun x7 w8 => some (x7, w8)))
set_option maxRecDepth 20000 in
set_option maxHeartbeats 2000000 in
theorem s_X11_nth {E : jE} (hE : jfull E) {a1 : Int32} {a2 : Int32} {w w' : jw} {v : Int32} (hf : f_X11_nth a1 a2 w = some (v, w')) : jC E m_X11_nth 3 [.ref (E.2.2.2 + 0), .int a1, .int a2] w (some (.int v)) w' := by
  refine jC_of (ls := [(0, .ref (E.2.2.2 + 0)), (1, .int a1), (2, .int a2)]) (by decide) rfl (fun _ => trivial) (Nat.le_of_ble_eq_true rfl) rfl ⟨.int, rfl, rfl⟩ ?_
  unfold f_X11_nth at hf
  refine jx_iload_n dX11_nth_0 rfl ?_
  refine jx_if_lt (tgt := 24) dX11_nth_1 (by decide) (fun c1 => ?_) (fun c1 => ?_)
  · rw [if_pos c1] at hf
    refine jx_iconst (v := (-1)) dX11_nth_24 (by decide) ?_
    cases hf
    exact jx_iret dX11_nth_25 rfl rfl
  · rw [if_neg c1] at hf
    refine jx_aload_n dX11_nth_4 rfl ?_
    refine jx_iload_n dX11_nth_5 rfl ?_
    obtain ⟨x3, w4, hq2, hf⟩ := jbd2_inv hf
    refine jx_cVi (a := 0) (As := [.int a2]) (rest := []) dX11_nth_6 ml_X11_143 mv_X11_isTime (s_X11_isTime hE hq2) rfl rfl jc_0 (by decide) (Nat.le_of_ble_eq_true rfl) ?_
    refine jx_if_eq (tgt := 24) dX11_nth_9 (by decide) (fun c5 => ?_) (fun c5 => ?_)
    · rw [if_pos c5] at hf
      refine jx_iconst (v := (-1)) dX11_nth_24 (by decide) ?_
      cases hf
      exact jx_iret dX11_nth_25 rfl rfl
    · rw [if_neg c5] at hf
      refine jx_aload_n dX11_nth_12 rfl ?_
      refine jx_getr dX11_nth_13 fl_X11_70 kj_0 sr_0_6 ?_
      refine jx_iload_n dX11_nth_16 rfl ?_
      refine jx_iload_n dX11_nth_17 rfl ?_
      obtain ⟨x7, w8, hq6, hf⟩ := jbd2_inv hf
      refine jx_cVi (a := 58) (As := [.int a1, .int a2]) (rest := []) dX11_nth_18 ml_X11_167 mv_X3_keyByRank (s_X3_keyByRank hE hq6) rfl rfl jc_58 (by decide) (Nat.le_of_ble_eq_true rfl) ?_
      refine jx_goto (tgt := 25) dX11_nth_21 (by decide) ?_
      cases hf
      exact jx_iret dX11_nth_25 rfl rfl
def f_X11_next (a1 : Int32) (a2 : Int32) (w : jw) : Option (Int32 × jw) := jbd2 (f_X11_isKey a1 w) fun x2 w3 => (if (jb x2) = 0 then some ((-1), w3) else jbd2 (f_X11_isTime a2 w3) fun x6 w7 => (if (jb x6) = 0 then some ((-1), w7) else jbd2 (f_X3_fromKeyUp a1 a2 w7) fun x10 w11 => some (x10, w11)))
set_option maxRecDepth 20000 in
set_option maxHeartbeats 2000000 in
theorem s_X11_next {E : jE} (hE : jfull E) {a1 : Int32} {a2 : Int32} {w w' : jw} {v : Int32} (hf : f_X11_next a1 a2 w = some (v, w')) : jC E m_X11_next 3 [.ref (E.2.2.2 + 0), .int a1, .int a2] w (some (.int v)) w' := by
  refine jC_of (ls := [(0, .ref (E.2.2.2 + 0)), (1, .int a1), (2, .int a2)]) (by decide) rfl (fun _ => trivial) (Nat.le_of_ble_eq_true rfl) rfl ⟨.int, rfl, rfl⟩ ?_
  unfold f_X11_next at hf
  refine jx_iload_n dX11_next_0 rfl ?_
  obtain ⟨x2, w3, hq1, hf⟩ := jbd2_inv hf
  refine jx_cSi (As := [.int a1]) (rest := []) dX11_next_1 ml_X11_126 ms_X11_isKey (s_X11_isKey hE hq1) rfl rfl rfl (by decide) (Nat.le_of_ble_eq_true rfl) ?_
  refine jx_if_eq (tgt := 27) dX11_next_4 (by decide) (fun c4 => ?_) (fun c4 => ?_)
  · rw [if_pos c4] at hf
    refine jx_iconst (v := (-1)) dX11_next_27 (by decide) ?_
    cases hf
    exact jx_iret dX11_next_28 rfl rfl
  · rw [if_neg c4] at hf
    refine jx_aload_n dX11_next_7 rfl ?_
    refine jx_iload_n dX11_next_8 rfl ?_
    obtain ⟨x6, w7, hq5, hf⟩ := jbd2_inv hf
    refine jx_cVi (a := 0) (As := [.int a2]) (rest := []) dX11_next_9 ml_X11_143 mv_X11_isTime (s_X11_isTime hE hq5) rfl rfl jc_0 (by decide) (Nat.le_of_ble_eq_true rfl) ?_
    refine jx_if_eq (tgt := 27) dX11_next_12 (by decide) (fun c8 => ?_) (fun c8 => ?_)
    · rw [if_pos c8] at hf
      refine jx_iconst (v := (-1)) dX11_next_27 (by decide) ?_
      cases hf
      exact jx_iret dX11_next_28 rfl rfl
    · rw [if_neg c8] at hf
      refine jx_aload_n dX11_next_15 rfl ?_
      refine jx_getr dX11_next_16 fl_X11_70 kj_0 sr_0_6 ?_
      refine jx_iload_n dX11_next_19 rfl ?_
      refine jx_iload_n dX11_next_20 rfl ?_
      obtain ⟨x10, w11, hq9, hf⟩ := jbd2_inv hf
      refine jx_cVi (a := 58) (As := [.int a1, .int a2]) (rest := []) dX11_next_21 ml_X11_170 mv_X3_fromKeyUp (s_X3_fromKeyUp hE hq9) rfl rfl jc_58 (by decide) (Nat.le_of_ble_eq_true rfl) ?_
      refine jx_goto (tgt := 28) dX11_next_24 (by decide) ?_
      cases hf
      exact jx_iret dX11_next_28 rfl rfl
def f_X11_prior (a1 : Int32) (a2 : Int32) (w : jw) : Option (Int32 × jw) := jbd2 (f_X11_isKey a1 w) fun x2 w3 => (if (jb x2) = 0 then some ((-1), w3) else jbd2 (f_X11_isTime a2 w3) fun x6 w7 => (if (jb x6) = 0 then some ((-1), w7) else jbd2 (f_X3_fromKeyDown a1 a2 w7) fun x10 w11 => some (x10, w11)))
set_option maxRecDepth 20000 in
set_option maxHeartbeats 2000000 in
theorem s_X11_prior {E : jE} (hE : jfull E) {a1 : Int32} {a2 : Int32} {w w' : jw} {v : Int32} (hf : f_X11_prior a1 a2 w = some (v, w')) : jC E m_X11_prior 3 [.ref (E.2.2.2 + 0), .int a1, .int a2] w (some (.int v)) w' := by
  refine jC_of (ls := [(0, .ref (E.2.2.2 + 0)), (1, .int a1), (2, .int a2)]) (by decide) rfl (fun _ => trivial) (Nat.le_of_ble_eq_true rfl) rfl ⟨.int, rfl, rfl⟩ ?_
  unfold f_X11_prior at hf
  refine jx_iload_n dX11_prior_0 rfl ?_
  obtain ⟨x2, w3, hq1, hf⟩ := jbd2_inv hf
  refine jx_cSi (As := [.int a1]) (rest := []) dX11_prior_1 ml_X11_126 ms_X11_isKey (s_X11_isKey hE hq1) rfl rfl rfl (by decide) (Nat.le_of_ble_eq_true rfl) ?_
  refine jx_if_eq (tgt := 27) dX11_prior_4 (by decide) (fun c4 => ?_) (fun c4 => ?_)
  · rw [if_pos c4] at hf
    refine jx_iconst (v := (-1)) dX11_prior_27 (by decide) ?_
    cases hf
    exact jx_iret dX11_prior_28 rfl rfl
  · rw [if_neg c4] at hf
    refine jx_aload_n dX11_prior_7 rfl ?_
    refine jx_iload_n dX11_prior_8 rfl ?_
    obtain ⟨x6, w7, hq5, hf⟩ := jbd2_inv hf
    refine jx_cVi (a := 0) (As := [.int a2]) (rest := []) dX11_prior_9 ml_X11_143 mv_X11_isTime (s_X11_isTime hE hq5) rfl rfl jc_0 (by decide) (Nat.le_of_ble_eq_true rfl) ?_
    refine jx_if_eq (tgt := 27) dX11_prior_12 (by decide) (fun c8 => ?_) (fun c8 => ?_)
    · rw [if_pos c8] at hf
      refine jx_iconst (v := (-1)) dX11_prior_27 (by decide) ?_
      cases hf
      exact jx_iret dX11_prior_28 rfl rfl
    · rw [if_neg c8] at hf
      refine jx_aload_n dX11_prior_15 rfl ?_
      refine jx_getr dX11_prior_16 fl_X11_70 kj_0 sr_0_6 ?_
      refine jx_iload_n dX11_prior_19 rfl ?_
      refine jx_iload_n dX11_prior_20 rfl ?_
      obtain ⟨x10, w11, hq9, hf⟩ := jbd2_inv hf
      refine jx_cVi (a := 58) (As := [.int a1, .int a2]) (rest := []) dX11_prior_21 ml_X11_173 mv_X3_fromKeyDown (s_X3_fromKeyDown hE hq9) rfl rfl jc_58 (by decide) (Nat.le_of_ble_eq_true rfl) ?_
      refine jx_goto (tgt := 28) dX11_prior_24 (by decide) ?_
      cases hf
      exact jx_iret dX11_prior_28 rfl rfl
def f_X11_differ (a1 : Int32) (a2 : Int32) (a3 : Int32) (a4 : Int32) (w : jw) : Option (Int32 × jw) := jbd2 (f_X11_isRange a1 a2 w) fun x2 w3 => (if (jb x2) = 0 then some ((-1), w3) else jbd2 (f_X11_isTime a3 w3) fun x6 w7 => (if (jb x6) = 0 then some ((-1), w7) else jbd2 (f_X11_isTime a4 w7) fun x10 w11 => (if (jb x10) = 0 then some ((-1), w11) else jbd2 (f_X3_differences a1 a2 a3 a4 w11) fun x14 w15 => some (x14, w15))))
set_option maxRecDepth 20000 in
set_option maxHeartbeats 2000000 in
theorem s_X11_differ {E : jE} (hE : jfull E) {a1 : Int32} {a2 : Int32} {a3 : Int32} {a4 : Int32} {w w' : jw} {v : Int32} (hf : f_X11_differ a1 a2 a3 a4 w = some (v, w')) : jC E m_X11_differ 3 [.ref (E.2.2.2 + 0), .int a1, .int a2, .int a3, .int a4] w (some (.int v)) w' := by
  refine jC_of (ls := [(0, .ref (E.2.2.2 + 0)), (1, .int a1), (2, .int a2), (3, .int a3), (4, .int a4)]) (by decide) rfl (fun _ => trivial) (Nat.le_of_ble_eq_true rfl) rfl ⟨.int, rfl, rfl⟩ ?_
  unfold f_X11_differ at hf
  refine jx_iload_n dX11_differ_0 rfl ?_
  refine jx_iload_n dX11_differ_1 rfl ?_
  obtain ⟨x2, w3, hq1, hf⟩ := jbd2_inv hf
  refine jx_cSi (As := [.int a1, .int a2]) (rest := []) dX11_differ_2 ml_X11_157 ms_X11_isRange (s_X11_isRange hE hq1) rfl rfl rfl (by decide) (Nat.le_of_ble_eq_true rfl) ?_
  refine jx_if_eq (tgt := 40) dX11_differ_5 (by decide) (fun c4 => ?_) (fun c4 => ?_)
  · rw [if_pos c4] at hf
    refine jx_iconst (v := (-1)) dX11_differ_40 (by decide) ?_
    cases hf
    exact jx_iret dX11_differ_41 rfl rfl
  · rw [if_neg c4] at hf
    refine jx_aload_n dX11_differ_8 rfl ?_
    refine jx_iload_n dX11_differ_9 rfl ?_
    obtain ⟨x6, w7, hq5, hf⟩ := jbd2_inv hf
    refine jx_cVi (a := 0) (As := [.int a3]) (rest := []) dX11_differ_10 ml_X11_143 mv_X11_isTime (s_X11_isTime hE hq5) rfl rfl jc_0 (by decide) (Nat.le_of_ble_eq_true rfl) ?_
    refine jx_if_eq (tgt := 40) dX11_differ_13 (by decide) (fun c8 => ?_) (fun c8 => ?_)
    · rw [if_pos c8] at hf
      refine jx_iconst (v := (-1)) dX11_differ_40 (by decide) ?_
      cases hf
      exact jx_iret dX11_differ_41 rfl rfl
    · rw [if_neg c8] at hf
      refine jx_aload_n dX11_differ_16 rfl ?_
      refine jx_iload dX11_differ_17 rfl ?_
      obtain ⟨x10, w11, hq9, hf⟩ := jbd2_inv hf
      refine jx_cVi (a := 0) (As := [.int a4]) (rest := []) dX11_differ_19 ml_X11_143 mv_X11_isTime (s_X11_isTime hE hq9) rfl rfl jc_0 (by decide) (Nat.le_of_ble_eq_true rfl) ?_
      refine jx_if_eq (tgt := 40) dX11_differ_22 (by decide) (fun c12 => ?_) (fun c12 => ?_)
      · rw [if_pos c12] at hf
        refine jx_iconst (v := (-1)) dX11_differ_40 (by decide) ?_
        cases hf
        exact jx_iret dX11_differ_41 rfl rfl
      · rw [if_neg c12] at hf
        refine jx_aload_n dX11_differ_25 rfl ?_
        refine jx_getr dX11_differ_26 fl_X11_70 kj_0 sr_0_6 ?_
        refine jx_iload_n dX11_differ_29 rfl ?_
        refine jx_iload_n dX11_differ_30 rfl ?_
        refine jx_iload_n dX11_differ_31 rfl ?_
        refine jx_iload dX11_differ_32 rfl ?_
        obtain ⟨x14, w15, hq13, hf⟩ := jbd2_inv hf
        refine jx_cVi (a := 58) (As := [.int a1, .int a2, .int a3, .int a4]) (rest := []) dX11_differ_34 ml_X11_176 mv_X3_differences (s_X3_differences hE hq13) rfl rfl jc_58 (by decide) (Nat.le_of_ble_eq_true rfl) ?_
        refine jx_goto (tgt := 41) dX11_differ_37 (by decide) ?_
        cases hf
        exact jx_iret dX11_differ_41 rfl rfl
def f_X11_isSpan (a1 : Int32) (a2 : Int32) (w : jw) : Option (Bool × jw) := jbd2 (f_X11_isTime a1 w) fun x2 w3 => (if (jb x2) = 0 then some (false, w3) else jbd2 (f_X11_isTime a2 w3) fun x6 w7 => (if (jb x6) = 0 then some (false, w7) else (if a2 < a1 then some (false, w7) else some (true, w7))))
set_option maxRecDepth 20000 in
set_option maxHeartbeats 2000000 in
theorem s_X11_isSpan {E : jE} (hE : jfull E) {a1 : Int32} {a2 : Int32} {w w' : jw} {v : Bool} (hf : f_X11_isSpan a1 a2 w = some (v, w')) : jC E m_X11_isSpan 2 [.ref (E.2.2.2 + 0), .int a1, .int a2] w (some (.int (jb v))) w' := by
  refine jC_of (ls := [(0, .ref (E.2.2.2 + 0)), (1, .int a1), (2, .int a2)]) (by decide) rfl (fun _ => trivial) (Nat.le_of_ble_eq_true rfl) rfl jb_ans ?_
  unfold f_X11_isSpan at hf
  refine jx_aload_n dX11_isSpan_0 rfl ?_
  refine jx_iload_n dX11_isSpan_1 rfl ?_
  obtain ⟨x2, w3, hq1, hf⟩ := jbd2_inv hf
  refine jx_cVi (a := 0) (As := [.int a1]) (rest := []) dX11_isSpan_2 ml_X11_143 mv_X11_isTime (s_X11_isTime hE hq1) rfl rfl jc_0 (by decide) (Nat.le_of_ble_eq_true rfl) ?_
  refine jx_if_eq (tgt := 25) dX11_isSpan_5 (by decide) (fun c4 => ?_) (fun c4 => ?_)
  · rw [if_pos c4] at hf
    refine jx_iconst (v := 0) dX11_isSpan_25 (by decide) ?_
    cases hf
    exact jx_iret dX11_isSpan_26 rfl rfl
  · rw [if_neg c4] at hf
    refine jx_aload_n dX11_isSpan_8 rfl ?_
    refine jx_iload_n dX11_isSpan_9 rfl ?_
    obtain ⟨x6, w7, hq5, hf⟩ := jbd2_inv hf
    refine jx_cVi (a := 0) (As := [.int a2]) (rest := []) dX11_isSpan_10 ml_X11_143 mv_X11_isTime (s_X11_isTime hE hq5) rfl rfl jc_0 (by decide) (Nat.le_of_ble_eq_true rfl) ?_
    refine jx_if_eq (tgt := 25) dX11_isSpan_13 (by decide) (fun c8 => ?_) (fun c8 => ?_)
    · rw [if_pos c8] at hf
      refine jx_iconst (v := 0) dX11_isSpan_25 (by decide) ?_
      cases hf
      exact jx_iret dX11_isSpan_26 rfl rfl
    · rw [if_neg c8] at hf
      refine jx_iload_n dX11_isSpan_16 rfl ?_
      refine jx_iload_n dX11_isSpan_17 rfl ?_
      refine jx_icmp_gt (tgt := 25) dX11_isSpan_18 (by decide) (fun c9 => ?_) (fun c9 => ?_)
      · rw [if_pos c9] at hf
        refine jx_iconst (v := 0) dX11_isSpan_25 (by decide) ?_
        cases hf
        exact jx_iret dX11_isSpan_26 rfl rfl
      · rw [if_neg c9] at hf
        refine jx_iconst (v := 1) dX11_isSpan_21 (by decide) ?_
        refine jx_goto (tgt := 26) dX11_isSpan_22 (by decide) ?_
        cases hf
        exact jx_iret dX11_isSpan_26 rfl rfl
def f_X11_ever (a1 : Int32) (a2 : Int32) (a3 : Int32) (a4 : Int32) (w : jw) : Option (Int32 × jw) := jbd2 (f_X11_isRange a1 a2 w) fun x2 w3 => (if (jb x2) = 0 then some ((-1), w3) else jbd2 (f_X11_isSpan a3 a4 w3) fun x6 w7 => (if (jb x6) = 0 then some ((-1), w7) else jbd2 (f_X3_livingWithin a1 a2 a3 a4 w7) fun x10 w11 => some (x10, w11)))
set_option maxRecDepth 20000 in
set_option maxHeartbeats 2000000 in
theorem s_X11_ever {E : jE} (hE : jfull E) {a1 : Int32} {a2 : Int32} {a3 : Int32} {a4 : Int32} {w w' : jw} {v : Int32} (hf : f_X11_ever a1 a2 a3 a4 w = some (v, w')) : jC E m_X11_ever 3 [.ref (E.2.2.2 + 0), .int a1, .int a2, .int a3, .int a4] w (some (.int v)) w' := by
  refine jC_of (ls := [(0, .ref (E.2.2.2 + 0)), (1, .int a1), (2, .int a2), (3, .int a3), (4, .int a4)]) (by decide) rfl (fun _ => trivial) (Nat.le_of_ble_eq_true rfl) rfl ⟨.int, rfl, rfl⟩ ?_
  unfold f_X11_ever at hf
  refine jx_iload_n dX11_ever_0 rfl ?_
  refine jx_iload_n dX11_ever_1 rfl ?_
  obtain ⟨x2, w3, hq1, hf⟩ := jbd2_inv hf
  refine jx_cSi (As := [.int a1, .int a2]) (rest := []) dX11_ever_2 ml_X11_157 ms_X11_isRange (s_X11_isRange hE hq1) rfl rfl rfl (by decide) (Nat.le_of_ble_eq_true rfl) ?_
  refine jx_if_eq (tgt := 33) dX11_ever_5 (by decide) (fun c4 => ?_) (fun c4 => ?_)
  · rw [if_pos c4] at hf
    refine jx_iconst (v := (-1)) dX11_ever_33 (by decide) ?_
    cases hf
    exact jx_iret dX11_ever_34 rfl rfl
  · rw [if_neg c4] at hf
    refine jx_aload_n dX11_ever_8 rfl ?_
    refine jx_iload_n dX11_ever_9 rfl ?_
    refine jx_iload dX11_ever_10 rfl ?_
    obtain ⟨x6, w7, hq5, hf⟩ := jbd2_inv hf
    refine jx_cVi (a := 0) (As := [.int a3, .int a4]) (rest := []) dX11_ever_12 ml_X11_180 mv_X11_isSpan (s_X11_isSpan hE hq5) rfl rfl jc_0 (by decide) (Nat.le_of_ble_eq_true rfl) ?_
    refine jx_if_eq (tgt := 33) dX11_ever_15 (by decide) (fun c8 => ?_) (fun c8 => ?_)
    · rw [if_pos c8] at hf
      refine jx_iconst (v := (-1)) dX11_ever_33 (by decide) ?_
      cases hf
      exact jx_iret dX11_ever_34 rfl rfl
    · rw [if_neg c8] at hf
      refine jx_aload_n dX11_ever_18 rfl ?_
      refine jx_getr dX11_ever_19 fl_X11_70 kj_0 sr_0_6 ?_
      refine jx_iload_n dX11_ever_22 rfl ?_
      refine jx_iload_n dX11_ever_23 rfl ?_
      refine jx_iload_n dX11_ever_24 rfl ?_
      refine jx_iload dX11_ever_25 rfl ?_
      obtain ⟨x10, w11, hq9, hf⟩ := jbd2_inv hf
      refine jx_cVi (a := 58) (As := [.int a1, .int a2, .int a3, .int a4]) (rest := []) dX11_ever_27 ml_X11_183 mv_X3_livingWithin (s_X3_livingWithin hE hq9) rfl rfl jc_58 (by decide) (Nat.le_of_ble_eq_true rfl) ?_
      refine jx_goto (tgt := 34) dX11_ever_30 (by decide) ?_
      cases hf
      exact jx_iret dX11_ever_34 rfl rfl
def f_X11_stay (a1 : Int32) (a2 : Int32) (a3 : Int32) (w : jw) : Option (Int32 × jw) := jbd2 (f_X11_isKey a1 w) fun x2 w3 => (if (jb x2) = 0 then some ((-1), w3) else jbd2 (f_X11_isSpan a2 a3 w3) fun x6 w7 => (if (jb x6) = 0 then some ((-1), w7) else jbd2 (f_X3_timesOf a1 a2 a3 w7) fun x10 w11 => some (x10, w11)))
set_option maxRecDepth 20000 in
set_option maxHeartbeats 2000000 in
theorem s_X11_stay {E : jE} (hE : jfull E) {a1 : Int32} {a2 : Int32} {a3 : Int32} {w w' : jw} {v : Int32} (hf : f_X11_stay a1 a2 a3 w = some (v, w')) : jC E m_X11_stay 3 [.ref (E.2.2.2 + 0), .int a1, .int a2, .int a3] w (some (.int v)) w' := by
  refine jC_of (ls := [(0, .ref (E.2.2.2 + 0)), (1, .int a1), (2, .int a2), (3, .int a3)]) (by decide) rfl (fun _ => trivial) (Nat.le_of_ble_eq_true rfl) rfl ⟨.int, rfl, rfl⟩ ?_
  unfold f_X11_stay at hf
  refine jx_iload_n dX11_stay_0 rfl ?_
  obtain ⟨x2, w3, hq1, hf⟩ := jbd2_inv hf
  refine jx_cSi (As := [.int a1]) (rest := []) dX11_stay_1 ml_X11_126 ms_X11_isKey (s_X11_isKey hE hq1) rfl rfl rfl (by decide) (Nat.le_of_ble_eq_true rfl) ?_
  refine jx_if_eq (tgt := 29) dX11_stay_4 (by decide) (fun c4 => ?_) (fun c4 => ?_)
  · rw [if_pos c4] at hf
    refine jx_iconst (v := (-1)) dX11_stay_29 (by decide) ?_
    cases hf
    exact jx_iret dX11_stay_30 rfl rfl
  · rw [if_neg c4] at hf
    refine jx_aload_n dX11_stay_7 rfl ?_
    refine jx_iload_n dX11_stay_8 rfl ?_
    refine jx_iload_n dX11_stay_9 rfl ?_
    obtain ⟨x6, w7, hq5, hf⟩ := jbd2_inv hf
    refine jx_cVi (a := 0) (As := [.int a2, .int a3]) (rest := []) dX11_stay_10 ml_X11_180 mv_X11_isSpan (s_X11_isSpan hE hq5) rfl rfl jc_0 (by decide) (Nat.le_of_ble_eq_true rfl) ?_
    refine jx_if_eq (tgt := 29) dX11_stay_13 (by decide) (fun c8 => ?_) (fun c8 => ?_)
    · rw [if_pos c8] at hf
      refine jx_iconst (v := (-1)) dX11_stay_29 (by decide) ?_
      cases hf
      exact jx_iret dX11_stay_30 rfl rfl
    · rw [if_neg c8] at hf
      refine jx_aload_n dX11_stay_16 rfl ?_
      refine jx_getr dX11_stay_17 fl_X11_70 kj_0 sr_0_6 ?_
      refine jx_iload_n dX11_stay_20 rfl ?_
      refine jx_iload_n dX11_stay_21 rfl ?_
      refine jx_iload_n dX11_stay_22 rfl ?_
      obtain ⟨x10, w11, hq9, hf⟩ := jbd2_inv hf
      refine jx_cVi (a := 58) (As := [.int a1, .int a2, .int a3]) (rest := []) dX11_stay_23 ml_X11_186 mv_X3_timesOf (s_X3_timesOf hE hq9) rfl rfl jc_58 (by decide) (Nat.le_of_ble_eq_true rfl) ?_
      refine jx_goto (tgt := 30) dX11_stay_26 (by decide) ?_
      cases hf
      exact jx_iret dX11_stay_30 rfl rfl
def f_X11_versions (a1 : Int32) (w : jw) : Option (Int32 × jw) := jbd2 (f_X11_isKey a1 w) fun x2 w3 => (if (jb x2) = 0 then some ((-1), w3) else jbd2 (f_X2_versionsOf a1 w3) fun x6 w7 => some (x6, w7))
set_option maxRecDepth 20000 in
set_option maxHeartbeats 2000000 in
theorem s_X11_versions {E : jE} (hE : jfull E) {a1 : Int32} {w w' : jw} {v : Int32} (hf : f_X11_versions a1 w = some (v, w')) : jC E m_X11_versions 3 [.ref (E.2.2.2 + 0), .int a1] w (some (.int v)) w' := by
  refine jC_of (ls := [(0, .ref (E.2.2.2 + 0)), (1, .int a1)]) (by decide) rfl (fun _ => trivial) (Nat.le_of_ble_eq_true rfl) rfl ⟨.int, rfl, rfl⟩ ?_
  unfold f_X11_versions at hf
  refine jx_iload_n dX11_versions_0 rfl ?_
  obtain ⟨x2, w3, hq1, hf⟩ := jbd2_inv hf
  refine jx_cSi (As := [.int a1]) (rest := []) dX11_versions_1 ml_X11_126 ms_X11_isKey (s_X11_isKey hE hq1) rfl rfl rfl (by decide) (Nat.le_of_ble_eq_true rfl) ?_
  refine jx_if_eq (tgt := 21) dX11_versions_4 (by decide) (fun c4 => ?_) (fun c4 => ?_)
  · rw [if_pos c4] at hf
    refine jx_iconst (v := (-1)) dX11_versions_21 (by decide) ?_
    cases hf
    exact jx_iret dX11_versions_22 rfl rfl
  · rw [if_neg c4] at hf
    refine jx_aload_n dX11_versions_7 rfl ?_
    refine jx_getr dX11_versions_8 fl_X11_39 kj_0 sr_0_4 ?_
    refine jx_getr dX11_versions_11 fl_X11_63 kj_17 sr_17_1 ?_
    refine jx_iload_n dX11_versions_14 rfl ?_
    obtain ⟨x6, w7, hq5, hf⟩ := jbd2_inv hf
    refine jx_cVi (a := 35) (As := [.int a1]) (rest := []) dX11_versions_15 ml_X11_189 mv_X2_versionsOf (s_X2_versionsOf hE hq5) rfl rfl jc_35 (by decide) (Nat.le_of_ble_eq_true rfl) ?_
    refine jx_goto (tgt := 22) dX11_versions_18 (by decide) ?_
    cases hf
    exact jx_iret dX11_versions_22 rfl rfl
def f_X11_version (a1 : Int32) (a2 : Int32) (a3 : Int32) (w : jw) : Option (Int32 × jw) := jbd2 (f_X11_isKey a1 w) fun x2 w3 => (if (jb x2) = 0 then some ((-1000), w3) else jbd2 (f_X2_versionFrom a1 a2 w3) fun x6 w7 => (if x6 = (-1) then some ((-1000), w7) else (if a3.toInt = 0 then some (x6, w7) else (if a3.toInt = 1 then some (rat (w7.2.2.2 42) x6, w7) else (if a3.toInt = 2 then some (rat (w7.2.2.2 40) x6, w7) else some ((-1000), w7))))))
set_option maxRecDepth 20000 in
set_option maxHeartbeats 2000000 in
theorem s_X11_version {E : jE} (hE : jfull E) {a1 : Int32} {a2 : Int32} {a3 : Int32} {w w' : jw} {v : Int32} (hf : f_X11_version a1 a2 a3 w = some (v, w')) : jC E m_X11_version 3 [.ref (E.2.2.2 + 0), .int a1, .int a2, .int a3] w (some (.int v)) w' := by
  refine jC_of (ls := [(0, .ref (E.2.2.2 + 0)), (1, .int a1), (2, .int a2), (3, .int a3)]) (by decide) rfl (fun _ => trivial) (Nat.le_of_ble_eq_true rfl) rfl ⟨.int, rfl, rfl⟩ ?_
  unfold f_X11_version at hf
  refine jx_iload_n dX11_version_0 rfl ?_
  obtain ⟨x2, w3, hq1, hf⟩ := jbd2_inv hf
  refine jx_cSi (As := [.int a1]) (rest := []) dX11_version_1 ml_X11_126 ms_X11_isKey (s_X11_isKey hE hq1) rfl rfl rfl (by decide) (Nat.le_of_ble_eq_true rfl) ?_
  refine jx_if_ne (tgt := 11) dX11_version_4 (by decide) (fun c4 => ?_) (fun c4 => ?_)
  · rw [if_neg c4] at hf
    refine jx_aload_n dX11_version_11 rfl ?_
    refine jx_getr dX11_version_12 fl_X11_39 kj_0 sr_0_4 ?_
    refine jx_getr dX11_version_15 fl_X11_63 kj_17 sr_17_1 ?_
    refine jx_iload_n dX11_version_18 rfl ?_
    refine jx_iload_n dX11_version_19 rfl ?_
    obtain ⟨x6, w7, hq5, hf⟩ := jbd2_inv hf
    refine jx_cVi (a := 35) (As := [.int a1, .int a2]) (rest := []) dX11_version_20 ml_X11_192 mv_X2_versionFrom (s_X2_versionFrom hE hq5) rfl rfl jc_35 (by decide) (Nat.le_of_ble_eq_true rfl) ?_
    refine jx_istore (ls' := [(0, .ref (E.2.2.2 + 0)), (1, .int a1), (2, .int a2), (3, .int a3), (4, .int x6)]) dX11_version_23 (by decide) rfl ?_
    refine jx_iload dX11_version_25 rfl ?_
    refine jx_iconst (v := (-1)) dX11_version_27 (by decide) ?_
    refine jx_icmp_ne (tgt := 35) dX11_version_28 (by decide) (fun c8 => ?_) (fun c8 => ?_)
    · rw [if_neg c8] at hf
      refine jx_iload_n dX11_version_35 rfl ?_
      by_cases c9 : a3.toInt = 0
      · rw [if_pos c9] at hf
        refine jx_tableIn (off := 28) (tgt := 64) dX11_version_36 (by omega) (by omega) (by rw [c9]; rfl) (by decide) ?_
        refine jx_iload dX11_version_64 rfl ?_
        cases hf
        exact jx_iret dX11_version_66 rfl rfl
      rw [if_neg c9] at hf
      by_cases c10 : a3.toInt = 1
      · rw [if_pos c10] at hf
        refine jx_tableIn (off := 31) (tgt := 67) dX11_version_36 (by omega) (by omega) (by rw [c10]; rfl) (by decide) ?_
        refine jx_aload_n dX11_version_67 rfl ?_
        refine jx_getr dX11_version_68 fl_X11_39 kj_0 sr_0_4 ?_
        refine jx_getr dX11_version_71 fl_X11_63 kj_17 sr_17_1 ?_
        refine jx_getr dX11_version_74 fl_X11_195 kj_35 sr_35_3 ?_
        refine jx_iload dX11_version_77 rfl ?_
        refine jx_cVi (a := 42) (As := [.int x6]) (rest := []) dX11_version_79 ml_X11_153 mv_X8_at (c_row_at (k := 0) kj_42 (by decide)) rfl rfl jc_42 (by decide) (Nat.le_of_ble_eq_true rfl) ?_
        cases hf
        exact jx_iret dX11_version_82 rfl rfl
      rw [if_neg c10] at hf
      by_cases c11 : a3.toInt = 2
      · rw [if_pos c11] at hf
        refine jx_tableIn (off := 47) (tgt := 83) dX11_version_36 (by omega) (by omega) (by rw [c11]; rfl) (by decide) ?_
        refine jx_aload_n dX11_version_83 rfl ?_
        refine jx_getr dX11_version_84 fl_X11_39 kj_0 sr_0_4 ?_
        refine jx_getr dX11_version_87 fl_X11_63 kj_17 sr_17_1 ?_
        refine jx_getr dX11_version_90 fl_X11_150 kj_35 sr_35_2 ?_
        refine jx_iload dX11_version_93 rfl ?_
        refine jx_cVi (a := 40) (As := [.int x6]) (rest := []) dX11_version_95 ml_X11_153 mv_X8_at (c_row_at (k := 0) kj_40 (by decide)) rfl rfl jc_40 (by decide) (Nat.le_of_ble_eq_true rfl) ?_
        cases hf
        exact jx_iret dX11_version_98 rfl rfl
      rw [if_neg c11] at hf
      refine jx_tableOut (tgt := 99) dX11_version_36 (by omega) (by decide) ?_
      refine jx_sipush (v := (-1000)) dX11_version_99 (by decide) ?_
      cases hf
      exact jx_iret dX11_version_102 rfl rfl
    · rw [if_pos c8] at hf
      refine jx_sipush (v := (-1000)) dX11_version_31 (by decide) ?_
      cases hf
      exact jx_iret dX11_version_34 rfl rfl
  · rw [if_pos c4] at hf
    refine jx_sipush (v := (-1000)) dX11_version_7 (by decide) ?_
    cases hf
    exact jx_iret dX11_version_10 rfl rfl
def f_X11_isEither (a1 : Int32) (w : jw) : Option (Bool × jw) := (if a1 = 0 then some (true, w) else (if a1 = 1 then some (true, w) else some (false, w)))
set_option maxRecDepth 20000 in
set_option maxHeartbeats 2000000 in
theorem s_X11_isEither {E : jE} (hE : jfull E) {a1 : Int32} {w w' : jw} {v : Bool} (hf : f_X11_isEither a1 w = some (v, w')) : jC E m_X11_isEither 0 [.int a1] w (some (.int (jb v))) w' := by
  refine jC_of (ls := [(0, .int a1)]) (by decide) rfl (fun _ => trivial) (Nat.le_of_ble_eq_true rfl) rfl jb_ans ?_
  unfold f_X11_isEither at hf
  refine jx_iload_n dX11_isEither_0 rfl ?_
  refine jx_if_eq (tgt := 9) dX11_isEither_1 (by decide) (fun c1 => ?_) (fun c1 => ?_)
  · rw [if_pos c1] at hf
    refine jx_iconst (v := 1) dX11_isEither_9 (by decide) ?_
    refine jx_goto (tgt := 14) dX11_isEither_10 (by decide) ?_
    cases hf
    exact jx_iret dX11_isEither_14 rfl rfl
  · rw [if_neg c1] at hf
    refine jx_iload_n dX11_isEither_4 rfl ?_
    refine jx_iconst (v := 1) dX11_isEither_5 (by decide) ?_
    refine jx_icmp_ne (tgt := 13) dX11_isEither_6 (by decide) (fun c2 => ?_) (fun c2 => ?_)
    · rw [if_neg c2] at hf
      refine jx_iconst (v := 0) dX11_isEither_13 (by decide) ?_
      cases hf
      exact jx_iret dX11_isEither_14 rfl rfl
    · rw [if_pos c2] at hf
      refine jx_iconst (v := 1) dX11_isEither_9 (by decide) ?_
      refine jx_goto (tgt := 14) dX11_isEither_10 (by decide) ?_
      cases hf
      exact jx_iret dX11_isEither_14 rfl rfl
def f_X11_peak (a1 : Int32) (a2 : Int32) (a3 : Int32) (w : jw) : Option (Int32 × jw) := jbd2 (f_X11_isRange a1 a2 w) fun x2 w3 => (if (jb x2) = 0 then some ((-1), w3) else jbd2 (f_X11_isEither a3 w3) fun x6 w7 => (if (jb x6) = 0 then some ((-1), w7) else jbd2 (f_X3_mostLiving a1 a2 a3 w7) fun x10 w11 => some (x10, w11)))
set_option maxRecDepth 20000 in
set_option maxHeartbeats 2000000 in
theorem s_X11_peak {E : jE} (hE : jfull E) {a1 : Int32} {a2 : Int32} {a3 : Int32} {w w' : jw} {v : Int32} (hf : f_X11_peak a1 a2 a3 w = some (v, w')) : jC E m_X11_peak 2 [.ref (E.2.2.2 + 0), .int a1, .int a2, .int a3] w (some (.int v)) w' := by
  refine jC_of (ls := [(0, .ref (E.2.2.2 + 0)), (1, .int a1), (2, .int a2), (3, .int a3)]) (by decide) rfl (fun _ => trivial) (Nat.le_of_ble_eq_true rfl) rfl ⟨.int, rfl, rfl⟩ ?_
  unfold f_X11_peak at hf
  refine jx_iload_n dX11_peak_0 rfl ?_
  refine jx_iload_n dX11_peak_1 rfl ?_
  obtain ⟨x2, w3, hq1, hf⟩ := jbd2_inv hf
  refine jx_cSi (As := [.int a1, .int a2]) (rest := []) dX11_peak_2 ml_X11_157 ms_X11_isRange (s_X11_isRange hE hq1) rfl rfl rfl (by decide) (Nat.le_of_ble_eq_true rfl) ?_
  refine jx_if_eq (tgt := 28) dX11_peak_5 (by decide) (fun c4 => ?_) (fun c4 => ?_)
  · rw [if_pos c4] at hf
    refine jx_iconst (v := (-1)) dX11_peak_28 (by decide) ?_
    cases hf
    exact jx_iret dX11_peak_29 rfl rfl
  · rw [if_neg c4] at hf
    refine jx_iload_n dX11_peak_8 rfl ?_
    obtain ⟨x6, w7, hq5, hf⟩ := jbd2_inv hf
    refine jx_cSi (As := [.int a3]) (rest := []) dX11_peak_9 ml_X11_198 ms_X11_isEither (s_X11_isEither hE hq5) rfl rfl rfl (by decide) (Nat.le_of_ble_eq_true rfl) ?_
    refine jx_if_eq (tgt := 28) dX11_peak_12 (by decide) (fun c8 => ?_) (fun c8 => ?_)
    · rw [if_pos c8] at hf
      refine jx_iconst (v := (-1)) dX11_peak_28 (by decide) ?_
      cases hf
      exact jx_iret dX11_peak_29 rfl rfl
    · rw [if_neg c8] at hf
      refine jx_aload_n dX11_peak_15 rfl ?_
      refine jx_getr dX11_peak_16 fl_X11_70 kj_0 sr_0_6 ?_
      refine jx_iload_n dX11_peak_19 rfl ?_
      refine jx_iload_n dX11_peak_20 rfl ?_
      refine jx_iload_n dX11_peak_21 rfl ?_
      obtain ⟨x10, w11, hq9, hf⟩ := jbd2_inv hf
      refine jx_cVi (a := 58) (As := [.int a1, .int a2, .int a3]) (rest := []) dX11_peak_22 ml_X11_201 mv_X3_mostLiving (s_X3_mostLiving hE hq9) rfl rfl jc_58 (by decide) (Nat.le_of_ble_eq_true rfl) ?_
      refine jx_goto (tgt := 29) dX11_peak_25 (by decide) ?_
      cases hf
      exact jx_iret dX11_peak_29 rfl rfl
def f_X11_root (a1 : Int32) (w : jw) : Option (Int32 × jw) := jbd2 (f_X11_isTime a1 w) fun x2 w3 => (if (jb x2) = 0 then some ((-1), w3) else jbd2 (f_X9_rootAt a1 w3) fun x6 w7 => some (x6, w7))
set_option maxRecDepth 20000 in
set_option maxHeartbeats 2000000 in
theorem s_X11_root {E : jE} (hE : jfull E) {a1 : Int32} {w w' : jw} {v : Int32} (hf : f_X11_root a1 w = some (v, w')) : jC E m_X11_root 2 [.ref (E.2.2.2 + 0), .int a1] w (some (.int v)) w' := by
  refine jC_of (ls := [(0, .ref (E.2.2.2 + 0)), (1, .int a1)]) (by decide) rfl (fun _ => trivial) (Nat.le_of_ble_eq_true rfl) rfl ⟨.int, rfl, rfl⟩ ?_
  unfold f_X11_root at hf
  refine jx_aload_n dX11_root_0 rfl ?_
  refine jx_iload_n dX11_root_1 rfl ?_
  obtain ⟨x2, w3, hq1, hf⟩ := jbd2_inv hf
  refine jx_cVi (a := 0) (As := [.int a1]) (rest := []) dX11_root_2 ml_X11_143 mv_X11_isTime (s_X11_isTime hE hq1) rfl rfl jc_0 (by decide) (Nat.le_of_ble_eq_true rfl) ?_
  refine jx_if_eq (tgt := 19) dX11_root_5 (by decide) (fun c4 => ?_) (fun c4 => ?_)
  · rw [if_pos c4] at hf
    refine jx_iconst (v := (-1)) dX11_root_19 (by decide) ?_
    cases hf
    exact jx_iret dX11_root_20 rfl rfl
  · rw [if_neg c4] at hf
    refine jx_aload_n dX11_root_8 rfl ?_
    refine jx_getr dX11_root_9 fl_X11_39 kj_0 sr_0_4 ?_
    refine jx_iload_n dX11_root_12 rfl ?_
    obtain ⟨x6, w7, hq5, hf⟩ := jbd2_inv hf
    refine jx_cVi (a := 17) (As := [.int a1]) (rest := []) dX11_root_13 ml_X11_204 mv_X9_rootAt (s_X9_rootAt hE hq5) rfl rfl jc_17 (by decide) (Nat.le_of_ble_eq_true rfl) ?_
    refine jx_goto (tgt := 20) dX11_root_16 (by decide) ?_
    cases hf
    exact jx_iret dX11_root_20 rfl rfl
def f_X11_deep (a1 : Int32) (w : jw) : Option (Int32 × jw) := jbd2 (f_X11_isTime a1 w) fun x2 w3 => (if (jb x2) = 0 then some ((-1), w3) else jbd2 (f_X5_levels a1 w3) fun x6 w7 => some (x6, w7))
set_option maxRecDepth 20000 in
set_option maxHeartbeats 2000000 in
theorem s_X11_deep {E : jE} (hE : jfull E) {a1 : Int32} {w w' : jw} {v : Int32} (hf : f_X11_deep a1 w = some (v, w')) : jC E m_X11_deep 5 [.ref (E.2.2.2 + 0), .int a1] w (some (.int v)) w' := by
  refine jC_of (ls := [(0, .ref (E.2.2.2 + 0)), (1, .int a1)]) (by decide) rfl (fun _ => trivial) (Nat.le_of_ble_eq_true rfl) rfl ⟨.int, rfl, rfl⟩ ?_
  unfold f_X11_deep at hf
  refine jx_aload_n dX11_deep_0 rfl ?_
  refine jx_iload_n dX11_deep_1 rfl ?_
  obtain ⟨x2, w3, hq1, hf⟩ := jbd2_inv hf
  refine jx_cVi (a := 0) (As := [.int a1]) (rest := []) dX11_deep_2 ml_X11_143 mv_X11_isTime (s_X11_isTime hE hq1) rfl rfl jc_0 (by decide) (Nat.le_of_ble_eq_true rfl) ?_
  refine jx_if_eq (tgt := 19) dX11_deep_5 (by decide) (fun c4 => ?_) (fun c4 => ?_)
  · rw [if_pos c4] at hf
    refine jx_iconst (v := (-1)) dX11_deep_19 (by decide) ?_
    cases hf
    exact jx_iret dX11_deep_20 rfl rfl
  · rw [if_neg c4] at hf
    refine jx_aload_n dX11_deep_8 rfl ?_
    refine jx_getr dX11_deep_9 fl_X11_77 kj_0 sr_0_7 ?_
    refine jx_iload_n dX11_deep_12 rfl ?_
    obtain ⟨x6, w7, hq5, hf⟩ := jbd2_inv hf
    refine jx_cVi (a := 63) (As := [.int a1]) (rest := []) dX11_deep_13 ml_X11_207 mv_X5_levels (s_X5_levels hE hq5) rfl rfl jc_63 (by decide) (Nat.le_of_ble_eq_true rfl) ?_
    refine jx_goto (tgt := 20) dX11_deep_16 (by decide) ?_
    cases hf
    exact jx_iret dX11_deep_20 rfl rfl
def f_X11_leaf (a1 : Int32) (a2 : Int32) (w : jw) : Option (Int32 × jw) := jbd2 (f_X11_isKey a1 w) fun x2 w3 => (if (jb x2) = 0 then some ((-1), w3) else jbd2 (f_X11_isTime a2 w3) fun x6 w7 => (if (jb x6) = 0 then some ((-1), w7) else jbd2 (f_X5_leafOf a1 a2 w7) fun x10 w11 => some (x10, w11)))
set_option maxRecDepth 20000 in
set_option maxHeartbeats 2000000 in
theorem s_X11_leaf {E : jE} (hE : jfull E) {a1 : Int32} {a2 : Int32} {w w' : jw} {v : Int32} (hf : f_X11_leaf a1 a2 w = some (v, w')) : jC E m_X11_leaf 5 [.ref (E.2.2.2 + 0), .int a1, .int a2] w (some (.int v)) w' := by
  refine jC_of (ls := [(0, .ref (E.2.2.2 + 0)), (1, .int a1), (2, .int a2)]) (by decide) rfl (fun _ => trivial) (Nat.le_of_ble_eq_true rfl) rfl ⟨.int, rfl, rfl⟩ ?_
  unfold f_X11_leaf at hf
  refine jx_iload_n dX11_leaf_0 rfl ?_
  obtain ⟨x2, w3, hq1, hf⟩ := jbd2_inv hf
  refine jx_cSi (As := [.int a1]) (rest := []) dX11_leaf_1 ml_X11_126 ms_X11_isKey (s_X11_isKey hE hq1) rfl rfl rfl (by decide) (Nat.le_of_ble_eq_true rfl) ?_
  refine jx_if_eq (tgt := 27) dX11_leaf_4 (by decide) (fun c4 => ?_) (fun c4 => ?_)
  · rw [if_pos c4] at hf
    refine jx_iconst (v := (-1)) dX11_leaf_27 (by decide) ?_
    cases hf
    exact jx_iret dX11_leaf_28 rfl rfl
  · rw [if_neg c4] at hf
    refine jx_aload_n dX11_leaf_7 rfl ?_
    refine jx_iload_n dX11_leaf_8 rfl ?_
    obtain ⟨x6, w7, hq5, hf⟩ := jbd2_inv hf
    refine jx_cVi (a := 0) (As := [.int a2]) (rest := []) dX11_leaf_9 ml_X11_143 mv_X11_isTime (s_X11_isTime hE hq5) rfl rfl jc_0 (by decide) (Nat.le_of_ble_eq_true rfl) ?_
    refine jx_if_eq (tgt := 27) dX11_leaf_12 (by decide) (fun c8 => ?_) (fun c8 => ?_)
    · rw [if_pos c8] at hf
      refine jx_iconst (v := (-1)) dX11_leaf_27 (by decide) ?_
      cases hf
      exact jx_iret dX11_leaf_28 rfl rfl
    · rw [if_neg c8] at hf
      refine jx_aload_n dX11_leaf_15 rfl ?_
      refine jx_getr dX11_leaf_16 fl_X11_77 kj_0 sr_0_7 ?_
      refine jx_iload_n dX11_leaf_19 rfl ?_
      refine jx_iload_n dX11_leaf_20 rfl ?_
      obtain ⟨x10, w11, hq9, hf⟩ := jbd2_inv hf
      refine jx_cVi (a := 63) (As := [.int a1, .int a2]) (rest := []) dX11_leaf_21 ml_X11_210 mv_X5_leafOf (s_X5_leafOf hE hq9) rfl rfl jc_63 (by decide) (Nat.le_of_ble_eq_true rfl) ?_
      refine jx_goto (tgt := 28) dX11_leaf_24 (by decide) ?_
      cases hf
      exact jx_iret dX11_leaf_28 rfl rfl
def f_X11_reads (a1 : Int32) (a2 : Int32) (a3 : Int32) (w : jw) : Option (Int32 × jw) := jbd2 (f_X11_isRange a1 a2 w) fun x2 w3 => (if (jb x2) = 0 then some ((-1), w3) else jbd2 (f_X11_isTime a3 w3) fun x6 w7 => (if (jb x6) = 0 then some ((-1), w7) else jbd2 (f_X5_pagesFor a1 a2 a3 w7) fun x10 w11 => some (x10, w11)))
set_option maxRecDepth 20000 in
set_option maxHeartbeats 2000000 in
theorem s_X11_reads {E : jE} (hE : jfull E) {a1 : Int32} {a2 : Int32} {a3 : Int32} {w w' : jw} {v : Int32} (hf : f_X11_reads a1 a2 a3 w = some (v, w')) : jC E m_X11_reads 6 [.ref (E.2.2.2 + 0), .int a1, .int a2, .int a3] w (some (.int v)) w' := by
  refine jC_of (ls := [(0, .ref (E.2.2.2 + 0)), (1, .int a1), (2, .int a2), (3, .int a3)]) (by decide) rfl (fun _ => trivial) (Nat.le_of_ble_eq_true rfl) rfl ⟨.int, rfl, rfl⟩ ?_
  unfold f_X11_reads at hf
  refine jx_iload_n dX11_reads_0 rfl ?_
  refine jx_iload_n dX11_reads_1 rfl ?_
  obtain ⟨x2, w3, hq1, hf⟩ := jbd2_inv hf
  refine jx_cSi (As := [.int a1, .int a2]) (rest := []) dX11_reads_2 ml_X11_157 ms_X11_isRange (s_X11_isRange hE hq1) rfl rfl rfl (by decide) (Nat.le_of_ble_eq_true rfl) ?_
  refine jx_if_eq (tgt := 29) dX11_reads_5 (by decide) (fun c4 => ?_) (fun c4 => ?_)
  · rw [if_pos c4] at hf
    refine jx_iconst (v := (-1)) dX11_reads_29 (by decide) ?_
    cases hf
    exact jx_iret dX11_reads_30 rfl rfl
  · rw [if_neg c4] at hf
    refine jx_aload_n dX11_reads_8 rfl ?_
    refine jx_iload_n dX11_reads_9 rfl ?_
    obtain ⟨x6, w7, hq5, hf⟩ := jbd2_inv hf
    refine jx_cVi (a := 0) (As := [.int a3]) (rest := []) dX11_reads_10 ml_X11_143 mv_X11_isTime (s_X11_isTime hE hq5) rfl rfl jc_0 (by decide) (Nat.le_of_ble_eq_true rfl) ?_
    refine jx_if_eq (tgt := 29) dX11_reads_13 (by decide) (fun c8 => ?_) (fun c8 => ?_)
    · rw [if_pos c8] at hf
      refine jx_iconst (v := (-1)) dX11_reads_29 (by decide) ?_
      cases hf
      exact jx_iret dX11_reads_30 rfl rfl
    · rw [if_neg c8] at hf
      refine jx_aload_n dX11_reads_16 rfl ?_
      refine jx_getr dX11_reads_17 fl_X11_77 kj_0 sr_0_7 ?_
      refine jx_iload_n dX11_reads_20 rfl ?_
      refine jx_iload_n dX11_reads_21 rfl ?_
      refine jx_iload_n dX11_reads_22 rfl ?_
      obtain ⟨x10, w11, hq9, hf⟩ := jbd2_inv hf
      refine jx_cVi (a := 63) (As := [.int a1, .int a2, .int a3]) (rest := []) dX11_reads_23 ml_X11_213 mv_X5_pagesFor (s_X5_pagesFor hE hq9) rfl rfl jc_63 (by decide) (Nat.le_of_ble_eq_true rfl) ?_
      refine jx_goto (tgt := 30) dX11_reads_26 (by decide) ?_
      cases hf
      exact jx_iret dX11_reads_30 rfl rfl
def f_X11_thin (a1 : Int32) (w : jw) : Option (Int32 × jw) := jbd2 (f_X11_isTime a1 w) fun x2 w3 => (if (jb x2) = 0 then some ((-1), w3) else jbd2 (f_X5_weakPages a1 w3) fun x6 w7 => some (x6, w7))
set_option maxRecDepth 20000 in
set_option maxHeartbeats 2000000 in
theorem s_X11_thin {E : jE} (hE : jfull E) {a1 : Int32} {w w' : jw} {v : Int32} (hf : f_X11_thin a1 w = some (v, w')) : jC E m_X11_thin 6 [.ref (E.2.2.2 + 0), .int a1] w (some (.int v)) w' := by
  refine jC_of (ls := [(0, .ref (E.2.2.2 + 0)), (1, .int a1)]) (by decide) rfl (fun _ => trivial) (Nat.le_of_ble_eq_true rfl) rfl ⟨.int, rfl, rfl⟩ ?_
  unfold f_X11_thin at hf
  refine jx_aload_n dX11_thin_0 rfl ?_
  refine jx_iload_n dX11_thin_1 rfl ?_
  obtain ⟨x2, w3, hq1, hf⟩ := jbd2_inv hf
  refine jx_cVi (a := 0) (As := [.int a1]) (rest := []) dX11_thin_2 ml_X11_143 mv_X11_isTime (s_X11_isTime hE hq1) rfl rfl jc_0 (by decide) (Nat.le_of_ble_eq_true rfl) ?_
  refine jx_if_eq (tgt := 19) dX11_thin_5 (by decide) (fun c4 => ?_) (fun c4 => ?_)
  · rw [if_pos c4] at hf
    refine jx_iconst (v := (-1)) dX11_thin_19 (by decide) ?_
    cases hf
    exact jx_iret dX11_thin_20 rfl rfl
  · rw [if_neg c4] at hf
    refine jx_aload_n dX11_thin_8 rfl ?_
    refine jx_getr dX11_thin_9 fl_X11_77 kj_0 sr_0_7 ?_
    refine jx_iload_n dX11_thin_12 rfl ?_
    obtain ⟨x6, w7, hq5, hf⟩ := jbd2_inv hf
    refine jx_cVi (a := 63) (As := [.int a1]) (rest := []) dX11_thin_13 ml_X11_216 mv_X5_weakPages (s_X5_weakPages hE hq5) rfl rfl jc_63 (by decide) (Nat.le_of_ble_eq_true rfl) ?_
    refine jx_goto (tgt := 20) dX11_thin_16 (by decide) ?_
    cases hf
    exact jx_iret dX11_thin_20 rfl rfl
def f_X11_way (a1 : Int32) (a2 : Int32) (a3 : Int32) (w : jw) : Option (Int32 × jw) := jbd2 (f_X11_isKey a1 w) fun x2 w3 => (if (jb x2) = 0 then some ((-1), w3) else jbd2 (f_X11_isTime a2 w3) fun x6 w7 => (if (jb x6) = 0 then some ((-1), w7) else jbd2 (f_X5_pageOnWay a1 a2 a3 w7) fun x10 w11 => some (x10, w11)))
set_option maxRecDepth 20000 in
set_option maxHeartbeats 2000000 in
theorem s_X11_way {E : jE} (hE : jfull E) {a1 : Int32} {a2 : Int32} {a3 : Int32} {w w' : jw} {v : Int32} (hf : f_X11_way a1 a2 a3 w = some (v, w')) : jC E m_X11_way 5 [.ref (E.2.2.2 + 0), .int a1, .int a2, .int a3] w (some (.int v)) w' := by
  refine jC_of (ls := [(0, .ref (E.2.2.2 + 0)), (1, .int a1), (2, .int a2), (3, .int a3)]) (by decide) rfl (fun _ => trivial) (Nat.le_of_ble_eq_true rfl) rfl ⟨.int, rfl, rfl⟩ ?_
  unfold f_X11_way at hf
  refine jx_iload_n dX11_way_0 rfl ?_
  obtain ⟨x2, w3, hq1, hf⟩ := jbd2_inv hf
  refine jx_cSi (As := [.int a1]) (rest := []) dX11_way_1 ml_X11_126 ms_X11_isKey (s_X11_isKey hE hq1) rfl rfl rfl (by decide) (Nat.le_of_ble_eq_true rfl) ?_
  refine jx_if_eq (tgt := 28) dX11_way_4 (by decide) (fun c4 => ?_) (fun c4 => ?_)
  · rw [if_pos c4] at hf
    refine jx_iconst (v := (-1)) dX11_way_28 (by decide) ?_
    cases hf
    exact jx_iret dX11_way_29 rfl rfl
  · rw [if_neg c4] at hf
    refine jx_aload_n dX11_way_7 rfl ?_
    refine jx_iload_n dX11_way_8 rfl ?_
    obtain ⟨x6, w7, hq5, hf⟩ := jbd2_inv hf
    refine jx_cVi (a := 0) (As := [.int a2]) (rest := []) dX11_way_9 ml_X11_143 mv_X11_isTime (s_X11_isTime hE hq5) rfl rfl jc_0 (by decide) (Nat.le_of_ble_eq_true rfl) ?_
    refine jx_if_eq (tgt := 28) dX11_way_12 (by decide) (fun c8 => ?_) (fun c8 => ?_)
    · rw [if_pos c8] at hf
      refine jx_iconst (v := (-1)) dX11_way_28 (by decide) ?_
      cases hf
      exact jx_iret dX11_way_29 rfl rfl
    · rw [if_neg c8] at hf
      refine jx_aload_n dX11_way_15 rfl ?_
      refine jx_getr dX11_way_16 fl_X11_77 kj_0 sr_0_7 ?_
      refine jx_iload_n dX11_way_19 rfl ?_
      refine jx_iload_n dX11_way_20 rfl ?_
      refine jx_iload_n dX11_way_21 rfl ?_
      obtain ⟨x10, w11, hq9, hf⟩ := jbd2_inv hf
      refine jx_cVi (a := 63) (As := [.int a1, .int a2, .int a3]) (rest := []) dX11_way_22 ml_X11_219 mv_X5_pageOnWay (s_X5_pageOnWay hE hq9) rfl rfl jc_63 (by decide) (Nat.le_of_ble_eq_true rfl) ?_
      refine jx_goto (tgt := 29) dX11_way_25 (by decide) ?_
      cases hf
      exact jx_iret dX11_way_29 rfl rfl
def f_X11_longest (a1 : Int32) (a2 : Int32) (w : jw) : Option (Int32 × jw) := jbd2 (f_X11_isKey a1 w) fun x2 w3 => (if (jb x2) = 0 then some ((-1), w3) else jbd2 (f_X11_isEither a2 w3) fun x6 w7 => (if (jb x6) = 0 then some ((-1), w7) else jbd2 (f_X3_longestVersion a1 a2 w7) fun x10 w11 => some (x10, w11)))
set_option maxRecDepth 20000 in
set_option maxHeartbeats 2000000 in
theorem s_X11_longest {E : jE} (hE : jfull E) {a1 : Int32} {a2 : Int32} {w w' : jw} {v : Int32} (hf : f_X11_longest a1 a2 w = some (v, w')) : jC E m_X11_longest 3 [.ref (E.2.2.2 + 0), .int a1, .int a2] w (some (.int v)) w' := by
  refine jC_of (ls := [(0, .ref (E.2.2.2 + 0)), (1, .int a1), (2, .int a2)]) (by decide) rfl (fun _ => trivial) (Nat.le_of_ble_eq_true rfl) rfl ⟨.int, rfl, rfl⟩ ?_
  unfold f_X11_longest at hf
  refine jx_iload_n dX11_longest_0 rfl ?_
  obtain ⟨x2, w3, hq1, hf⟩ := jbd2_inv hf
  refine jx_cSi (As := [.int a1]) (rest := []) dX11_longest_1 ml_X11_126 ms_X11_isKey (s_X11_isKey hE hq1) rfl rfl rfl (by decide) (Nat.le_of_ble_eq_true rfl) ?_
  refine jx_if_eq (tgt := 26) dX11_longest_4 (by decide) (fun c4 => ?_) (fun c4 => ?_)
  · rw [if_pos c4] at hf
    refine jx_iconst (v := (-1)) dX11_longest_26 (by decide) ?_
    cases hf
    exact jx_iret dX11_longest_27 rfl rfl
  · rw [if_neg c4] at hf
    refine jx_iload_n dX11_longest_7 rfl ?_
    obtain ⟨x6, w7, hq5, hf⟩ := jbd2_inv hf
    refine jx_cSi (As := [.int a2]) (rest := []) dX11_longest_8 ml_X11_198 ms_X11_isEither (s_X11_isEither hE hq5) rfl rfl rfl (by decide) (Nat.le_of_ble_eq_true rfl) ?_
    refine jx_if_eq (tgt := 26) dX11_longest_11 (by decide) (fun c8 => ?_) (fun c8 => ?_)
    · rw [if_pos c8] at hf
      refine jx_iconst (v := (-1)) dX11_longest_26 (by decide) ?_
      cases hf
      exact jx_iret dX11_longest_27 rfl rfl
    · rw [if_neg c8] at hf
      refine jx_aload_n dX11_longest_14 rfl ?_
      refine jx_getr dX11_longest_15 fl_X11_70 kj_0 sr_0_6 ?_
      refine jx_iload_n dX11_longest_18 rfl ?_
      refine jx_iload_n dX11_longest_19 rfl ?_
      obtain ⟨x10, w11, hq9, hf⟩ := jbd2_inv hf
      refine jx_cVi (a := 58) (As := [.int a1, .int a2]) (rest := []) dX11_longest_20 ml_X11_222 mv_X3_longestVersion (s_X3_longestVersion hE hq9) rfl rfl jc_58 (by decide) (Nat.le_of_ble_eq_true rfl) ?_
      refine jx_goto (tgt := 27) dX11_longest_23 (by decide) ?_
      cases hf
      exact jx_iret dX11_longest_27 rfl rfl
def f_X11_busiest (a1 : Int32) (a2 : Int32) (a3 : Int32) (w : jw) : Option (Int32 × jw) := jbd2 (f_X11_isRange a1 a2 w) fun x2 w3 => (if (jb x2) = 0 then some ((-1), w3) else jbd2 (f_X11_isEither a3 w3) fun x6 w7 => (if (jb x6) = 0 then some ((-1), w7) else jbd2 (f_X3_mostVersions a1 a2 a3 w7) fun x10 w11 => some (x10, w11)))
set_option maxRecDepth 20000 in
set_option maxHeartbeats 2000000 in
theorem s_X11_busiest {E : jE} (hE : jfull E) {a1 : Int32} {a2 : Int32} {a3 : Int32} {w w' : jw} {v : Int32} (hf : f_X11_busiest a1 a2 a3 w = some (v, w')) : jC E m_X11_busiest 2 [.ref (E.2.2.2 + 0), .int a1, .int a2, .int a3] w (some (.int v)) w' := by
  refine jC_of (ls := [(0, .ref (E.2.2.2 + 0)), (1, .int a1), (2, .int a2), (3, .int a3)]) (by decide) rfl (fun _ => trivial) (Nat.le_of_ble_eq_true rfl) rfl ⟨.int, rfl, rfl⟩ ?_
  unfold f_X11_busiest at hf
  refine jx_iload_n dX11_busiest_0 rfl ?_
  refine jx_iload_n dX11_busiest_1 rfl ?_
  obtain ⟨x2, w3, hq1, hf⟩ := jbd2_inv hf
  refine jx_cSi (As := [.int a1, .int a2]) (rest := []) dX11_busiest_2 ml_X11_157 ms_X11_isRange (s_X11_isRange hE hq1) rfl rfl rfl (by decide) (Nat.le_of_ble_eq_true rfl) ?_
  refine jx_if_eq (tgt := 28) dX11_busiest_5 (by decide) (fun c4 => ?_) (fun c4 => ?_)
  · rw [if_pos c4] at hf
    refine jx_iconst (v := (-1)) dX11_busiest_28 (by decide) ?_
    cases hf
    exact jx_iret dX11_busiest_29 rfl rfl
  · rw [if_neg c4] at hf
    refine jx_iload_n dX11_busiest_8 rfl ?_
    obtain ⟨x6, w7, hq5, hf⟩ := jbd2_inv hf
    refine jx_cSi (As := [.int a3]) (rest := []) dX11_busiest_9 ml_X11_198 ms_X11_isEither (s_X11_isEither hE hq5) rfl rfl rfl (by decide) (Nat.le_of_ble_eq_true rfl) ?_
    refine jx_if_eq (tgt := 28) dX11_busiest_12 (by decide) (fun c8 => ?_) (fun c8 => ?_)
    · rw [if_pos c8] at hf
      refine jx_iconst (v := (-1)) dX11_busiest_28 (by decide) ?_
      cases hf
      exact jx_iret dX11_busiest_29 rfl rfl
    · rw [if_neg c8] at hf
      refine jx_aload_n dX11_busiest_15 rfl ?_
      refine jx_getr dX11_busiest_16 fl_X11_70 kj_0 sr_0_6 ?_
      refine jx_iload_n dX11_busiest_19 rfl ?_
      refine jx_iload_n dX11_busiest_20 rfl ?_
      refine jx_iload_n dX11_busiest_21 rfl ?_
      obtain ⟨x10, w11, hq9, hf⟩ := jbd2_inv hf
      refine jx_cVi (a := 58) (As := [.int a1, .int a2, .int a3]) (rest := []) dX11_busiest_22 ml_X11_225 mv_X3_mostVersions (s_X3_mostVersions hE hq9) rfl rfl jc_58 (by decide) (Nat.le_of_ble_eq_true rfl) ?_
      refine jx_goto (tgt := 29) dX11_busiest_25 (by decide) ?_
      cases hf
      exact jx_iret dX11_busiest_29 rfl rfl
def f_X11_gap (a1 : Int32) (a2 : Int32) (w : jw) : Option (Int32 × jw) := jbd2 (f_X11_isTime a1 w) fun x2 w3 => (if (jb x2) = 0 then some ((-1), w3) else jbd2 (f_X11_isEither a2 w3) fun x6 w7 => (if (jb x6) = 0 then some ((-1), w7) else jbd2 (f_X3_widestGap a1 a2 w7) fun x10 w11 => some (x10, w11)))
set_option maxRecDepth 20000 in
set_option maxHeartbeats 2000000 in
theorem s_X11_gap {E : jE} (hE : jfull E) {a1 : Int32} {a2 : Int32} {w w' : jw} {v : Int32} (hf : f_X11_gap a1 a2 w = some (v, w')) : jC E m_X11_gap 3 [.ref (E.2.2.2 + 0), .int a1, .int a2] w (some (.int v)) w' := by
  refine jC_of (ls := [(0, .ref (E.2.2.2 + 0)), (1, .int a1), (2, .int a2)]) (by decide) rfl (fun _ => trivial) (Nat.le_of_ble_eq_true rfl) rfl ⟨.int, rfl, rfl⟩ ?_
  unfold f_X11_gap at hf
  refine jx_aload_n dX11_gap_0 rfl ?_
  refine jx_iload_n dX11_gap_1 rfl ?_
  obtain ⟨x2, w3, hq1, hf⟩ := jbd2_inv hf
  refine jx_cVi (a := 0) (As := [.int a1]) (rest := []) dX11_gap_2 ml_X11_143 mv_X11_isTime (s_X11_isTime hE hq1) rfl rfl jc_0 (by decide) (Nat.le_of_ble_eq_true rfl) ?_
  refine jx_if_eq (tgt := 27) dX11_gap_5 (by decide) (fun c4 => ?_) (fun c4 => ?_)
  · rw [if_pos c4] at hf
    refine jx_iconst (v := (-1)) dX11_gap_27 (by decide) ?_
    cases hf
    exact jx_iret dX11_gap_28 rfl rfl
  · rw [if_neg c4] at hf
    refine jx_iload_n dX11_gap_8 rfl ?_
    obtain ⟨x6, w7, hq5, hf⟩ := jbd2_inv hf
    refine jx_cSi (As := [.int a2]) (rest := []) dX11_gap_9 ml_X11_198 ms_X11_isEither (s_X11_isEither hE hq5) rfl rfl rfl (by decide) (Nat.le_of_ble_eq_true rfl) ?_
    refine jx_if_eq (tgt := 27) dX11_gap_12 (by decide) (fun c8 => ?_) (fun c8 => ?_)
    · rw [if_pos c8] at hf
      refine jx_iconst (v := (-1)) dX11_gap_27 (by decide) ?_
      cases hf
      exact jx_iret dX11_gap_28 rfl rfl
    · rw [if_neg c8] at hf
      refine jx_aload_n dX11_gap_15 rfl ?_
      refine jx_getr dX11_gap_16 fl_X11_70 kj_0 sr_0_6 ?_
      refine jx_iload_n dX11_gap_19 rfl ?_
      refine jx_iload_n dX11_gap_20 rfl ?_
      obtain ⟨x10, w11, hq9, hf⟩ := jbd2_inv hf
      refine jx_cVi (a := 58) (As := [.int a1, .int a2]) (rest := []) dX11_gap_21 ml_X11_228 mv_X3_widestGap (s_X3_widestGap hE hq9) rfl rfl jc_58 (by decide) (Nat.le_of_ble_eq_true rfl) ?_
      refine jx_goto (tgt := 28) dX11_gap_24 (by decide) ?_
      cases hf
      exact jx_iret dX11_gap_28 rfl rfl
def f_X11_held (a1 : Int32) (a2 : Int32) (w : jw) : Option (Int32 × jw) := jbd2 (f_X11_isTime a1 w) fun x2 w3 => (if (jb x2) = 0 then some ((-1), w3) else jbd2 (f_X5_heldAt a1 a2 w3) fun x6 w7 => some (x6, w7))
set_option maxRecDepth 20000 in
set_option maxHeartbeats 2000000 in
theorem s_X11_held {E : jE} (hE : jfull E) {a1 : Int32} {a2 : Int32} {w w' : jw} {v : Int32} (hf : f_X11_held a1 a2 w = some (v, w')) : jC E m_X11_held 6 [.ref (E.2.2.2 + 0), .int a1, .int a2] w (some (.int v)) w' := by
  refine jC_of (ls := [(0, .ref (E.2.2.2 + 0)), (1, .int a1), (2, .int a2)]) (by decide) rfl (fun _ => trivial) (Nat.le_of_ble_eq_true rfl) rfl ⟨.int, rfl, rfl⟩ ?_
  unfold f_X11_held at hf
  refine jx_aload_n dX11_held_0 rfl ?_
  refine jx_iload_n dX11_held_1 rfl ?_
  obtain ⟨x2, w3, hq1, hf⟩ := jbd2_inv hf
  refine jx_cVi (a := 0) (As := [.int a1]) (rest := []) dX11_held_2 ml_X11_143 mv_X11_isTime (s_X11_isTime hE hq1) rfl rfl jc_0 (by decide) (Nat.le_of_ble_eq_true rfl) ?_
  refine jx_if_eq (tgt := 20) dX11_held_5 (by decide) (fun c4 => ?_) (fun c4 => ?_)
  · rw [if_pos c4] at hf
    refine jx_iconst (v := (-1)) dX11_held_20 (by decide) ?_
    cases hf
    exact jx_iret dX11_held_21 rfl rfl
  · rw [if_neg c4] at hf
    refine jx_aload_n dX11_held_8 rfl ?_
    refine jx_getr dX11_held_9 fl_X11_77 kj_0 sr_0_7 ?_
    refine jx_iload_n dX11_held_12 rfl ?_
    refine jx_iload_n dX11_held_13 rfl ?_
    obtain ⟨x6, w7, hq5, hf⟩ := jbd2_inv hf
    refine jx_cVi (a := 63) (As := [.int a1, .int a2]) (rest := []) dX11_held_14 ml_X11_231 mv_X5_heldAt (s_X5_heldAt hE hq5) rfl rfl jc_63 (by decide) (Nat.le_of_ble_eq_true rfl) ?_
    refine jx_goto (tgt := 21) dX11_held_17 (by decide) ?_
    cases hf
    exact jx_iret dX11_held_21 rfl rfl
def f_X11_page (a1 : Int32) (a2 : Int32) (w : jw) : Option (Int32 × jw) := jbd2 (f_X6_isPage a1 w) fun x2 w3 => (if (jb x2) = 0 then some ((-1), w3) else (if a2.toInt = 0 then some (rat (w3.2.2.2 19) a1, w3) else (if a2.toInt = 1 then some (rat (w3.2.2.2 21) a1, w3) else (if a2.toInt = 2 then jbd2 (f_X6_openIn a1 w3) fun x9 w10 => some (x9, w10) else (if a2.toInt = 3 then some (rat (w3.2.2.2 23) a1, w3) else (if a2.toInt = 4 then some (rat (w3.2.2.2 25) a1, w3) else some ((-1), w3)))))))
set_option maxRecDepth 20000 in
set_option maxHeartbeats 2000000 in
theorem s_X11_page {E : jE} (hE : jfull E) {a1 : Int32} {a2 : Int32} {w w' : jw} {v : Int32} (hf : f_X11_page a1 a2 w = some (v, w')) : jC E m_X11_page 3 [.ref (E.2.2.2 + 0), .int a1, .int a2] w (some (.int v)) w' := by
  refine jC_of (ls := [(0, .ref (E.2.2.2 + 0)), (1, .int a1), (2, .int a2)]) (by decide) rfl (fun _ => trivial) (Nat.le_of_ble_eq_true rfl) rfl ⟨.int, rfl, rfl⟩ ?_
  unfold f_X11_page at hf
  refine jx_aload_n dX11_page_0 rfl ?_
  refine jx_getr dX11_page_1 fl_X11_39 kj_0 sr_0_4 ?_
  refine jx_getr dX11_page_4 fl_X11_234 kj_17 sr_17_0 ?_
  refine jx_astore_n (ls' := [(0, .ref (E.2.2.2 + 0)), (1, .int a1), (2, .int a2), (3, .ref (E.2.2.2 + 18))]) dX11_page_7 (by decide) rfl ?_
  refine jx_aload_n dX11_page_8 rfl ?_
  refine jx_iload_n dX11_page_9 rfl ?_
  obtain ⟨x2, w3, hq1, hf⟩ := jbd2_inv hf
  refine jx_cVi (a := 18) (As := [.int a1]) (rest := []) dX11_page_10 ml_X11_238 mv_X6_isPage (s_X6_isPage hE hq1) rfl rfl jc_18 (by decide) (Nat.le_of_ble_eq_true rfl) ?_
  refine jx_if_ne (tgt := 18) dX11_page_13 (by decide) (fun c4 => ?_) (fun c4 => ?_)
  · rw [if_neg c4] at hf
    refine jx_iload_n dX11_page_18 rfl ?_
    by_cases c5 : a2.toInt = 0
    · rw [if_pos c5] at hf
      refine jx_tableIn (off := 33) (tgt := 52) dX11_page_19 (by omega) (by omega) (by rw [c5]; rfl) (by decide) ?_
      refine jx_aload_n dX11_page_52 rfl ?_
      refine jx_getr dX11_page_53 fl_X11_243 kj_18 sr_18_0 ?_
      refine jx_iload_n dX11_page_56 rfl ?_
      refine jx_cVi (a := 19) (As := [.int a1]) (rest := []) dX11_page_57 ml_X11_153 mv_X8_at (c_row_at (k := 0) kj_19 (by decide)) rfl rfl jc_19 (by decide) (Nat.le_of_ble_eq_true rfl) ?_
      cases hf
      exact jx_iret dX11_page_60 rfl rfl
    rw [if_neg c5] at hf
    by_cases c6 : a2.toInt = 1
    · rw [if_pos c6] at hf
      refine jx_tableIn (off := 42) (tgt := 61) dX11_page_19 (by omega) (by omega) (by rw [c6]; rfl) (by decide) ?_
      refine jx_aload_n dX11_page_61 rfl ?_
      refine jx_getr dX11_page_62 fl_X11_246 kj_18 sr_18_1 ?_
      refine jx_iload_n dX11_page_65 rfl ?_
      refine jx_cVi (a := 21) (As := [.int a1]) (rest := []) dX11_page_66 ml_X11_153 mv_X8_at (c_row_at (k := 0) kj_21 (by decide)) rfl rfl jc_21 (by decide) (Nat.le_of_ble_eq_true rfl) ?_
      cases hf
      exact jx_iret dX11_page_69 rfl rfl
    rw [if_neg c6] at hf
    by_cases c7 : a2.toInt = 2
    · rw [if_pos c7] at hf
      refine jx_tableIn (off := 51) (tgt := 70) dX11_page_19 (by omega) (by omega) (by rw [c7]; rfl) (by decide) ?_
      refine jx_aload_n dX11_page_70 rfl ?_
      refine jx_iload_n dX11_page_71 rfl ?_
      obtain ⟨x9, w10, hq8, hf⟩ := jbd2_inv hf
      refine jx_cVi (a := 18) (As := [.int a1]) (rest := []) dX11_page_72 ml_X11_249 mv_X6_openIn (s_X6_openIn hE hq8) rfl rfl jc_18 (by decide) (Nat.le_of_ble_eq_true rfl) ?_
      cases hf
      exact jx_iret dX11_page_75 rfl rfl
    rw [if_neg c7] at hf
    by_cases c11 : a2.toInt = 3
    · rw [if_pos c11] at hf
      refine jx_tableIn (off := 57) (tgt := 76) dX11_page_19 (by omega) (by omega) (by rw [c11]; rfl) (by decide) ?_
      refine jx_aload_n dX11_page_76 rfl ?_
      refine jx_getr dX11_page_77 fl_X11_252 kj_18 sr_18_2 ?_
      refine jx_iload_n dX11_page_80 rfl ?_
      refine jx_cVi (a := 23) (As := [.int a1]) (rest := []) dX11_page_81 ml_X11_153 mv_X8_at (c_row_at (k := 0) kj_23 (by decide)) rfl rfl jc_23 (by decide) (Nat.le_of_ble_eq_true rfl) ?_
      cases hf
      exact jx_iret dX11_page_84 rfl rfl
    rw [if_neg c11] at hf
    by_cases c12 : a2.toInt = 4
    · rw [if_pos c12] at hf
      refine jx_tableIn (off := 66) (tgt := 85) dX11_page_19 (by omega) (by omega) (by rw [c12]; rfl) (by decide) ?_
      refine jx_aload_n dX11_page_85 rfl ?_
      refine jx_getr dX11_page_86 fl_X11_255 kj_18 sr_18_3 ?_
      refine jx_iload_n dX11_page_89 rfl ?_
      refine jx_cVi (a := 25) (As := [.int a1]) (rest := []) dX11_page_90 ml_X11_153 mv_X8_at (c_row_at (k := 0) kj_25 (by decide)) rfl rfl jc_25 (by decide) (Nat.le_of_ble_eq_true rfl) ?_
      cases hf
      exact jx_iret dX11_page_93 rfl rfl
    rw [if_neg c12] at hf
    refine jx_tableOut (tgt := 94) dX11_page_19 (by omega) (by decide) ?_
    refine jx_iconst (v := (-1)) dX11_page_94 (by decide) ?_
    cases hf
    exact jx_iret dX11_page_95 rfl rfl
  · rw [if_pos c4] at hf
    refine jx_iconst (v := (-1)) dX11_page_16 (by decide) ?_
    cases hf
    exact jx_iret dX11_page_17 rfl rfl
def f_X11_entry (a1 : Int32) (a2 : Int32) (a3 : Int32) (w : jw) : Option (Int32 × jw) := jbd2 (f_X6_isPage a1 w) fun x2 w3 => (if (jb x2) = 0 then some ((-1000), w3) else (if a2 < 0 then some ((-1000), w3) else (if a2 < (rat (w3.2.2.2 21) a1) then jbd2 (f_X6_firstSlot a1 w3) fun x8 w9 => jl (x8 + a2 : Int32) fun x10 => (if a3.toInt = 0 then some (rat (w9.2.2.2 27) x10, w9) else (if a3.toInt = 1 then some (rat (w9.2.2.2 31) x10, w9) else (if a3.toInt = 2 then some (rat (w9.2.2.2 33) x10, w9) else (if a3.toInt = 3 then some (rat (w9.2.2.2 29) x10, w9) else some ((-1000), w9))))) else some ((-1000), w3))))
set_option maxRecDepth 20000 in
set_option maxHeartbeats 2000000 in
theorem s_X11_entry {E : jE} (hE : jfull E) {a1 : Int32} {a2 : Int32} {a3 : Int32} {w w' : jw} {v : Int32} (hf : f_X11_entry a1 a2 a3 w = some (v, w')) : jC E m_X11_entry 1 [.ref (E.2.2.2 + 0), .int a1, .int a2, .int a3] w (some (.int v)) w' := by
  refine jC_of (ls := [(0, .ref (E.2.2.2 + 0)), (1, .int a1), (2, .int a2), (3, .int a3)]) (by decide) rfl (fun _ => trivial) (Nat.le_of_ble_eq_true rfl) rfl ⟨.int, rfl, rfl⟩ ?_
  unfold f_X11_entry at hf
  refine jx_aload_n dX11_entry_0 rfl ?_
  refine jx_getr dX11_entry_1 fl_X11_39 kj_0 sr_0_4 ?_
  refine jx_getr dX11_entry_4 fl_X11_234 kj_17 sr_17_0 ?_
  refine jx_astore (ls' := [(0, .ref (E.2.2.2 + 0)), (1, .int a1), (2, .int a2), (3, .int a3), (4, .ref (E.2.2.2 + 18))]) dX11_entry_7 (by decide) rfl ?_
  refine jx_aload dX11_entry_9 rfl ?_
  refine jx_iload_n dX11_entry_11 rfl ?_
  obtain ⟨x2, w3, hq1, hf⟩ := jbd2_inv hf
  refine jx_cVi (a := 18) (As := [.int a1]) (rest := []) dX11_entry_12 ml_X11_238 mv_X6_isPage (s_X6_isPage hE hq1) rfl rfl jc_18 (by decide) (Nat.le_of_ble_eq_true rfl) ?_
  refine jx_if_eq (tgt := 35) dX11_entry_15 (by decide) (fun c4 => ?_) (fun c4 => ?_)
  · rw [if_pos c4] at hf
    refine jx_sipush (v := (-1000)) dX11_entry_35 (by decide) ?_
    cases hf
    exact jx_iret dX11_entry_38 rfl rfl
  · rw [if_neg c4] at hf
    refine jx_iload_n dX11_entry_18 rfl ?_
    refine jx_if_lt (tgt := 35) dX11_entry_19 (by decide) (fun c5 => ?_) (fun c5 => ?_)
    · rw [if_pos c5] at hf
      refine jx_sipush (v := (-1000)) dX11_entry_35 (by decide) ?_
      cases hf
      exact jx_iret dX11_entry_38 rfl rfl
    · rw [if_neg c5] at hf
      refine jx_iload_n dX11_entry_22 rfl ?_
      refine jx_aload dX11_entry_23 rfl ?_
      refine jx_getr dX11_entry_25 fl_X11_246 kj_18 sr_18_1 ?_
      refine jx_iload_n dX11_entry_28 rfl ?_
      refine jx_cVi (a := 21) (As := [.int a1]) (rest := [.int a2]) dX11_entry_29 ml_X11_153 mv_X8_at (c_row_at (k := 0) kj_21 (by decide)) rfl rfl jc_21 (by decide) (Nat.le_of_ble_eq_true rfl) ?_
      refine jx_icmp_lt (tgt := 39) dX11_entry_32 (by decide) (fun c6 => ?_) (fun c6 => ?_)
      · rw [if_pos c6] at hf
        refine jx_aload dX11_entry_39 rfl ?_
        refine jx_iload_n dX11_entry_41 rfl ?_
        obtain ⟨x8, w9, hq7, hf⟩ := jbd2_inv hf
        refine jx_cVi (a := 18) (As := [.int a1]) (rest := []) dX11_entry_42 ml_X11_258 mv_X6_firstSlot (s_X6_firstSlot hE hq7) rfl rfl jc_18 (by decide) (Nat.le_of_ble_eq_true rfl) ?_
        refine jx_iload_n dX11_entry_45 rfl ?_
        refine jx_iadd dX11_entry_46 ?_
        obtain ⟨x10, hx10, hf⟩ := jl_inv hf
        refine jx_nm hx10 ?_
        refine jx_istore (ls' := [(0, .ref (E.2.2.2 + 0)), (1, .int a1), (2, .int a2), (3, .int a3), (4, .ref (E.2.2.2 + 18)), (5, .int x10)]) dX11_entry_47 (by decide) rfl ?_
        refine jx_iload_n dX11_entry_49 rfl ?_
        by_cases c11 : a3.toInt = 0
        · rw [if_pos c11] at hf
          refine jx_tableIn (off := 30) (tgt := 80) dX11_entry_50 (by omega) (by omega) (by rw [c11]; rfl) (by decide) ?_
          refine jx_aload dX11_entry_80 rfl ?_
          refine jx_getr dX11_entry_82 fl_X11_261 kj_18 sr_18_4 ?_
          refine jx_iload dX11_entry_85 rfl ?_
          refine jx_cVi (a := 27) (As := [.int x10]) (rest := []) dX11_entry_87 ml_X11_153 mv_X8_at (c_row_at (k := 0) kj_27 (by decide)) rfl rfl jc_27 (by decide) (Nat.le_of_ble_eq_true rfl) ?_
          cases hf
          exact jx_iret dX11_entry_90 rfl rfl
        rw [if_neg c11] at hf
        by_cases c12 : a3.toInt = 1
        · rw [if_pos c12] at hf
          refine jx_tableIn (off := 41) (tgt := 91) dX11_entry_50 (by omega) (by omega) (by rw [c12]; rfl) (by decide) ?_
          refine jx_aload dX11_entry_91 rfl ?_
          refine jx_getr dX11_entry_93 fl_X11_264 kj_18 sr_18_6 ?_
          refine jx_iload dX11_entry_96 rfl ?_
          refine jx_cVi (a := 31) (As := [.int x10]) (rest := []) dX11_entry_98 ml_X11_153 mv_X8_at (c_row_at (k := 0) kj_31 (by decide)) rfl rfl jc_31 (by decide) (Nat.le_of_ble_eq_true rfl) ?_
          cases hf
          exact jx_iret dX11_entry_101 rfl rfl
        rw [if_neg c12] at hf
        by_cases c13 : a3.toInt = 2
        · rw [if_pos c13] at hf
          refine jx_tableIn (off := 52) (tgt := 102) dX11_entry_50 (by omega) (by omega) (by rw [c13]; rfl) (by decide) ?_
          refine jx_aload dX11_entry_102 rfl ?_
          refine jx_getr dX11_entry_104 fl_X11_267 kj_18 sr_18_7 ?_
          refine jx_iload dX11_entry_107 rfl ?_
          refine jx_cVi (a := 33) (As := [.int x10]) (rest := []) dX11_entry_109 ml_X11_153 mv_X8_at (c_row_at (k := 0) kj_33 (by decide)) rfl rfl jc_33 (by decide) (Nat.le_of_ble_eq_true rfl) ?_
          cases hf
          exact jx_iret dX11_entry_112 rfl rfl
        rw [if_neg c13] at hf
        by_cases c14 : a3.toInt = 3
        · rw [if_pos c14] at hf
          refine jx_tableIn (off := 63) (tgt := 113) dX11_entry_50 (by omega) (by omega) (by rw [c14]; rfl) (by decide) ?_
          refine jx_aload dX11_entry_113 rfl ?_
          refine jx_getr dX11_entry_115 fl_X11_268 kj_18 sr_18_5 ?_
          refine jx_iload dX11_entry_118 rfl ?_
          refine jx_cVi (a := 29) (As := [.int x10]) (rest := []) dX11_entry_120 ml_X11_153 mv_X8_at (c_row_at (k := 0) kj_29 (by decide)) rfl rfl jc_29 (by decide) (Nat.le_of_ble_eq_true rfl) ?_
          cases hf
          exact jx_iret dX11_entry_123 rfl rfl
        rw [if_neg c14] at hf
        refine jx_tableOut (tgt := 124) dX11_entry_50 (by omega) (by decide) ?_
        refine jx_sipush (v := (-1000)) dX11_entry_124 (by decide) ?_
        cases hf
        exact jx_iret dX11_entry_127 rfl rfl
      · rw [if_neg c6] at hf
        refine jx_sipush (v := (-1000)) dX11_entry_35 (by decide) ?_
        cases hf
        exact jx_iret dX11_entry_38 rfl rfl
def f_X11_entriesByTime  (w : jw) : Option (Int32 × jw) := jbd2 (f_X2_now  w) fun x2 w3 => (if x2 ≤ 0 then some (0, w3) else jbd2 (f_X6_allEntries  w3) fun x6 w7 => jg (decide (¬ x2 = 0)) (some ((x6 * 1000) / x2, w7)))
set_option maxRecDepth 20000 in
set_option maxHeartbeats 2000000 in
theorem s_X11_entriesByTime {E : jE} (hE : jfull E)  {w w' : jw} {v : Int32} (hf : f_X11_entriesByTime  w = some (v, w')) : jC E m_X11_entriesByTime 2 [.ref (E.2.2.2 + 0)] w (some (.int v)) w' := by
  refine jC_of (ls := [(0, .ref (E.2.2.2 + 0))]) (by decide) rfl (fun _ => trivial) (Nat.le_of_ble_eq_true rfl) rfl ⟨.int, rfl, rfl⟩ ?_
  unfold f_X11_entriesByTime at hf
  refine jx_aload_n dX11_entriesByTime_0 rfl ?_
  refine jx_getr dX11_entriesByTime_1 fl_X11_39 kj_0 sr_0_4 ?_
  refine jx_getr dX11_entriesByTime_4 fl_X11_63 kj_17 sr_17_1 ?_
  obtain ⟨x2, w3, hq1, hf⟩ := jbd2_inv hf
  refine jx_cVi (a := 35) (As := []) (rest := []) dX11_entriesByTime_7 ml_X11_134 mv_X2_now (s_X2_now hE hq1) rfl rfl jc_35 (by decide) (Nat.le_of_ble_eq_true rfl) ?_
  refine jx_istore_n (ls' := [(0, .ref (E.2.2.2 + 0)), (1, .int x2)]) dX11_entriesByTime_10 (by decide) rfl ?_
  refine jx_iload_n dX11_entriesByTime_11 rfl ?_
  refine jx_if_le (tgt := 34) dX11_entriesByTime_12 (by decide) (fun c4 => ?_) (fun c4 => ?_)
  · rw [if_pos c4] at hf
    refine jx_iconst (v := 0) dX11_entriesByTime_34 (by decide) ?_
    cases hf
    exact jx_iret dX11_entriesByTime_35 rfl rfl
  · rw [if_neg c4] at hf
    refine jx_aload_n dX11_entriesByTime_15 rfl ?_
    refine jx_getr dX11_entriesByTime_16 fl_X11_39 kj_0 sr_0_4 ?_
    refine jx_getr dX11_entriesByTime_19 fl_X11_234 kj_17 sr_17_0 ?_
    obtain ⟨x6, w7, hq5, hf⟩ := jbd2_inv hf
    refine jx_cVi (a := 18) (As := []) (rest := []) dX11_entriesByTime_22 ml_X11_269 mv_X6_allEntries (s_X6_allEntries hE hq5) rfl rfl jc_18 (by decide) (Nat.le_of_ble_eq_true rfl) ?_
    refine jx_sipush (v := 1000) dX11_entriesByTime_25 (by decide) ?_
    refine jx_imul dX11_entriesByTime_28 ?_
    refine jx_iload_n dX11_entriesByTime_29 rfl ?_
    obtain ⟨c8, hf⟩ := jg_inv hf
    refine jx_idiv dX11_entriesByTime_30 (of_decide_eq_true c8) ?_
    refine jx_goto (tgt := 35) dX11_entriesByTime_31 (by decide) ?_
    cases hf
    exact jx_iret dX11_entriesByTime_35 rfl rfl
def f_X11_room (a1 : Int32) (w : jw) : Option (Int32 × jw) := (if a1.toInt = 0 then some (nI (w.2.2.2 19).length, w) else (if a1.toInt = 1 then jbd2 (f_X6_allEntries  w) fun x4 w5 => some (x4, w5) else (if a1.toInt = 2 then jbd2 (f_X6_endedPages  w) fun x8 w9 => some (x8, w9) else (if a1.toInt = 3 then some (nI (w.2.2.2 46).length, w) else (if a1.toInt = 4 then jbd2 (f_X6_copies  w) fun x13 w14 => some (x13, w14) else (if a1.toInt = 5 then jbd2 (f_X11_entriesByTime  w) fun x17 w18 => some (x17, w18) else some ((-1), w)))))))
set_option maxRecDepth 20000 in
set_option maxHeartbeats 2000000 in
theorem s_X11_room {E : jE} (hE : jfull E) {a1 : Int32} {w w' : jw} {v : Int32} (hf : f_X11_room a1 w = some (v, w')) : jC E m_X11_room 3 [.ref (E.2.2.2 + 0), .int a1] w (some (.int v)) w' := by
  refine jC_of (ls := [(0, .ref (E.2.2.2 + 0)), (1, .int a1)]) (by decide) rfl (fun _ => trivial) (Nat.le_of_ble_eq_true rfl) rfl ⟨.int, rfl, rfl⟩ ?_
  unfold f_X11_room at hf
  refine jx_iload_n dX11_room_0 rfl ?_
  by_cases c1 : a1.toInt = 0
  · rw [if_pos c1] at hf
    refine jx_tableIn (off := 39) (tgt := 40) dX11_room_1 (by omega) (by omega) (by rw [c1]; rfl) (by decide) ?_
    refine jx_aload_n dX11_room_40 rfl ?_
    refine jx_getr dX11_room_41 fl_X11_39 kj_0 sr_0_4 ?_
    refine jx_getr dX11_room_44 fl_X11_234 kj_17 sr_17_0 ?_
    refine jx_getr dX11_room_47 fl_X11_243 kj_18 sr_18_0 ?_
    refine jx_getn dX11_room_50 fl_X11_98 kj_19 (by decide) ?_
    cases hf
    exact jx_iret dX11_room_53 rfl rfl
  rw [if_neg c1] at hf
  by_cases c2 : a1.toInt = 1
  · rw [if_pos c2] at hf
    refine jx_tableIn (off := 53) (tgt := 54) dX11_room_1 (by omega) (by omega) (by rw [c2]; rfl) (by decide) ?_
    refine jx_aload_n dX11_room_54 rfl ?_
    refine jx_getr dX11_room_55 fl_X11_39 kj_0 sr_0_4 ?_
    refine jx_getr dX11_room_58 fl_X11_234 kj_17 sr_17_0 ?_
    obtain ⟨x4, w5, hq3, hf⟩ := jbd2_inv hf
    refine jx_cVi (a := 18) (As := []) (rest := []) dX11_room_61 ml_X11_269 mv_X6_allEntries (s_X6_allEntries hE hq3) rfl rfl jc_18 (by decide) (Nat.le_of_ble_eq_true rfl) ?_
    cases hf
    exact jx_iret dX11_room_64 rfl rfl
  rw [if_neg c2] at hf
  by_cases c6 : a1.toInt = 2
  · rw [if_pos c6] at hf
    refine jx_tableIn (off := 64) (tgt := 65) dX11_room_1 (by omega) (by omega) (by rw [c6]; rfl) (by decide) ?_
    refine jx_aload_n dX11_room_65 rfl ?_
    refine jx_getr dX11_room_66 fl_X11_39 kj_0 sr_0_4 ?_
    refine jx_getr dX11_room_69 fl_X11_234 kj_17 sr_17_0 ?_
    obtain ⟨x8, w9, hq7, hf⟩ := jbd2_inv hf
    refine jx_cVi (a := 18) (As := []) (rest := []) dX11_room_72 ml_X11_272 mv_X6_endedPages (s_X6_endedPages hE hq7) rfl rfl jc_18 (by decide) (Nat.le_of_ble_eq_true rfl) ?_
    cases hf
    exact jx_iret dX11_room_75 rfl rfl
  rw [if_neg c6] at hf
  by_cases c10 : a1.toInt = 3
  · rw [if_pos c10] at hf
    refine jx_tableIn (off := 75) (tgt := 76) dX11_room_1 (by omega) (by omega) (by rw [c10]; rfl) (by decide) ?_
    refine jx_aload_n dX11_room_76 rfl ?_
    refine jx_getr dX11_room_77 fl_X11_39 kj_0 sr_0_4 ?_
    refine jx_getr dX11_room_80 fl_X11_275 kj_17 sr_17_3 ?_
    refine jx_getn dX11_room_83 fl_X11_98 kj_46 (by decide) ?_
    cases hf
    exact jx_iret dX11_room_86 rfl rfl
  rw [if_neg c10] at hf
  by_cases c11 : a1.toInt = 4
  · rw [if_pos c11] at hf
    refine jx_tableIn (off := 86) (tgt := 87) dX11_room_1 (by omega) (by omega) (by rw [c11]; rfl) (by decide) ?_
    refine jx_aload_n dX11_room_87 rfl ?_
    refine jx_getr dX11_room_88 fl_X11_39 kj_0 sr_0_4 ?_
    refine jx_getr dX11_room_91 fl_X11_234 kj_17 sr_17_0 ?_
    obtain ⟨x13, w14, hq12, hf⟩ := jbd2_inv hf
    refine jx_cVi (a := 18) (As := []) (rest := []) dX11_room_94 ml_X11_278 mv_X6_copies (s_X6_copies hE hq12) rfl rfl jc_18 (by decide) (Nat.le_of_ble_eq_true rfl) ?_
    cases hf
    exact jx_iret dX11_room_97 rfl rfl
  rw [if_neg c11] at hf
  by_cases c15 : a1.toInt = 5
  · rw [if_pos c15] at hf
    refine jx_tableIn (off := 97) (tgt := 98) dX11_room_1 (by omega) (by omega) (by rw [c15]; rfl) (by decide) ?_
    refine jx_aload_n dX11_room_98 rfl ?_
    obtain ⟨x17, w18, hq16, hf⟩ := jbd2_inv hf
    refine jx_cVi (a := 0) (As := []) (rest := []) dX11_room_99 ml_X11_281 mv_X11_entriesByTime (s_X11_entriesByTime hE hq16) rfl rfl jc_0 (by decide) (Nat.le_of_ble_eq_true rfl) ?_
    cases hf
    exact jx_iret dX11_room_102 rfl rfl
  rw [if_neg c15] at hf
  refine jx_tableOut (tgt := 103) dX11_room_1 (by omega) (by decide) ?_
  refine jx_iconst (v := (-1)) dX11_room_103 (by decide) ?_
  cases hf
  exact jx_iret dX11_room_104 rfl rfl
def f_X11_hold (a1 : Int32) (w : jw) : Option (Bool × jw) := jbd2 (f_X11_isSlot a1 w) fun x2 w3 => (if (jb x2) = 0 then some (false, w3) else (if a1.toInt = 0 then jbd (f_X9_copyFrom_69_17  w3) fun q6 => (if a1.toInt = 0 then jl (jsetI q6 69 4 1) fun w8 => some (true, w8) else (if a1.toInt = 1 then jl (jsetI q6 100 4 1) fun w10 => some (true, w10) else (if a1.toInt = 2 then jl (jsetI q6 131 4 1) fun w12 => some (true, w12) else none))) else (if a1.toInt = 1 then jbd (f_X9_copyFrom_100_17  w3) fun q14 => (if a1.toInt = 0 then jl (jsetI q14 69 4 1) fun w16 => some (true, w16) else (if a1.toInt = 1 then jl (jsetI q14 100 4 1) fun w18 => some (true, w18) else (if a1.toInt = 2 then jl (jsetI q14 131 4 1) fun w20 => some (true, w20) else none))) else (if a1.toInt = 2 then jbd (f_X9_copyFrom_131_17  w3) fun q22 => (if a1.toInt = 0 then jl (jsetI q22 69 4 1) fun w24 => some (true, w24) else (if a1.toInt = 1 then jl (jsetI q22 100 4 1) fun w26 => some (true, w26) else (if a1.toInt = 2 then jl (jsetI q22 131 4 1) fun w28 => some (true, w28) else none))) else none))))
set_option maxRecDepth 20000 in
set_option maxHeartbeats 2000000 in
theorem s_X11_hold {E : jE} (hE : jfull E) {a1 : Int32} {w w' : jw} {v : Bool} (hf : f_X11_hold a1 w = some (v, w')) : jC E m_X11_hold 4 [.ref (E.2.2.2 + 0), .int a1] w (some (.int (jb v))) w' := by
  refine jC_of (ls := [(0, .ref (E.2.2.2 + 0)), (1, .int a1)]) (by decide) rfl (fun _ => trivial) (Nat.le_of_ble_eq_true rfl) rfl jb_ans ?_
  unfold f_X11_hold at hf
  refine jx_aload_n dX11_hold_0 rfl ?_
  refine jx_iload_n dX11_hold_1 rfl ?_
  obtain ⟨x2, w3, hq1, hf⟩ := jbd2_inv hf
  refine jx_cVi (a := 0) (As := [.int a1]) (rest := []) dX11_hold_2 ml_X11_284 mv_X11_isSlot (s_X11_isSlot hE hq1) rfl rfl jc_0 (by decide) (Nat.le_of_ble_eq_true rfl) ?_
  refine jx_if_ne (tgt := 10) dX11_hold_5 (by decide) (fun c4 => ?_) (fun c4 => ?_)
  · rw [if_neg c4] at hf
    refine jx_aload_n dX11_hold_10 rfl ?_
    refine jx_getr dX11_hold_11 fl_X11_81 kj_0 sr_0_8 ?_
    refine jx_iload_n dX11_hold_14 rfl ?_
    by_cases c5 : a1.toInt = 0
    · rw [if_pos c5] at hf
      refine jx_aald3 (j := 0) dX11_hold_15 kj_68 c5 (by decide) ?_
      refine jx_aload_n dX11_hold_16 rfl ?_
      refine jx_getr dX11_hold_17 fl_X11_39 kj_0 sr_0_4 ?_
      obtain ⟨q6, hq6, hf⟩ := jbd_inv hf
      refine jx_cVv (a := 69) (As := [.ref (E.2.2.2 + 17)]) (rest := []) dX11_hold_20 ml_X11_287 mv_X9_copyFrom (s_X9_copyFrom_69_17 hE hq6) rfl rfl jc_69 (by decide) (Nat.le_of_ble_eq_true rfl) ?_
      refine jx_aload_n dX11_hold_23 rfl ?_
      refine jx_getr dX11_hold_24 fl_X11_81 kj_0 sr_0_8 ?_
      refine jx_iload_n dX11_hold_27 rfl ?_
      by_cases c7 : a1.toInt = 0
      · rw [if_pos c7] at hf
        refine jx_aald3 (j := 0) dX11_hold_28 kj_68 c7 (by decide) ?_
        refine jx_iconst (v := 1) dX11_hold_29 (by decide) ?_
        refine jx_puti dX11_hold_30 fp_X11_290 kj_69 sr_69_4 rfl rfl ?_
        obtain ⟨w8, hw8, hf⟩ := jl_inv hf
        refine jx_nw hw8 ?_
        refine jx_iconst (v := 1) dX11_hold_33 (by decide) ?_
        cases hf
        exact jx_iret dX11_hold_34 rfl rfl
      rw [if_neg c7] at hf
      by_cases c9 : a1.toInt = 1
      · rw [if_pos c9] at hf
        refine jx_aald3 (j := 1) dX11_hold_28 kj_68 c9 (by decide) ?_
        refine jx_iconst (v := 1) dX11_hold_29 (by decide) ?_
        refine jx_puti dX11_hold_30 fp_X11_290 kj_100 sr_100_4 rfl rfl ?_
        obtain ⟨w10, hw10, hf⟩ := jl_inv hf
        refine jx_nw hw10 ?_
        refine jx_iconst (v := 1) dX11_hold_33 (by decide) ?_
        cases hf
        exact jx_iret dX11_hold_34 rfl rfl
      rw [if_neg c9] at hf
      by_cases c11 : a1.toInt = 2
      · rw [if_pos c11] at hf
        refine jx_aald3 (j := 2) dX11_hold_28 kj_68 c11 (by decide) ?_
        refine jx_iconst (v := 1) dX11_hold_29 (by decide) ?_
        refine jx_puti dX11_hold_30 fp_X11_290 kj_131 sr_131_4 rfl rfl ?_
        obtain ⟨w12, hw12, hf⟩ := jl_inv hf
        refine jx_nw hw12 ?_
        refine jx_iconst (v := 1) dX11_hold_33 (by decide) ?_
        cases hf
        exact jx_iret dX11_hold_34 rfl rfl
      rw [if_neg c11] at hf
      cases hf
    rw [if_neg c5] at hf
    by_cases c13 : a1.toInt = 1
    · rw [if_pos c13] at hf
      refine jx_aald3 (j := 1) dX11_hold_15 kj_68 c13 (by decide) ?_
      refine jx_aload_n dX11_hold_16 rfl ?_
      refine jx_getr dX11_hold_17 fl_X11_39 kj_0 sr_0_4 ?_
      obtain ⟨q14, hq14, hf⟩ := jbd_inv hf
      refine jx_cVv (a := 100) (As := [.ref (E.2.2.2 + 17)]) (rest := []) dX11_hold_20 ml_X11_287 mv_X9_copyFrom (s_X9_copyFrom_100_17 hE hq14) rfl rfl jc_100 (by decide) (Nat.le_of_ble_eq_true rfl) ?_
      refine jx_aload_n dX11_hold_23 rfl ?_
      refine jx_getr dX11_hold_24 fl_X11_81 kj_0 sr_0_8 ?_
      refine jx_iload_n dX11_hold_27 rfl ?_
      by_cases c15 : a1.toInt = 0
      · rw [if_pos c15] at hf
        refine jx_aald3 (j := 0) dX11_hold_28 kj_68 c15 (by decide) ?_
        refine jx_iconst (v := 1) dX11_hold_29 (by decide) ?_
        refine jx_puti dX11_hold_30 fp_X11_290 kj_69 sr_69_4 rfl rfl ?_
        obtain ⟨w16, hw16, hf⟩ := jl_inv hf
        refine jx_nw hw16 ?_
        refine jx_iconst (v := 1) dX11_hold_33 (by decide) ?_
        cases hf
        exact jx_iret dX11_hold_34 rfl rfl
      rw [if_neg c15] at hf
      by_cases c17 : a1.toInt = 1
      · rw [if_pos c17] at hf
        refine jx_aald3 (j := 1) dX11_hold_28 kj_68 c17 (by decide) ?_
        refine jx_iconst (v := 1) dX11_hold_29 (by decide) ?_
        refine jx_puti dX11_hold_30 fp_X11_290 kj_100 sr_100_4 rfl rfl ?_
        obtain ⟨w18, hw18, hf⟩ := jl_inv hf
        refine jx_nw hw18 ?_
        refine jx_iconst (v := 1) dX11_hold_33 (by decide) ?_
        cases hf
        exact jx_iret dX11_hold_34 rfl rfl
      rw [if_neg c17] at hf
      by_cases c19 : a1.toInt = 2
      · rw [if_pos c19] at hf
        refine jx_aald3 (j := 2) dX11_hold_28 kj_68 c19 (by decide) ?_
        refine jx_iconst (v := 1) dX11_hold_29 (by decide) ?_
        refine jx_puti dX11_hold_30 fp_X11_290 kj_131 sr_131_4 rfl rfl ?_
        obtain ⟨w20, hw20, hf⟩ := jl_inv hf
        refine jx_nw hw20 ?_
        refine jx_iconst (v := 1) dX11_hold_33 (by decide) ?_
        cases hf
        exact jx_iret dX11_hold_34 rfl rfl
      rw [if_neg c19] at hf
      cases hf
    rw [if_neg c13] at hf
    by_cases c21 : a1.toInt = 2
    · rw [if_pos c21] at hf
      refine jx_aald3 (j := 2) dX11_hold_15 kj_68 c21 (by decide) ?_
      refine jx_aload_n dX11_hold_16 rfl ?_
      refine jx_getr dX11_hold_17 fl_X11_39 kj_0 sr_0_4 ?_
      obtain ⟨q22, hq22, hf⟩ := jbd_inv hf
      refine jx_cVv (a := 131) (As := [.ref (E.2.2.2 + 17)]) (rest := []) dX11_hold_20 ml_X11_287 mv_X9_copyFrom (s_X9_copyFrom_131_17 hE hq22) rfl rfl jc_131 (by decide) (Nat.le_of_ble_eq_true rfl) ?_
      refine jx_aload_n dX11_hold_23 rfl ?_
      refine jx_getr dX11_hold_24 fl_X11_81 kj_0 sr_0_8 ?_
      refine jx_iload_n dX11_hold_27 rfl ?_
      by_cases c23 : a1.toInt = 0
      · rw [if_pos c23] at hf
        refine jx_aald3 (j := 0) dX11_hold_28 kj_68 c23 (by decide) ?_
        refine jx_iconst (v := 1) dX11_hold_29 (by decide) ?_
        refine jx_puti dX11_hold_30 fp_X11_290 kj_69 sr_69_4 rfl rfl ?_
        obtain ⟨w24, hw24, hf⟩ := jl_inv hf
        refine jx_nw hw24 ?_
        refine jx_iconst (v := 1) dX11_hold_33 (by decide) ?_
        cases hf
        exact jx_iret dX11_hold_34 rfl rfl
      rw [if_neg c23] at hf
      by_cases c25 : a1.toInt = 1
      · rw [if_pos c25] at hf
        refine jx_aald3 (j := 1) dX11_hold_28 kj_68 c25 (by decide) ?_
        refine jx_iconst (v := 1) dX11_hold_29 (by decide) ?_
        refine jx_puti dX11_hold_30 fp_X11_290 kj_100 sr_100_4 rfl rfl ?_
        obtain ⟨w26, hw26, hf⟩ := jl_inv hf
        refine jx_nw hw26 ?_
        refine jx_iconst (v := 1) dX11_hold_33 (by decide) ?_
        cases hf
        exact jx_iret dX11_hold_34 rfl rfl
      rw [if_neg c25] at hf
      by_cases c27 : a1.toInt = 2
      · rw [if_pos c27] at hf
        refine jx_aald3 (j := 2) dX11_hold_28 kj_68 c27 (by decide) ?_
        refine jx_iconst (v := 1) dX11_hold_29 (by decide) ?_
        refine jx_puti dX11_hold_30 fp_X11_290 kj_131 sr_131_4 rfl rfl ?_
        obtain ⟨w28, hw28, hf⟩ := jl_inv hf
        refine jx_nw hw28 ?_
        refine jx_iconst (v := 1) dX11_hold_33 (by decide) ?_
        cases hf
        exact jx_iret dX11_hold_34 rfl rfl
      rw [if_neg c27] at hf
      cases hf
    rw [if_neg c21] at hf
    cases hf
  · rw [if_pos c4] at hf
    refine jx_iconst (v := 0) dX11_hold_8 (by decide) ?_
    cases hf
    exact jx_iret dX11_hold_9 rfl rfl
def f_X11_restore (a1 : Int32) (w : jw) : Option (Bool × jw) := jbd2 (f_X11_isSlot a1 w) fun x2 w3 => (if (jb x2) = 0 then some (false, w3) else (if a1.toInt = 0 then (if (w3.1 69 4) = 0 then some (false, w3) else (if a1.toInt = 0 then jbd (f_X9_copyFrom_17_69  w3) fun q8 => some (true, q8) else (if a1.toInt = 1 then jbd (f_X9_copyFrom_17_100  w3) fun q10 => some (true, q10) else (if a1.toInt = 2 then jbd (f_X9_copyFrom_17_131  w3) fun q12 => some (true, q12) else none)))) else (if a1.toInt = 1 then (if (w3.1 100 4) = 0 then some (false, w3) else (if a1.toInt = 0 then jbd (f_X9_copyFrom_17_69  w3) fun q16 => some (true, q16) else (if a1.toInt = 1 then jbd (f_X9_copyFrom_17_100  w3) fun q18 => some (true, q18) else (if a1.toInt = 2 then jbd (f_X9_copyFrom_17_131  w3) fun q20 => some (true, q20) else none)))) else (if a1.toInt = 2 then (if (w3.1 131 4) = 0 then some (false, w3) else (if a1.toInt = 0 then jbd (f_X9_copyFrom_17_69  w3) fun q24 => some (true, q24) else (if a1.toInt = 1 then jbd (f_X9_copyFrom_17_100  w3) fun q26 => some (true, q26) else (if a1.toInt = 2 then jbd (f_X9_copyFrom_17_131  w3) fun q28 => some (true, q28) else none)))) else none))))
set_option maxRecDepth 20000 in
set_option maxHeartbeats 2000000 in
theorem s_X11_restore {E : jE} (hE : jfull E) {a1 : Int32} {w w' : jw} {v : Bool} (hf : f_X11_restore a1 w = some (v, w')) : jC E m_X11_restore 4 [.ref (E.2.2.2 + 0), .int a1] w (some (.int (jb v))) w' := by
  refine jC_of (ls := [(0, .ref (E.2.2.2 + 0)), (1, .int a1)]) (by decide) rfl (fun _ => trivial) (Nat.le_of_ble_eq_true rfl) rfl jb_ans ?_
  unfold f_X11_restore at hf
  refine jx_aload_n dX11_restore_0 rfl ?_
  refine jx_iload_n dX11_restore_1 rfl ?_
  obtain ⟨x2, w3, hq1, hf⟩ := jbd2_inv hf
  refine jx_cVi (a := 0) (As := [.int a1]) (rest := []) dX11_restore_2 ml_X11_284 mv_X11_isSlot (s_X11_isSlot hE hq1) rfl rfl jc_0 (by decide) (Nat.le_of_ble_eq_true rfl) ?_
  refine jx_if_eq (tgt := 20) dX11_restore_5 (by decide) (fun c4 => ?_) (fun c4 => ?_)
  · rw [if_pos c4] at hf
    refine jx_iconst (v := 0) dX11_restore_20 (by decide) ?_
    cases hf
    exact jx_iret dX11_restore_21 rfl rfl
  · rw [if_neg c4] at hf
    refine jx_aload_n dX11_restore_8 rfl ?_
    refine jx_getr dX11_restore_9 fl_X11_81 kj_0 sr_0_8 ?_
    refine jx_iload_n dX11_restore_12 rfl ?_
    by_cases c5 : a1.toInt = 0
    · rw [if_pos c5] at hf
      refine jx_aald3 (j := 0) dX11_restore_13 kj_68 c5 (by decide) ?_
      refine jx_geti dX11_restore_14 fl_X11_290 kj_69 sr_69_4 ?_
      refine jx_if_ne (tgt := 22) dX11_restore_17 (by decide) (fun c6 => ?_) (fun c6 => ?_)
      · rw [if_neg c6] at hf
        refine jx_aload_n dX11_restore_22 rfl ?_
        refine jx_getr dX11_restore_23 fl_X11_39 kj_0 sr_0_4 ?_
        refine jx_aload_n dX11_restore_26 rfl ?_
        refine jx_getr dX11_restore_27 fl_X11_81 kj_0 sr_0_8 ?_
        refine jx_iload_n dX11_restore_30 rfl ?_
        by_cases c7 : a1.toInt = 0
        · rw [if_pos c7] at hf
          refine jx_aald3 (j := 0) dX11_restore_31 kj_68 c7 (by decide) ?_
          obtain ⟨q8, hq8, hf⟩ := jbd_inv hf
          refine jx_cVv (a := 17) (As := [.ref (E.2.2.2 + 69)]) (rest := []) dX11_restore_32 ml_X11_287 mv_X9_copyFrom (s_X9_copyFrom_17_69 hE hq8) rfl rfl jc_17 (by decide) (Nat.le_of_ble_eq_true rfl) ?_
          refine jx_iconst (v := 1) dX11_restore_35 (by decide) ?_
          cases hf
          exact jx_iret dX11_restore_36 rfl rfl
        rw [if_neg c7] at hf
        by_cases c9 : a1.toInt = 1
        · rw [if_pos c9] at hf
          refine jx_aald3 (j := 1) dX11_restore_31 kj_68 c9 (by decide) ?_
          obtain ⟨q10, hq10, hf⟩ := jbd_inv hf
          refine jx_cVv (a := 17) (As := [.ref (E.2.2.2 + 100)]) (rest := []) dX11_restore_32 ml_X11_287 mv_X9_copyFrom (s_X9_copyFrom_17_100 hE hq10) rfl rfl jc_17 (by decide) (Nat.le_of_ble_eq_true rfl) ?_
          refine jx_iconst (v := 1) dX11_restore_35 (by decide) ?_
          cases hf
          exact jx_iret dX11_restore_36 rfl rfl
        rw [if_neg c9] at hf
        by_cases c11 : a1.toInt = 2
        · rw [if_pos c11] at hf
          refine jx_aald3 (j := 2) dX11_restore_31 kj_68 c11 (by decide) ?_
          obtain ⟨q12, hq12, hf⟩ := jbd_inv hf
          refine jx_cVv (a := 17) (As := [.ref (E.2.2.2 + 131)]) (rest := []) dX11_restore_32 ml_X11_287 mv_X9_copyFrom (s_X9_copyFrom_17_131 hE hq12) rfl rfl jc_17 (by decide) (Nat.le_of_ble_eq_true rfl) ?_
          refine jx_iconst (v := 1) dX11_restore_35 (by decide) ?_
          cases hf
          exact jx_iret dX11_restore_36 rfl rfl
        rw [if_neg c11] at hf
        cases hf
      · rw [if_pos c6] at hf
        refine jx_iconst (v := 0) dX11_restore_20 (by decide) ?_
        cases hf
        exact jx_iret dX11_restore_21 rfl rfl
    rw [if_neg c5] at hf
    by_cases c13 : a1.toInt = 1
    · rw [if_pos c13] at hf
      refine jx_aald3 (j := 1) dX11_restore_13 kj_68 c13 (by decide) ?_
      refine jx_geti dX11_restore_14 fl_X11_290 kj_100 sr_100_4 ?_
      refine jx_if_ne (tgt := 22) dX11_restore_17 (by decide) (fun c14 => ?_) (fun c14 => ?_)
      · rw [if_neg c14] at hf
        refine jx_aload_n dX11_restore_22 rfl ?_
        refine jx_getr dX11_restore_23 fl_X11_39 kj_0 sr_0_4 ?_
        refine jx_aload_n dX11_restore_26 rfl ?_
        refine jx_getr dX11_restore_27 fl_X11_81 kj_0 sr_0_8 ?_
        refine jx_iload_n dX11_restore_30 rfl ?_
        by_cases c15 : a1.toInt = 0
        · rw [if_pos c15] at hf
          refine jx_aald3 (j := 0) dX11_restore_31 kj_68 c15 (by decide) ?_
          obtain ⟨q16, hq16, hf⟩ := jbd_inv hf
          refine jx_cVv (a := 17) (As := [.ref (E.2.2.2 + 69)]) (rest := []) dX11_restore_32 ml_X11_287 mv_X9_copyFrom (s_X9_copyFrom_17_69 hE hq16) rfl rfl jc_17 (by decide) (Nat.le_of_ble_eq_true rfl) ?_
          refine jx_iconst (v := 1) dX11_restore_35 (by decide) ?_
          cases hf
          exact jx_iret dX11_restore_36 rfl rfl
        rw [if_neg c15] at hf
        by_cases c17 : a1.toInt = 1
        · rw [if_pos c17] at hf
          refine jx_aald3 (j := 1) dX11_restore_31 kj_68 c17 (by decide) ?_
          obtain ⟨q18, hq18, hf⟩ := jbd_inv hf
          refine jx_cVv (a := 17) (As := [.ref (E.2.2.2 + 100)]) (rest := []) dX11_restore_32 ml_X11_287 mv_X9_copyFrom (s_X9_copyFrom_17_100 hE hq18) rfl rfl jc_17 (by decide) (Nat.le_of_ble_eq_true rfl) ?_
          refine jx_iconst (v := 1) dX11_restore_35 (by decide) ?_
          cases hf
          exact jx_iret dX11_restore_36 rfl rfl
        rw [if_neg c17] at hf
        by_cases c19 : a1.toInt = 2
        · rw [if_pos c19] at hf
          refine jx_aald3 (j := 2) dX11_restore_31 kj_68 c19 (by decide) ?_
          obtain ⟨q20, hq20, hf⟩ := jbd_inv hf
          refine jx_cVv (a := 17) (As := [.ref (E.2.2.2 + 131)]) (rest := []) dX11_restore_32 ml_X11_287 mv_X9_copyFrom (s_X9_copyFrom_17_131 hE hq20) rfl rfl jc_17 (by decide) (Nat.le_of_ble_eq_true rfl) ?_
          refine jx_iconst (v := 1) dX11_restore_35 (by decide) ?_
          cases hf
          exact jx_iret dX11_restore_36 rfl rfl
        rw [if_neg c19] at hf
        cases hf
      · rw [if_pos c14] at hf
        refine jx_iconst (v := 0) dX11_restore_20 (by decide) ?_
        cases hf
        exact jx_iret dX11_restore_21 rfl rfl
    rw [if_neg c13] at hf
    by_cases c21 : a1.toInt = 2
    · rw [if_pos c21] at hf
      refine jx_aald3 (j := 2) dX11_restore_13 kj_68 c21 (by decide) ?_
      refine jx_geti dX11_restore_14 fl_X11_290 kj_131 sr_131_4 ?_
      refine jx_if_ne (tgt := 22) dX11_restore_17 (by decide) (fun c22 => ?_) (fun c22 => ?_)
      · rw [if_neg c22] at hf
        refine jx_aload_n dX11_restore_22 rfl ?_
        refine jx_getr dX11_restore_23 fl_X11_39 kj_0 sr_0_4 ?_
        refine jx_aload_n dX11_restore_26 rfl ?_
        refine jx_getr dX11_restore_27 fl_X11_81 kj_0 sr_0_8 ?_
        refine jx_iload_n dX11_restore_30 rfl ?_
        by_cases c23 : a1.toInt = 0
        · rw [if_pos c23] at hf
          refine jx_aald3 (j := 0) dX11_restore_31 kj_68 c23 (by decide) ?_
          obtain ⟨q24, hq24, hf⟩ := jbd_inv hf
          refine jx_cVv (a := 17) (As := [.ref (E.2.2.2 + 69)]) (rest := []) dX11_restore_32 ml_X11_287 mv_X9_copyFrom (s_X9_copyFrom_17_69 hE hq24) rfl rfl jc_17 (by decide) (Nat.le_of_ble_eq_true rfl) ?_
          refine jx_iconst (v := 1) dX11_restore_35 (by decide) ?_
          cases hf
          exact jx_iret dX11_restore_36 rfl rfl
        rw [if_neg c23] at hf
        by_cases c25 : a1.toInt = 1
        · rw [if_pos c25] at hf
          refine jx_aald3 (j := 1) dX11_restore_31 kj_68 c25 (by decide) ?_
          obtain ⟨q26, hq26, hf⟩ := jbd_inv hf
          refine jx_cVv (a := 17) (As := [.ref (E.2.2.2 + 100)]) (rest := []) dX11_restore_32 ml_X11_287 mv_X9_copyFrom (s_X9_copyFrom_17_100 hE hq26) rfl rfl jc_17 (by decide) (Nat.le_of_ble_eq_true rfl) ?_
          refine jx_iconst (v := 1) dX11_restore_35 (by decide) ?_
          cases hf
          exact jx_iret dX11_restore_36 rfl rfl
        rw [if_neg c25] at hf
        by_cases c27 : a1.toInt = 2
        · rw [if_pos c27] at hf
          refine jx_aald3 (j := 2) dX11_restore_31 kj_68 c27 (by decide) ?_
          obtain ⟨q28, hq28, hf⟩ := jbd_inv hf
          refine jx_cVv (a := 17) (As := [.ref (E.2.2.2 + 131)]) (rest := []) dX11_restore_32 ml_X11_287 mv_X9_copyFrom (s_X9_copyFrom_17_131 hE hq28) rfl rfl jc_17 (by decide) (Nat.le_of_ble_eq_true rfl) ?_
          refine jx_iconst (v := 1) dX11_restore_35 (by decide) ?_
          cases hf
          exact jx_iret dX11_restore_36 rfl rfl
        rw [if_neg c27] at hf
        cases hf
      · rw [if_pos c22] at hf
        refine jx_iconst (v := 0) dX11_restore_20 (by decide) ?_
        cases hf
        exact jx_iret dX11_restore_21 rfl rfl
    rw [if_neg c21] at hf
    cases hf
def l_X11_filledSlots : Nat → Int32 → Int32 → jw → Option (Int32 × jw)
  | 0, _, _, _ => none
  | n + 1, b1, b2, w => (if 3 ≤ b2 then some (b1, w) else jbd2 (f_X11_isSlot b2 w) fun x3 w4 => (if (jb x3) = 0 then jl (b2 + 1) fun x6 => (l_X11_filledSlots n b1 x6 w4) else (if b2.toInt = 0 then (if (w4.1 69 4) = 0 then jl (b2 + 1) fun x9 => (l_X11_filledSlots n b1 x9 w4) else jl (b1 + 1) fun x10 => jl (b2 + 1) fun x11 => (l_X11_filledSlots n x10 x11 w4)) else (if b2.toInt = 1 then (if (w4.1 100 4) = 0 then jl (b2 + 1) fun x14 => (l_X11_filledSlots n b1 x14 w4) else jl (b1 + 1) fun x15 => jl (b2 + 1) fun x16 => (l_X11_filledSlots n x15 x16 w4)) else (if b2.toInt = 2 then (if (w4.1 131 4) = 0 then jl (b2 + 1) fun x19 => (l_X11_filledSlots n b1 x19 w4) else jl (b1 + 1) fun x20 => jl (b2 + 1) fun x21 => (l_X11_filledSlots n x20 x21 w4)) else none)))))
set_option maxRecDepth 20000 in
set_option maxHeartbeats 2000000 in
theorem sl_X11_filledSlots {E : jE} (hE : jfull E) : ∀ (n : Nat) (b1 : Int32) (b2 : Int32) (w : jw) (v : Int32) (w' : jw), l_X11_filledSlots n b1 b2 w = some (v, w') → jX E m_X11_filledSlots 1 4 [(0, .ref (E.2.2.2 + 0)), (1, .int b1), (2, .int b2)] [] w (some (.int v)) w' := by
  intro n
  induction n with
  | zero => intro b1 b2 w v w' hf; cases hf
  | succ n ih =>
    intro b1 b2 w v w' hf
    unfold l_X11_filledSlots at hf
    refine jx_iload_n dX11_filledSlots_4 rfl ?_
    refine jx_iconst (v := 3) dX11_filledSlots_5 (by decide) ?_
    refine jx_icmp_ge (tgt := 38) dX11_filledSlots_6 (by decide) (fun c1 => ?_) (fun c1 => ?_)
    · rw [if_pos c1] at hf
      refine jx_iload_n dX11_filledSlots_38 rfl ?_
      cases hf
      exact jx_iret dX11_filledSlots_39 rfl rfl
    · rw [if_neg c1] at hf
      refine jx_aload_n dX11_filledSlots_9 rfl ?_
      refine jx_iload_n dX11_filledSlots_10 rfl ?_
      obtain ⟨x3, w4, hq2, hf⟩ := jbd2_inv hf
      refine jx_cVi (a := 0) (As := [.int b2]) (rest := []) dX11_filledSlots_11 ml_X11_284 mv_X11_isSlot (s_X11_isSlot hE hq2) rfl rfl jc_0 (by decide) (Nat.le_of_ble_eq_true rfl) ?_
      refine jx_if_eq (tgt := 32) dX11_filledSlots_14 (by decide) (fun c5 => ?_) (fun c5 => ?_)
      · rw [if_pos c5] at hf
        obtain ⟨x6, hx6, hf⟩ := jl_inv hf
        refine jx_iinc (v := x6) (ls' := [(0, .ref (E.2.2.2 + 0)), (1, .int b1), (2, .int x6)]) dX11_filledSlots_32 rfl (by rw [hx6]; rfl) (by decide) rfl ?_
        refine jx_goto (tgt := 4) dX11_filledSlots_35 (by decide) ?_
        exact ih _ _ _ _ _ hf
      · rw [if_neg c5] at hf
        refine jx_aload_n dX11_filledSlots_17 rfl ?_
        refine jx_getr dX11_filledSlots_18 fl_X11_81 kj_0 sr_0_8 ?_
        refine jx_iload_n dX11_filledSlots_21 rfl ?_
        by_cases c7 : b2.toInt = 0
        · rw [if_pos c7] at hf
          refine jx_aald3 (j := 0) dX11_filledSlots_22 kj_68 c7 (by decide) ?_
          refine jx_geti dX11_filledSlots_23 fl_X11_290 kj_69 sr_69_4 ?_
          refine jx_if_eq (tgt := 32) dX11_filledSlots_26 (by decide) (fun c8 => ?_) (fun c8 => ?_)
          · rw [if_pos c8] at hf
            obtain ⟨x9, hx9, hf⟩ := jl_inv hf
            refine jx_iinc (v := x9) (ls' := [(0, .ref (E.2.2.2 + 0)), (1, .int b1), (2, .int x9)]) dX11_filledSlots_32 rfl (by rw [hx9]; rfl) (by decide) rfl ?_
            refine jx_goto (tgt := 4) dX11_filledSlots_35 (by decide) ?_
            exact ih _ _ _ _ _ hf
          · rw [if_neg c8] at hf
            obtain ⟨x10, hx10, hf⟩ := jl_inv hf
            refine jx_iinc (v := x10) (ls' := [(0, .ref (E.2.2.2 + 0)), (1, .int x10), (2, .int b2)]) dX11_filledSlots_29 rfl (by rw [hx10]; rfl) (by decide) rfl ?_
            obtain ⟨x11, hx11, hf⟩ := jl_inv hf
            refine jx_iinc (v := x11) (ls' := [(0, .ref (E.2.2.2 + 0)), (1, .int x10), (2, .int x11)]) dX11_filledSlots_32 rfl (by rw [hx11]; rfl) (by decide) rfl ?_
            refine jx_goto (tgt := 4) dX11_filledSlots_35 (by decide) ?_
            exact ih _ _ _ _ _ hf
        rw [if_neg c7] at hf
        by_cases c12 : b2.toInt = 1
        · rw [if_pos c12] at hf
          refine jx_aald3 (j := 1) dX11_filledSlots_22 kj_68 c12 (by decide) ?_
          refine jx_geti dX11_filledSlots_23 fl_X11_290 kj_100 sr_100_4 ?_
          refine jx_if_eq (tgt := 32) dX11_filledSlots_26 (by decide) (fun c13 => ?_) (fun c13 => ?_)
          · rw [if_pos c13] at hf
            obtain ⟨x14, hx14, hf⟩ := jl_inv hf
            refine jx_iinc (v := x14) (ls' := [(0, .ref (E.2.2.2 + 0)), (1, .int b1), (2, .int x14)]) dX11_filledSlots_32 rfl (by rw [hx14]; rfl) (by decide) rfl ?_
            refine jx_goto (tgt := 4) dX11_filledSlots_35 (by decide) ?_
            exact ih _ _ _ _ _ hf
          · rw [if_neg c13] at hf
            obtain ⟨x15, hx15, hf⟩ := jl_inv hf
            refine jx_iinc (v := x15) (ls' := [(0, .ref (E.2.2.2 + 0)), (1, .int x15), (2, .int b2)]) dX11_filledSlots_29 rfl (by rw [hx15]; rfl) (by decide) rfl ?_
            obtain ⟨x16, hx16, hf⟩ := jl_inv hf
            refine jx_iinc (v := x16) (ls' := [(0, .ref (E.2.2.2 + 0)), (1, .int x15), (2, .int x16)]) dX11_filledSlots_32 rfl (by rw [hx16]; rfl) (by decide) rfl ?_
            refine jx_goto (tgt := 4) dX11_filledSlots_35 (by decide) ?_
            exact ih _ _ _ _ _ hf
        rw [if_neg c12] at hf
        by_cases c17 : b2.toInt = 2
        · rw [if_pos c17] at hf
          refine jx_aald3 (j := 2) dX11_filledSlots_22 kj_68 c17 (by decide) ?_
          refine jx_geti dX11_filledSlots_23 fl_X11_290 kj_131 sr_131_4 ?_
          refine jx_if_eq (tgt := 32) dX11_filledSlots_26 (by decide) (fun c18 => ?_) (fun c18 => ?_)
          · rw [if_pos c18] at hf
            obtain ⟨x19, hx19, hf⟩ := jl_inv hf
            refine jx_iinc (v := x19) (ls' := [(0, .ref (E.2.2.2 + 0)), (1, .int b1), (2, .int x19)]) dX11_filledSlots_32 rfl (by rw [hx19]; rfl) (by decide) rfl ?_
            refine jx_goto (tgt := 4) dX11_filledSlots_35 (by decide) ?_
            exact ih _ _ _ _ _ hf
          · rw [if_neg c18] at hf
            obtain ⟨x20, hx20, hf⟩ := jl_inv hf
            refine jx_iinc (v := x20) (ls' := [(0, .ref (E.2.2.2 + 0)), (1, .int x20), (2, .int b2)]) dX11_filledSlots_29 rfl (by rw [hx20]; rfl) (by decide) rfl ?_
            obtain ⟨x21, hx21, hf⟩ := jl_inv hf
            refine jx_iinc (v := x21) (ls' := [(0, .ref (E.2.2.2 + 0)), (1, .int x20), (2, .int x21)]) dX11_filledSlots_32 rfl (by rw [hx21]; rfl) (by decide) rfl ?_
            refine jx_goto (tgt := 4) dX11_filledSlots_35 (by decide) ?_
            exact ih _ _ _ _ _ hf
        rw [if_neg c17] at hf
        cases hf
def f_X11_filledSlots  (w : jw) : Option (Int32 × jw) := (l_X11_filledSlots jfu 0 0 w)
set_option maxRecDepth 20000 in
set_option maxHeartbeats 2000000 in
theorem s_X11_filledSlots {E : jE} (hE : jfull E)  {w w' : jw} {v : Int32} (hf : f_X11_filledSlots  w = some (v, w')) : jC E m_X11_filledSlots 1 [.ref (E.2.2.2 + 0)] w (some (.int v)) w' := by
  refine jC_of (ls := [(0, .ref (E.2.2.2 + 0))]) (by decide) rfl (fun _ => trivial) (Nat.le_of_ble_eq_true rfl) rfl ⟨.int, rfl, rfl⟩ ?_
  unfold f_X11_filledSlots at hf
  refine jx_iconst (v := 0) dX11_filledSlots_0 (by decide) ?_
  refine jx_istore_n (ls' := [(0, .ref (E.2.2.2 + 0)), (1, .int 0)]) dX11_filledSlots_1 (by decide) rfl ?_
  refine jx_iconst (v := 0) dX11_filledSlots_2 (by decide) ?_
  refine jx_istore_n (ls' := [(0, .ref (E.2.2.2 + 0)), (1, .int 0), (2, .int 0)]) dX11_filledSlots_3 (by decide) rfl ?_
  exact sl_X11_filledSlots hE jfu _ _ _ _ _ hf
def f_X11_count (a1 : Int32) (w : jw) : Option (Int32 × jw) := jbd2 (f_X2_now  w) fun x2 w3 => (if a1.toInt = 0 then some (x2, w3) else (if a1.toInt = 1 then some (w3.1 35 4, w3) else (if a1.toInt = 2 then some (w3.1 18 8, w3) else (if a1.toInt = 3 then jbd2 (f_X6_weak  w3) fun x9 w10 => some (x9, w10) else (if a1.toInt = 4 then some (w3.1 0 10, w3) else (if a1.toInt = 5 then some (w3.1 0 11, w3) else (if a1.toInt = 6 then some (nI (w3.2.2.2 1).length, w3) else (if a1.toInt = 7 then jbd2 (f_X11_filledSlots  w3) fun x16 w17 => some (x16, w17) else (if a1.toInt = 8 then jbd2 (f_X3_fromKeyDown 999 x2 w3) fun x20 w21 => some (x20, w21) else (if a1.toInt = 9 then jbd2 (f_X3_fromKeyUp 0 x2 w3) fun x24 w25 => some (x24, w25) else (if a1.toInt = 10 then jbd2 (f_X6_madeAt x2 w3) fun x28 w29 => some (x28, w29) else some ((-1), w3))))))))))))
set_option maxRecDepth 20000 in
set_option maxHeartbeats 2000000 in
theorem s_X11_count {E : jE} (hE : jfull E) {a1 : Int32} {w w' : jw} {v : Int32} (hf : f_X11_count a1 w = some (v, w')) : jC E m_X11_count 3 [.ref (E.2.2.2 + 0), .int a1] w (some (.int v)) w' := by
  refine jC_of (ls := [(0, .ref (E.2.2.2 + 0)), (1, .int a1)]) (by decide) rfl (fun _ => trivial) (Nat.le_of_ble_eq_true rfl) rfl ⟨.int, rfl, rfl⟩ ?_
  unfold f_X11_count at hf
  refine jx_aload_n dX11_count_0 rfl ?_
  refine jx_getr dX11_count_1 fl_X11_39 kj_0 sr_0_4 ?_
  refine jx_getr dX11_count_4 fl_X11_63 kj_17 sr_17_1 ?_
  obtain ⟨x2, w3, hq1, hf⟩ := jbd2_inv hf
  refine jx_cVi (a := 35) (As := []) (rest := []) dX11_count_7 ml_X11_134 mv_X2_now (s_X2_now hE hq1) rfl rfl jc_35 (by decide) (Nat.le_of_ble_eq_true rfl) ?_
  refine jx_istore_n (ls' := [(0, .ref (E.2.2.2 + 0)), (1, .int a1), (2, .int x2)]) dX11_count_10 (by decide) rfl ?_
  refine jx_iload_n dX11_count_11 rfl ?_
  by_cases c4 : a1.toInt = 0
  · rw [if_pos c4] at hf
    refine jx_tableIn (off := 60) (tgt := 72) dX11_count_12 (by omega) (by omega) (by rw [c4]; rfl) (by decide) ?_
    refine jx_iload_n dX11_count_72 rfl ?_
    cases hf
    exact jx_iret dX11_count_73 rfl rfl
  rw [if_neg c4] at hf
  by_cases c5 : a1.toInt = 1
  · rw [if_pos c5] at hf
    refine jx_tableIn (off := 62) (tgt := 74) dX11_count_12 (by omega) (by omega) (by rw [c5]; rfl) (by decide) ?_
    refine jx_aload_n dX11_count_74 rfl ?_
    refine jx_getr dX11_count_75 fl_X11_39 kj_0 sr_0_4 ?_
    refine jx_getr dX11_count_78 fl_X11_63 kj_17 sr_17_1 ?_
    refine jx_geti dX11_count_81 fl_X11_294 kj_35 sr_35_4 ?_
    cases hf
    exact jx_iret dX11_count_84 rfl rfl
  rw [if_neg c5] at hf
  by_cases c6 : a1.toInt = 2
  · rw [if_pos c6] at hf
    refine jx_tableIn (off := 73) (tgt := 85) dX11_count_12 (by omega) (by omega) (by rw [c6]; rfl) (by decide) ?_
    refine jx_aload_n dX11_count_85 rfl ?_
    refine jx_getr dX11_count_86 fl_X11_39 kj_0 sr_0_4 ?_
    refine jx_getr dX11_count_89 fl_X11_234 kj_17 sr_17_0 ?_
    refine jx_geti dX11_count_92 fl_X11_297 kj_18 sr_18_8 ?_
    cases hf
    exact jx_iret dX11_count_95 rfl rfl
  rw [if_neg c6] at hf
  by_cases c7 : a1.toInt = 3
  · rw [if_pos c7] at hf
    refine jx_tableIn (off := 84) (tgt := 96) dX11_count_12 (by omega) (by omega) (by rw [c7]; rfl) (by decide) ?_
    refine jx_aload_n dX11_count_96 rfl ?_
    refine jx_getr dX11_count_97 fl_X11_39 kj_0 sr_0_4 ?_
    refine jx_getr dX11_count_100 fl_X11_234 kj_17 sr_17_0 ?_
    obtain ⟨x9, w10, hq8, hf⟩ := jbd2_inv hf
    refine jx_cVi (a := 18) (As := []) (rest := []) dX11_count_103 ml_X11_298 mv_X6_weak (s_X6_weak hE hq8) rfl rfl jc_18 (by decide) (Nat.le_of_ble_eq_true rfl) ?_
    cases hf
    exact jx_iret dX11_count_106 rfl rfl
  rw [if_neg c7] at hf
  by_cases c11 : a1.toInt = 4
  · rw [if_pos c11] at hf
    refine jx_tableIn (off := 95) (tgt := 107) dX11_count_12 (by omega) (by omega) (by rw [c11]; rfl) (by decide) ?_
    refine jx_aload_n dX11_count_107 rfl ?_
    refine jx_geti dX11_count_108 fl_X11_89 kj_0 sr_0_10 ?_
    cases hf
    exact jx_iret dX11_count_111 rfl rfl
  rw [if_neg c11] at hf
  by_cases c12 : a1.toInt = 5
  · rw [if_pos c12] at hf
    refine jx_tableIn (off := 100) (tgt := 112) dX11_count_12 (by omega) (by omega) (by rw [c12]; rfl) (by decide) ?_
    refine jx_aload_n dX11_count_112 rfl ?_
    refine jx_geti dX11_count_113 fl_X11_92 kj_0 sr_0_11 ?_
    cases hf
    exact jx_iret dX11_count_116 rfl rfl
  rw [if_neg c12] at hf
  by_cases c13 : a1.toInt = 6
  · rw [if_pos c13] at hf
    refine jx_tableIn (off := 105) (tgt := 117) dX11_count_12 (by omega) (by omega) (by rw [c13]; rfl) (by decide) ?_
    refine jx_aload_n dX11_count_117 rfl ?_
    refine jx_getr dX11_count_118 fl_X11_12 kj_0 sr_0_0 ?_
    refine jx_getn dX11_count_121 fl_X11_98 kj_1 (by decide) ?_
    cases hf
    exact jx_iret dX11_count_124 rfl rfl
  rw [if_neg c13] at hf
  by_cases c14 : a1.toInt = 7
  · rw [if_pos c14] at hf
    refine jx_tableIn (off := 113) (tgt := 125) dX11_count_12 (by omega) (by omega) (by rw [c14]; rfl) (by decide) ?_
    refine jx_aload_n dX11_count_125 rfl ?_
    obtain ⟨x16, w17, hq15, hf⟩ := jbd2_inv hf
    refine jx_cVi (a := 0) (As := []) (rest := []) dX11_count_126 ml_X11_301 mv_X11_filledSlots (s_X11_filledSlots hE hq15) rfl rfl jc_0 (by decide) (Nat.le_of_ble_eq_true rfl) ?_
    cases hf
    exact jx_iret dX11_count_129 rfl rfl
  rw [if_neg c14] at hf
  by_cases c18 : a1.toInt = 8
  · rw [if_pos c18] at hf
    refine jx_tableIn (off := 118) (tgt := 130) dX11_count_12 (by omega) (by omega) (by rw [c18]; rfl) (by decide) ?_
    refine jx_aload_n dX11_count_130 rfl ?_
    refine jx_getr dX11_count_131 fl_X11_70 kj_0 sr_0_6 ?_
    refine jx_sipush (v := 999) dX11_count_134 (by decide) ?_
    refine jx_iload_n dX11_count_137 rfl ?_
    obtain ⟨x20, w21, hq19, hf⟩ := jbd2_inv hf
    refine jx_cVi (a := 58) (As := [.int 999, .int x2]) (rest := []) dX11_count_138 ml_X11_173 mv_X3_fromKeyDown (s_X3_fromKeyDown hE hq19) rfl rfl jc_58 (by decide) (Nat.le_of_ble_eq_true rfl) ?_
    cases hf
    exact jx_iret dX11_count_141 rfl rfl
  rw [if_neg c18] at hf
  by_cases c22 : a1.toInt = 9
  · rw [if_pos c22] at hf
    refine jx_tableIn (off := 130) (tgt := 142) dX11_count_12 (by omega) (by omega) (by rw [c22]; rfl) (by decide) ?_
    refine jx_aload_n dX11_count_142 rfl ?_
    refine jx_getr dX11_count_143 fl_X11_70 kj_0 sr_0_6 ?_
    refine jx_iconst (v := 0) dX11_count_146 (by decide) ?_
    refine jx_iload_n dX11_count_147 rfl ?_
    obtain ⟨x24, w25, hq23, hf⟩ := jbd2_inv hf
    refine jx_cVi (a := 58) (As := [.int 0, .int x2]) (rest := []) dX11_count_148 ml_X11_170 mv_X3_fromKeyUp (s_X3_fromKeyUp hE hq23) rfl rfl jc_58 (by decide) (Nat.le_of_ble_eq_true rfl) ?_
    cases hf
    exact jx_iret dX11_count_151 rfl rfl
  rw [if_neg c22] at hf
  by_cases c26 : a1.toInt = 10
  · rw [if_pos c26] at hf
    refine jx_tableIn (off := 140) (tgt := 152) dX11_count_12 (by omega) (by omega) (by rw [c26]; rfl) (by decide) ?_
    refine jx_aload_n dX11_count_152 rfl ?_
    refine jx_getr dX11_count_153 fl_X11_39 kj_0 sr_0_4 ?_
    refine jx_getr dX11_count_156 fl_X11_234 kj_17 sr_17_0 ?_
    refine jx_iload_n dX11_count_159 rfl ?_
    obtain ⟨x28, w29, hq27, hf⟩ := jbd2_inv hf
    refine jx_cVi (a := 18) (As := [.int x2]) (rest := []) dX11_count_160 ml_X11_304 mv_X6_madeAt (s_X6_madeAt hE hq27) rfl rfl jc_18 (by decide) (Nat.le_of_ble_eq_true rfl) ?_
    cases hf
    exact jx_iret dX11_count_163 rfl rfl
  rw [if_neg c26] at hf
  refine jx_tableOut (tgt := 164) dX11_count_12 (by omega) (by decide) ?_
  refine jx_iconst (v := (-1)) dX11_count_164 (by decide) ?_
  cases hf
  exact jx_iret dX11_count_165 rfl rfl
