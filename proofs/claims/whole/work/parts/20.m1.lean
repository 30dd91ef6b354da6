def l_X12_lays : Nat → Int32 → Int32 → jw → Option (jw)
  | 0, _, _, _ => none
  | n + 1, b1, b2, w => (if b2 < 0 then some w else jg (jin (w.1 162 2) 2000) (jl (jsetX w 163 (Int32.toNatClampNeg (w.1 162 2)) ((Int32.toInt8 ((Int32.toInt8 (b1 >>> (b2 &&& 31))).toInt32)).toInt32)) fun w3 => jl (jsetI w3 162 2 ((w3.1 162 2) + 1)) fun w4 => jl (b2 + (-8)) fun x5 => (l_X12_lays n b1 x5 w4)))
set_option maxRecDepth 20000 in
set_option maxHeartbeats 2000000 in
theorem sl_X12_lays {E : jE} (hE : jfull E) : ∀ (n : Nat) (b1 : Int32) (b2 : Int32) (w : jw) (w' : jw), l_X12_lays n b1 b2 w = some w' → jX E m_X12_lays 0 3 [(0, .ref (E.2.2.2 + 162)), (1, .int b1), (2, .int b2)] [] w none w' := by
  intro n
  induction n with
  | zero => intro b1 b2 w w' hf; cases hf
  | succ n ih =>
    intro b1 b2 w w' hf
    unfold l_X12_lays at hf
    refine jx_iload_n dX12_lays_3 rfl ?_
    refine jx_if_lt (tgt := 36) dX12_lays_4 (by decide) (fun c1 => ?_) (fun c1 => ?_)
    · rw [if_pos c1] at hf
      cases hf
      exact jx_vret dX12_lays_36 rfl rfl
    · rw [if_neg c1] at hf
      refine jx_aload_n dX12_lays_7 rfl ?_
      refine jx_getr dX12_lays_8 fl_X12_13 (kj_162 hE) sr_162_1 ?_
      refine jx_aload_n dX12_lays_11 rfl ?_
      refine jx_geti dX12_lays_12 fl_X12_120 (kj_162 hE) sr_162_2 ?_
      refine jx_iload_n dX12_lays_15 rfl ?_
      refine jx_iload_n dX12_lays_16 rfl ?_
      refine jx_ishr dX12_lays_17 ?_
      refine jx_i2b dX12_lays_18 ?_
      obtain ⟨c2, hf⟩ := jg_inv hf
      refine jx_bast dX12_lays_19 (kj_163 hE) (jin_vp c2) ?_
      obtain ⟨w3, hw3, hf⟩ := jl_inv hf
      refine jx_nw hw3 ?_
      refine jx_aload_n dX12_lays_20 rfl ?_
      refine jx_dup dX12_lays_21 rfl ?_
      refine jx_geti dX12_lays_22 fl_X12_120 (kj_162 hE) sr_162_2 ?_
      refine jx_iconst (v := 1) dX12_lays_25 (by decide) ?_
      refine jx_iadd dX12_lays_26 ?_
      refine jx_puti dX12_lays_27 fp_X12_120 (kj_162 hE) sr_162_2 rfl rfl ?_
      obtain ⟨w4, hw4, hf⟩ := jl_inv hf
      refine jx_nw hw4 ?_
      obtain ⟨x5, hx5, hf⟩ := jl_inv hf
      refine jx_iinc (v := x5) (ls' := [(0, .ref (E.2.2.2 + 162)), (1, .int b1), (2, .int x5)]) dX12_lays_30 rfl (by rw [hx5]; rfl) (by decide) rfl ?_
      refine jx_goto (tgt := 3) dX12_lays_33 (by decide) ?_
      exact ih _ _ _ _ hf
def f_X12_lays (a1 : Int32) (w : jw) : Option (jw) := (l_X12_lays jfu a1 24 w)
set_option maxRecDepth 20000 in
set_option maxHeartbeats 2000000 in
theorem s_X12_lays {E : jE} (hE : jfull E) {a1 : Int32} {w w' : jw} (hf : f_X12_lays a1 w = some w') : jC E m_X12_lays 0 [.ref (E.2.2.2 + 162), .int a1] w none w' := by
  refine jC_of (ls := [(0, .ref (E.2.2.2 + 162)), (1, .int a1)]) (by decide) rfl (fun _ => trivial) (Nat.le_of_ble_eq_true rfl) rfl rfl ?_
  unfold f_X12_lays at hf
  refine jx_bipush (v := 24) dX12_lays_0 (by decide) ?_
  refine jx_istore_n (ls' := [(0, .ref (E.2.2.2 + 162)), (1, .int a1), (2, .int 24)]) dX12_lays_2 (by decide) rfl ?_
  exact sl_X12_lays hE jfu _ _ _ _ hf
def f_X12_feed (a1 : Int32) (a2 : Int32) (a3 : Int32) (a4 : Int32) (a5 : Int32) (w : jw) : Option (Int32 × jw) := (if ((w.1 162 2) + 20) ≤ 2000 then jbd (f_X12_lays a1 w) fun q2 => jbd (f_X12_lays a2 q2) fun q3 => jbd (f_X12_lays a3 q3) fun q4 => jbd (f_X12_lays a4 q4) fun q5 => jbd (f_X12_lays a5 q5) fun q6 => some (q6.1 162 2, q6) else some ((-1), w))
set_option maxRecDepth 20000 in
set_option maxHeartbeats 2000000 in
theorem s_X12_feed {E : jE} (hE : jfull E) {a1 : Int32} {a2 : Int32} {a3 : Int32} {a4 : Int32} {a5 : Int32} {w w' : jw} {v : Int32} (hf : f_X12_feed a1 a2 a3 a4 a5 w = some (v, w')) : jC E m_X12_feed 1 [.ref (E.2.2.2 + 162), .int a1, .int a2, .int a3, .int a4, .int a5] w (some (.int v)) w' := by
  refine jC_of (ls := [(0, .ref (E.2.2.2 + 162)), (1, .int a1), (2, .int a2), (3, .int a3), (4, .int a4), (5, .int a5)]) (by decide) rfl (fun _ => trivial) (Nat.le_of_ble_eq_true rfl) rfl ⟨.int, rfl, rfl⟩ ?_
  unfold f_X12_feed at hf
  refine jx_aload_n dX12_feed_0 rfl ?_
  refine jx_geti dX12_feed_1 fl_X12_120 (kj_162 hE) sr_162_2 ?_
  refine jx_bipush (v := 20) dX12_feed_4 (by decide) ?_
  refine jx_iadd dX12_feed_6 ?_
  refine jx_sipush (v := 2000) dX12_feed_7 (by decide) ?_
  refine jx_icmp_le (tgt := 15) dX12_feed_10 (by decide) (fun c1 => ?_) (fun c1 => ?_)
  · rw [if_pos c1] at hf
    refine jx_aload_n dX12_feed_15 rfl ?_
    refine jx_iload_n dX12_feed_16 rfl ?_
    obtain ⟨q2, hq2, hf⟩ := jbd_inv hf
    refine jx_cVv (a := 162) (As := [.int a1]) (rest := []) dX12_feed_17 ml_X12_123 mv_X12_lays (s_X12_lays hE hq2) rfl rfl (jc_162 hE) (by decide) (Nat.le_of_ble_eq_true rfl) ?_
    refine jx_aload_n dX12_feed_20 rfl ?_
    refine jx_iload_n dX12_feed_21 rfl ?_
    obtain ⟨q3, hq3, hf⟩ := jbd_inv hf
    refine jx_cVv (a := 162) (As := [.int a2]) (rest := []) dX12_feed_22 ml_X12_123 mv_X12_lays (s_X12_lays hE hq3) rfl rfl (jc_162 hE) (by decide) (Nat.le_of_ble_eq_true rfl) ?_
    refine jx_aload_n dX12_feed_25 rfl ?_
    refine jx_iload_n dX12_feed_26 rfl ?_
    obtain ⟨q4, hq4, hf⟩ := jbd_inv hf
    refine jx_cVv (a := 162) (As := [.int a3]) (rest := []) dX12_feed_27 ml_X12_123 mv_X12_lays (s_X12_lays hE hq4) rfl rfl (jc_162 hE) (by decide) (Nat.le_of_ble_eq_true rfl) ?_
    refine jx_aload_n dX12_feed_30 rfl ?_
    refine jx_iload dX12_feed_31 rfl ?_
    obtain ⟨q5, hq5, hf⟩ := jbd_inv hf
    refine jx_cVv (a := 162) (As := [.int a4]) (rest := []) dX12_feed_33 ml_X12_123 mv_X12_lays (s_X12_lays hE hq5) rfl rfl (jc_162 hE) (by decide) (Nat.le_of_ble_eq_true rfl) ?_
    refine jx_aload_n dX12_feed_36 rfl ?_
    refine jx_iload dX12_feed_37 rfl ?_
    obtain ⟨q6, hq6, hf⟩ := jbd_inv hf
    refine jx_cVv (a := 162) (As := [.int a5]) (rest := []) dX12_feed_39 ml_X12_123 mv_X12_lays (s_X12_lays hE hq6) rfl rfl (jc_162 hE) (by decide) (Nat.le_of_ble_eq_true rfl) ?_
    refine jx_aload_n dX12_feed_42 rfl ?_
    refine jx_geti dX12_feed_43 fl_X12_120 (kj_162 hE) sr_162_2 ?_
    cases hf
    exact jx_iret dX12_feed_46 rfl rfl
  · rw [if_neg c1] at hf
    refine jx_iconst (v := (-1)) dX12_feed_13 (by decide) ?_
    cases hf
    exact jx_iret dX12_feed_14 rfl rfl
def f_X12_back (a1 : Int32) (w : jw) : Option (Int32 × jw) := (if a1 < 0 then some ((-1), w) else (if a1 ≤ (w.1 162 2) then jl (jsetI w 162 2 ((w.1 162 2) - a1)) fun w3 => some (w3.1 162 2, w3) else some ((-1), w)))
set_option maxRecDepth 20000 in
set_option maxHeartbeats 2000000 in
theorem s_X12_back {E : jE} (hE : jfull E) {a1 : Int32} {w w' : jw} {v : Int32} (hf : f_X12_back a1 w = some (v, w')) : jC E m_X12_back 0 [.ref (E.2.2.2 + 162), .int a1] w (some (.int v)) w' := by
  refine jC_of (ls := [(0, .ref (E.2.2.2 + 162)), (1, .int a1)]) (by decide) rfl (fun _ => trivial) (Nat.le_of_ble_eq_true rfl) rfl ⟨.int, rfl, rfl⟩ ?_
  unfold f_X12_back at hf
  refine jx_iload_n dX12_back_0 rfl ?_
  refine jx_if_lt (tgt := 12) dX12_back_1 (by decide) (fun c1 => ?_) (fun c1 => ?_)
  · rw [if_pos c1] at hf
    refine jx_iconst (v := (-1)) dX12_back_12 (by decide) ?_
    cases hf
    exact jx_iret dX12_back_13 rfl rfl
  · rw [if_neg c1] at hf
    refine jx_iload_n dX12_back_4 rfl ?_
    refine jx_aload_n dX12_back_5 rfl ?_
    refine jx_geti dX12_back_6 fl_X12_120 (kj_162 hE) sr_162_2 ?_
    refine jx_icmp_le (tgt := 14) dX12_back_9 (by decide) (fun c2 => ?_) (fun c2 => ?_)
    · rw [if_pos c2] at hf
      refine jx_aload_n dX12_back_14 rfl ?_
      refine jx_dup dX12_back_15 rfl ?_
      refine jx_geti dX12_back_16 fl_X12_120 (kj_162 hE) sr_162_2 ?_
      refine jx_iload_n dX12_back_19 rfl ?_
      refine jx_isub dX12_back_20 ?_
      refine jx_puti dX12_back_21 fp_X12_120 (kj_162 hE) sr_162_2 rfl rfl ?_
      obtain ⟨w3, hw3, hf⟩ := jl_inv hf
      refine jx_nw hw3 ?_
      refine jx_aload_n dX12_back_24 rfl ?_
      refine jx_geti dX12_back_25 fl_X12_120 (kj_162 hE) sr_162_2 ?_
      cases hf
      exact jx_iret dX12_back_28 rfl rfl
    · rw [if_neg c2] at hf
      refine jx_iconst (v := (-1)) dX12_back_12 (by decide) ?_
      cases hf
      exact jx_iret dX12_back_13 rfl rfl
def f_X12_byteAt (a1 : Int32) (w : jw) : Option (Int32 × jw) := (if (w.1 162 4) ≤ a1 then some (0, w) else jg (jin a1 2000) (some ((w.2.1 164 (Int32.toNatClampNeg a1)) &&& 255, w)))
set_option maxRecDepth 20000 in
set_option maxHeartbeats 2000000 in
theorem s_X12_byteAt {E : jE} (hE : jfull E) {a1 : Int32} {w w' : jw} {v : Int32} (hf : f_X12_byteAt a1 w = some (v, w')) : jC E m_X12_byteAt 0 [.ref (E.2.2.2 + 162), .int a1] w (some (.int v)) w' := by
  refine jC_of (ls := [(0, .ref (E.2.2.2 + 162)), (1, .int a1)]) (by decide) rfl (fun _ => trivial) (Nat.le_of_ble_eq_true rfl) rfl ⟨.int, rfl, rfl⟩ ?_
  unfold f_X12_byteAt at hf
  refine jx_iload_n dX12_byteAt_0 rfl ?_
  refine jx_aload_n dX12_byteAt_1 rfl ?_
  refine jx_geti dX12_byteAt_2 fl_X12_126 (kj_162 hE) sr_162_4 ?_
  refine jx_icmp_ge (tgt := 21) dX12_byteAt_5 (by decide) (fun c1 => ?_) (fun c1 => ?_)
  · rw [if_pos c1] at hf
    refine jx_iconst (v := 0) dX12_byteAt_21 (by decide) ?_
    cases hf
    exact jx_iret dX12_byteAt_22 rfl rfl
  · rw [if_neg c1] at hf
    refine jx_aload_n dX12_byteAt_8 rfl ?_
    refine jx_getr dX12_byteAt_9 fl_X12_17 (kj_162 hE) sr_162_3 ?_
    refine jx_iload_n dX12_byteAt_12 rfl ?_
    obtain ⟨c2, hf⟩ := jg_inv hf
    refine jx_bald dX12_byteAt_13 (kj_164 hE) (jin_vp c2) ?_
    refine jx_sipush (v := 255) dX12_byteAt_14 (by decide) ?_
    refine jx_iand dX12_byteAt_17 ?_
    refine jx_goto (tgt := 22) dX12_byteAt_18 (by decide) ?_
    cases hf
    exact jx_iret dX12_byteAt_22 rfl rfl
def f_X12_isDigit (a1 : Int32) (w : jw) : Option (Bool × jw) := (if a1 < 48 then some (false, w) else (if 57 < a1 then some (false, w) else some (true, w)))
set_option maxRecDepth 20000 in
set_option maxHeartbeats 2000000 in
theorem s_X12_isDigit {E : jE} (hE : jfull E) {a1 : Int32} {w w' : jw} {v : Bool} (hf : f_X12_isDigit a1 w = some (v, w')) : jC E m_X12_isDigit 0 [.int a1] w (some (.int (jb v))) w' := by
  refine jC_of (ls := [(0, .int a1)]) (by decide) rfl (fun _ => trivial) (Nat.le_of_ble_eq_true rfl) rfl jb_ans ?_
  unfold f_X12_isDigit at hf
  refine jx_iload_n dX12_isDigit_0 rfl ?_
  refine jx_bipush (v := 48) dX12_isDigit_1 (by decide) ?_
  refine jx_icmp_lt (tgt := 16) dX12_isDigit_3 (by decide) (fun c1 => ?_) (fun c1 => ?_)
  · rw [if_pos c1] at hf
    refine jx_iconst (v := 0) dX12_isDigit_16 (by decide) ?_
    cases hf
    exact jx_iret dX12_isDigit_17 rfl rfl
  · rw [if_neg c1] at hf
    refine jx_iload_n dX12_isDigit_6 rfl ?_
    refine jx_bipush (v := 57) dX12_isDigit_7 (by decide) ?_
    refine jx_icmp_gt (tgt := 16) dX12_isDigit_9 (by decide) (fun c2 => ?_) (fun c2 => ?_)
    · rw [if_pos c2] at hf
      refine jx_iconst (v := 0) dX12_isDigit_16 (by decide) ?_
      cases hf
      exact jx_iret dX12_isDigit_17 rfl rfl
    · rw [if_neg c2] at hf
      refine jx_iconst (v := 1) dX12_isDigit_12 (by decide) ?_
      refine jx_goto (tgt := 17) dX12_isDigit_13 (by decide) ?_
      cases hf
      exact jx_iret dX12_isDigit_17 rfl rfl
def f_X12_isLetter (a1 : Int32) (w : jw) : Option (Bool × jw) := (if a1 < 97 then some (false, w) else (if 122 < a1 then some (false, w) else some (true, w)))
set_option maxRecDepth 20000 in
set_option maxHeartbeats 2000000 in
theorem s_X12_isLetter {E : jE} (hE : jfull E) {a1 : Int32} {w w' : jw} {v : Bool} (hf : f_X12_isLetter a1 w = some (v, w')) : jC E m_X12_isLetter 0 [.int a1] w (some (.int (jb v))) w' := by
  refine jC_of (ls := [(0, .int a1)]) (by decide) rfl (fun _ => trivial) (Nat.le_of_ble_eq_true rfl) rfl jb_ans ?_
  unfold f_X12_isLetter at hf
  refine jx_iload_n dX12_isLetter_0 rfl ?_
  refine jx_bipush (v := 97) dX12_isLetter_1 (by decide) ?_
  refine jx_icmp_lt (tgt := 16) dX12_isLetter_3 (by decide) (fun c1 => ?_) (fun c1 => ?_)
  · rw [if_pos c1] at hf
    refine jx_iconst (v := 0) dX12_isLetter_16 (by decide) ?_
    cases hf
    exact jx_iret dX12_isLetter_17 rfl rfl
  · rw [if_neg c1] at hf
    refine jx_iload_n dX12_isLetter_6 rfl ?_
    refine jx_bipush (v := 122) dX12_isLetter_7 (by decide) ?_
    refine jx_icmp_gt (tgt := 16) dX12_isLetter_9 (by decide) (fun c2 => ?_) (fun c2 => ?_)
    · rw [if_pos c2] at hf
      refine jx_iconst (v := 0) dX12_isLetter_16 (by decide) ?_
      cases hf
      exact jx_iret dX12_isLetter_17 rfl rfl
    · rw [if_neg c2] at hf
      refine jx_iconst (v := 1) dX12_isLetter_12 (by decide) ?_
      refine jx_goto (tgt := 17) dX12_isLetter_13 (by decide) ?_
      cases hf
      exact jx_iret dX12_isLetter_17 rfl rfl
def f_X12_appends (a1 : Int64) (a2 : Int32) (w : jw) : Option (Int64 × jw) := (if a2 = 0 then some (a1, w) else some ((27 * a1) + (Int32.toInt64 ((a2 - 97) + 1)), w))
set_option maxRecDepth 20000 in
set_option maxHeartbeats 2000000 in
theorem s_X12_appends {E : jE} (hE : jfull E) {a1 : Int64} {a2 : Int32} {w w' : jw} {v : Int64} (hf : f_X12_appends a1 a2 w = some (v, w')) : jC E m_X12_appends 0 [.long a1, .int a2] w (some (.long v)) w' := by
  refine jC_of (ls := [(0, .long a1), (2, .int a2)]) (by decide) rfl (fun _ => trivial) (Nat.le_of_ble_eq_true rfl) rfl rfl ?_
  unfold f_X12_appends at hf
  refine jx_iload_n dX12_appends_0 rfl ?_
  refine jx_if_ne (tgt := 8) dX12_appends_1 (by decide) (fun c1 => ?_) (fun c1 => ?_)
  · rw [if_neg c1] at hf
    refine jx_ldc2 (v := 27) dX12_appends_8 kc2_X12_129 ?_
    refine jx_lload_n dX12_appends_11 rfl ?_
    refine jx_lmul dX12_appends_12 ?_
    refine jx_iload_n dX12_appends_13 rfl ?_
    refine jx_bipush (v := 97) dX12_appends_14 (by decide) ?_
    refine jx_isub dX12_appends_16 ?_
    refine jx_iconst (v := 1) dX12_appends_17 (by decide) ?_
    refine jx_iadd dX12_appends_18 ?_
    refine jx_i2l dX12_appends_19 ?_
    refine jx_ladd dX12_appends_20 ?_
    cases hf
    exact jx_lret dX12_appends_21 rfl rfl
  · rw [if_pos c1] at hf
    refine jx_lload_n dX12_appends_4 rfl ?_
    refine jx_goto (tgt := 21) dX12_appends_5 (by decide) ?_
    cases hf
    exact jx_lret dX12_appends_21 rfl rfl
def f_X12_letters (a1 : Int32) (a2 : Int32) (a3 : Int32) (a4 : Int32) (a5 : Int32) (a6 : Int32) (a7 : Int32) (w : jw) : Option (Int64 × jw) := jbd2 (f_X12_appends 0 a1 w) fun x2 w3 => jbd2 (f_X12_appends x2 a2 w3) fun x5 w6 => jbd2 (f_X12_appends x5 a3 w6) fun x8 w9 => jbd2 (f_X12_appends x8 a4 w9) fun x11 w12 => jbd2 (f_X12_appends x11 a5 w12) fun x14 w15 => jbd2 (f_X12_appends x14 a6 w15) fun x17 w18 => jbd2 (f_X12_appends x17 a7 w18) fun x20 w21 => some (x20, w21)
set_option maxRecDepth 20000 in
set_option maxHeartbeats 2000000 in
theorem s_X12_letters {E : jE} (hE : jfull E) {a1 : Int32} {a2 : Int32} {a3 : Int32} {a4 : Int32} {a5 : Int32} {a6 : Int32} {a7 : Int32} {w w' : jw} {v : Int64} (hf : f_X12_letters a1 a2 a3 a4 a5 a6 a7 w = some (v, w')) : jC E m_X12_letters 1 [.int a1, .int a2, .int a3, .int a4, .int a5, .int a6, .int a7] w (some (.long v)) w' := by
  refine jC_of (ls := [(0, .int a1), (1, .int a2), (2, .int a3), (3, .int a4), (4, .int a5), (5, .int a6), (6, .int a7)]) (by decide) rfl (fun _ => trivial) (Nat.le_of_ble_eq_true rfl) rfl rfl ?_
  unfold f_X12_letters at hf
  refine jx_lconst (v := 0) dX12_letters_0 (by decide) ?_
  refine jx_iload_n dX12_letters_1 rfl ?_
  obtain ⟨x2, w3, hq1, hf⟩ := jbd2_inv hf
  refine jx_cSl (As := [.long 0, .int a1]) (rest := []) dX12_letters_2 ml_X12_131 ms_X12_appends (s_X12_appends hE hq1) rfl rfl rfl (by decide) (Nat.le_of_ble_eq_true rfl) ?_
  refine jx_iload_n dX12_letters_5 rfl ?_
  obtain ⟨x5, w6, hq4, hf⟩ := jbd2_inv hf
  refine jx_cSl (As := [.long x2, .int a2]) (rest := []) dX12_letters_6 ml_X12_131 ms_X12_appends (s_X12_appends hE hq4) rfl rfl rfl (by decide) (Nat.le_of_ble_eq_true rfl) ?_
  refine jx_iload_n dX12_letters_9 rfl ?_
  obtain ⟨x8, w9, hq7, hf⟩ := jbd2_inv hf
  refine jx_cSl (As := [.long x5, .int a3]) (rest := []) dX12_letters_10 ml_X12_131 ms_X12_appends (s_X12_appends hE hq7) rfl rfl rfl (by decide) (Nat.le_of_ble_eq_true rfl) ?_
  refine jx_iload_n dX12_letters_13 rfl ?_
  obtain ⟨x11, w12, hq10, hf⟩ := jbd2_inv hf
  refine jx_cSl (As := [.long x8, .int a4]) (rest := []) dX12_letters_14 ml_X12_131 ms_X12_appends (s_X12_appends hE hq10) rfl rfl rfl (by decide) (Nat.le_of_ble_eq_true rfl) ?_
  refine jx_iload dX12_letters_17 rfl ?_
  obtain ⟨x14, w15, hq13, hf⟩ := jbd2_inv hf
  refine jx_cSl (As := [.long x11, .int a5]) (rest := []) dX12_letters_19 ml_X12_131 ms_X12_appends (s_X12_appends hE hq13) rfl rfl rfl (by decide) (Nat.le_of_ble_eq_true rfl) ?_
  refine jx_iload dX12_letters_22 rfl ?_
  obtain ⟨x17, w18, hq16, hf⟩ := jbd2_inv hf
  refine jx_cSl (As := [.long x14, .int a6]) (rest := []) dX12_letters_24 ml_X12_131 ms_X12_appends (s_X12_appends hE hq16) rfl rfl rfl (by decide) (Nat.le_of_ble_eq_true rfl) ?_
  refine jx_iload dX12_letters_27 rfl ?_
  obtain ⟨x20, w21, hq19, hf⟩ := jbd2_inv hf
  refine jx_cSl (As := [.long x17, .int a7]) (rest := []) dX12_letters_29 ml_X12_131 ms_X12_appends (s_X12_appends hE hq19) rfl rfl rfl (by decide) (Nat.le_of_ble_eq_true rfl) ?_
  cases hf
  exact jx_lret dX12_letters_32 rfl rfl
def f_X12_token (a1 : Int32) (a2 : Int32) (a3 : Int32) (a4 : Int64) (w : jw) : Option (jw) := jg (jin (w.1 162 10) 403) (jl (jsetX w 165 (Int32.toNatClampNeg (w.1 162 10)) a1) fun w2 => jg (jin (w2.1 162 10) 403) (jl (jsetX w2 166 (Int32.toNatClampNeg (w2.1 162 10)) a2) fun w4 => jg (jin (w4.1 162 10) 403) (jl (jsetX w4 167 (Int32.toNatClampNeg (w4.1 162 10)) a3) fun w6 => jg (jin (w6.1 162 10) 403) (jl (jsetL w6 168 (Int32.toNatClampNeg (w6.1 162 10)) a4) fun w8 => jl (jsetI w8 162 10 ((w8.1 162 10) + 1)) fun w9 => some w9))))
set_option maxRecDepth 20000 in
set_option maxHeartbeats 2000000 in
theorem s_X12_token {E : jE} (hE : jfull E) {a1 : Int32} {a2 : Int32} {a3 : Int32} {a4 : Int64} {w w' : jw} (hf : f_X12_token a1 a2 a3 a4 w = some w') : jC E m_X12_token 0 [.ref (E.2.2.2 + 162), .int a1, .int a2, .int a3, .long a4] w none w' := by
  refine jC_of (ls := [(0, .ref (E.2.2.2 + 162)), (1, .int a1), (2, .int a2), (3, .int a3), (4, .long a4)]) (by decide) rfl (fun _ => trivial) (Nat.le_of_ble_eq_true rfl) rfl rfl ?_
  unfold f_X12_token at hf
  refine jx_aload_n dX12_token_0 rfl ?_
  refine jx_getr dX12_token_1 fl_X12_20 (kj_162 hE) sr_162_5 ?_
  refine jx_aload_n dX12_token_4 rfl ?_
  refine jx_geti dX12_token_5 fl_X12_135 (kj_162 hE) sr_162_10 ?_
  refine jx_iload_n dX12_token_8 rfl ?_
  obtain ⟨c1, hf⟩ := jg_inv hf
  refine jx_iast dX12_token_9 (kj_165 hE) (jin_vp c1) ?_
  obtain ⟨w2, hw2, hf⟩ := jl_inv hf
  refine jx_nw hw2 ?_
  refine jx_aload_n dX12_token_10 rfl ?_
  refine jx_getr dX12_token_11 fl_X12_24 (kj_162 hE) sr_162_6 ?_
  refine jx_aload_n dX12_token_14 rfl ?_
  refine jx_geti dX12_token_15 fl_X12_135 (kj_162 hE) sr_162_10 ?_
  refine jx_iload_n dX12_token_18 rfl ?_
  obtain ⟨c3, hf⟩ := jg_inv hf
  refine jx_iast dX12_token_19 (kj_166 hE) (jin_vp c3) ?_
  obtain ⟨w4, hw4, hf⟩ := jl_inv hf
  refine jx_nw hw4 ?_
  refine jx_aload_n dX12_token_20 rfl ?_
  refine jx_getr dX12_token_21 fl_X12_27 (kj_162 hE) sr_162_7 ?_
  refine jx_aload_n dX12_token_24 rfl ?_
  refine jx_geti dX12_token_25 fl_X12_135 (kj_162 hE) sr_162_10 ?_
  refine jx_iload_n dX12_token_28 rfl ?_
  obtain ⟨c5, hf⟩ := jg_inv hf
  refine jx_iast dX12_token_29 (kj_167 hE) (jin_vp c5) ?_
  obtain ⟨w6, hw6, hf⟩ := jl_inv hf
  refine jx_nw hw6 ?_
  refine jx_aload_n dX12_token_30 rfl ?_
  refine jx_getr dX12_token_31 fl_X12_30 (kj_162 hE) sr_162_8 ?_
  refine jx_aload_n dX12_token_34 rfl ?_
  refine jx_geti dX12_token_35 fl_X12_135 (kj_162 hE) sr_162_10 ?_
  refine jx_lload dX12_token_38 rfl ?_
  obtain ⟨c7, hf⟩ := jg_inv hf
  refine jx_last dX12_token_40 (kj_168 hE) (jin_vp c7) ?_
  obtain ⟨w8, hw8, hf⟩ := jl_inv hf
  refine jx_nw hw8 ?_
  refine jx_aload_n dX12_token_41 rfl ?_
  refine jx_dup dX12_token_42 rfl ?_
  refine jx_geti dX12_token_43 fl_X12_135 (kj_162 hE) sr_162_10 ?_
  refine jx_iconst (v := 1) dX12_token_46 (by decide) ?_
  refine jx_iadd dX12_token_47 ?_
  refine jx_puti dX12_token_48 fp_X12_135 (kj_162 hE) sr_162_10 rfl rfl ?_
  obtain ⟨w9, hw9, hf⟩ := jl_inv hf
  refine jx_nw hw9 ?_
  cases hf
  exact jx_vret dX12_token_51 rfl rfl
def f_X12_sign (a1 : Int32) (a2 : Int32) (a3 : Int32) (w : jw) : Option (Int32 × jw) := jbd (if a2 = 59 then some (4 : Int32) else (if a2 = 40 then some (6 : Int32) else (if a2 = 41 then some (7 : Int32) else some (3 : Int32)))) fun x2 => jbd (if a2 = 43 then some (8 : Int32) else some x2) fun x5 => jbd (if a2 = 45 then some (9 : Int32) else some x5) fun x8 => jbd (if a2 = 42 then some (10 : Int32) else some x8) fun x11 => jbd (if a2 = 47 then some (15 : Int32) else some x11) fun x14 => jbd (if a2 = 37 then some (16 : Int32) else some x14) fun x17 => jbd (f_X12_token x17 a1 0 0 w) fun q19 => some (1, q19)
set_option maxRecDepth 20000 in
set_option maxHeartbeats 2000000 in
theorem s_X12_sign {E : jE} (hE : jfull E) {a1 : Int32} {a2 : Int32} {a3 : Int32} {w w' : jw} {v : Int32} (hf : f_X12_sign a1 a2 a3 w = some (v, w')) : jC E m_X12_sign 1 [.ref (E.2.2.2 + 162), .int a1, .int a2, .int a3] w (some (.int v)) w' := by
  refine jC_of (ls := [(0, .ref (E.2.2.2 + 162)), (1, .int a1), (2, .int a2), (3, .int a3)]) (by decide) rfl (fun _ => trivial) (Nat.le_of_ble_eq_true rfl) rfl ⟨.int, rfl, rfl⟩ ?_
  unfold f_X12_sign at hf
  refine jx_iload_n dX12_sign_0 rfl ?_
  refine jx_bipush (v := 59) dX12_sign_1 (by decide) ?_
  obtain ⟨x2, hqhJ3, hf⟩ := jbd_inv hf
  have hJ3 : jX E m_X12_sign 1 33 [(0, .ref (E.2.2.2 + 162)), (1, .int a1), (2, .int a2), (3, .int a3)] [.int x2] w (some (.int v)) w' := by
    refine jx_istore (ls' := [(0, .ref (E.2.2.2 + 162)), (1, .int a1), (2, .int a2), (3, .int a3), (4, .int x2)]) dX12_sign_33 (by decide) rfl ?_
    refine jx_iload_n dX12_sign_35 rfl ?_
    refine jx_bipush (v := 43) dX12_sign_36 (by decide) ?_
    obtain ⟨x5, hqhJ6, hf⟩ := jbd_inv hf
    have hJ6 : jX E m_X12_sign 1 45 [(0, .ref (E.2.2.2 + 162)), (1, .int a1), (2, .int a2), (3, .int a3), (4, .int x5)] [] w (some (.int v)) w' := by
      refine jx_iload_n dX12_sign_45 rfl ?_
      refine jx_bipush (v := 45) dX12_sign_46 (by decide) ?_
      obtain ⟨x8, hqhJ9, hf⟩ := jbd_inv hf
      have hJ9 : jX E m_X12_sign 1 55 [(0, .ref (E.2.2.2 + 162)), (1, .int a1), (2, .int a2), (3, .int a3), (4, .int x8)] [] w (some (.int v)) w' := by
        refine jx_iload_n dX12_sign_55 rfl ?_
        refine jx_bipush (v := 42) dX12_sign_56 (by decide) ?_
        obtain ⟨x11, hqhJ12, hf⟩ := jbd_inv hf
        have hJ12 : jX E m_X12_sign 1 65 [(0, .ref (E.2.2.2 + 162)), (1, .int a1), (2, .int a2), (3, .int a3), (4, .int x11)] [] w (some (.int v)) w' := by
          refine jx_iload_n dX12_sign_65 rfl ?_
          refine jx_bipush (v := 47) dX12_sign_66 (by decide) ?_
          obtain ⟨x14, hqhJ15, hf⟩ := jbd_inv hf
          have hJ15 : jX E m_X12_sign 1 75 [(0, .ref (E.2.2.2 + 162)), (1, .int a1), (2, .int a2), (3, .int a3), (4, .int x14)] [] w (some (.int v)) w' := by
            refine jx_iload_n dX12_sign_75 rfl ?_
            refine jx_bipush (v := 37) dX12_sign_76 (by decide) ?_
            obtain ⟨x17, hqhJ18, hf⟩ := jbd_inv hf
            have hJ18 : jX E m_X12_sign 1 85 [(0, .ref (E.2.2.2 + 162)), (1, .int a1), (2, .int a2), (3, .int a3), (4, .int x17)] [] w (some (.int v)) w' := by
              refine jx_aload_n dX12_sign_85 rfl ?_
              refine jx_iload dX12_sign_86 rfl ?_
              refine jx_iload_n dX12_sign_88 rfl ?_
              refine jx_iconst (v := 0) dX12_sign_89 (by decide) ?_
              refine jx_lconst (v := 0) dX12_sign_90 (by decide) ?_
              obtain ⟨q19, hq19, hf⟩ := jbd_inv hf
              refine jx_cVv (a := 162) (As := [.int x17, .int a1, .int 0, .long 0]) (rest := []) dX12_sign_91 ml_X12_142 mv_X12_token (s_X12_token hE hq19) rfl rfl (jc_162 hE) (by decide) (Nat.le_of_ble_eq_true rfl) ?_
              refine jx_iconst (v := 1) dX12_sign_94 (by decide) ?_
              cases hf
              exact jx_iret dX12_sign_95 rfl rfl
            clear hf
            have hf := hqhJ18
            clear hqhJ18
            refine jx_icmp_ne (tgt := 85) dX12_sign_78 (by decide) (fun c16 => ?_) (fun c16 => ?_)
            · rw [if_neg c16] at hf
              cases hf
              exact hJ18
            · rw [if_pos c16] at hf
              refine jx_bipush (v := 16) dX12_sign_81 (by decide) ?_
              refine jx_istore (ls' := [(0, .ref (E.2.2.2 + 162)), (1, .int a1), (2, .int a2), (3, .int a3), (4, .int 16)]) dX12_sign_83 (by decide) rfl ?_
              cases hf
              exact hJ18
          clear hf
          have hf := hqhJ15
          clear hqhJ15
          refine jx_icmp_ne (tgt := 75) dX12_sign_68 (by decide) (fun c13 => ?_) (fun c13 => ?_)
          · rw [if_neg c13] at hf
            cases hf
            exact hJ15
          · rw [if_pos c13] at hf
            refine jx_bipush (v := 15) dX12_sign_71 (by decide) ?_
            refine jx_istore (ls' := [(0, .ref (E.2.2.2 + 162)), (1, .int a1), (2, .int a2), (3, .int a3), (4, .int 15)]) dX12_sign_73 (by decide) rfl ?_
            cases hf
            exact hJ15
        clear hf
        have hf := hqhJ12
        clear hqhJ12
        refine jx_icmp_ne (tgt := 65) dX12_sign_58 (by decide) (fun c10 => ?_) (fun c10 => ?_)
        · rw [if_neg c10] at hf
          cases hf
          exact hJ12
        · rw [if_pos c10] at hf
          refine jx_bipush (v := 10) dX12_sign_61 (by decide) ?_
          refine jx_istore (ls' := [(0, .ref (E.2.2.2 + 162)), (1, .int a1), (2, .int a2), (3, .int a3), (4, .int 10)]) dX12_sign_63 (by decide) rfl ?_
          cases hf
          exact hJ12
      clear hf
      have hf := hqhJ9
      clear hqhJ9
      refine jx_icmp_ne (tgt := 55) dX12_sign_48 (by decide) (fun c7 => ?_) (fun c7 => ?_)
      · rw [if_neg c7] at hf
        cases hf
        exact hJ9
      · rw [if_pos c7] at hf
        refine jx_bipush (v := 9) dX12_sign_51 (by decide) ?_
        refine jx_istore (ls' := [(0, .ref (E.2.2.2 + 162)), (1, .int a1), (2, .int a2), (3, .int a3), (4, .int 9)]) dX12_sign_53 (by decide) rfl ?_
        cases hf
        exact hJ9
    clear hf
    have hf := hqhJ6
    clear hqhJ6
    refine jx_icmp_ne (tgt := 45) dX12_sign_38 (by decide) (fun c4 => ?_) (fun c4 => ?_)
    · rw [if_neg c4] at hf
      cases hf
      exact hJ6
    · rw [if_pos c4] at hf
      refine jx_bipush (v := 8) dX12_sign_41 (by decide) ?_
      refine jx_istore (ls' := [(0, .ref (E.2.2.2 + 162)), (1, .int a1), (2, .int a2), (3, .int a3), (4, .int 8)]) dX12_sign_43 (by decide) rfl ?_
      cases hf
      exact hJ6
  clear hf
  have hf := hqhJ3
  clear hqhJ3
  refine jx_icmp_ne (tgt := 10) dX12_sign_3 (by decide) (fun c1 => ?_) (fun c1 => ?_)
  · rw [if_neg c1] at hf
    refine jx_iload_n dX12_sign_10 rfl ?_
    refine jx_bipush (v := 40) dX12_sign_11 (by decide) ?_
    refine jx_icmp_ne (tgt := 21) dX12_sign_13 (by decide) (fun c20 => ?_) (fun c20 => ?_)
    · rw [if_neg c20] at hf
      refine jx_iload_n dX12_sign_21 rfl ?_
      refine jx_bipush (v := 41) dX12_sign_22 (by decide) ?_
      refine jx_icmp_ne (tgt := 32) dX12_sign_24 (by decide) (fun c21 => ?_) (fun c21 => ?_)
      · rw [if_neg c21] at hf
        refine jx_iconst (v := 3) dX12_sign_32 (by decide) ?_
        cases hf
        exact hJ3
      · rw [if_pos c21] at hf
        refine jx_bipush (v := 7) dX12_sign_27 (by decide) ?_
        refine jx_goto (tgt := 33) dX12_sign_29 (by decide) ?_
        cases hf
        exact hJ3
    · rw [if_pos c20] at hf
      refine jx_bipush (v := 6) dX12_sign_16 (by decide) ?_
      refine jx_goto (tgt := 33) dX12_sign_18 (by decide) ?_
      cases hf
      exact hJ3
  · rw [if_pos c1] at hf
    refine jx_iconst (v := 4) dX12_sign_6 (by decide) ?_
    refine jx_goto (tgt := 33) dX12_sign_7 (by decide) ?_
    cases hf
    exact hJ3
def l_X12_cutsUp : Nat → Nat → Int32 → Int32 → Int32 → Int32 → Int64 → Int32 → Int32 → jw → Option (jw)
  | 0, _, _, _, _, _, _, _, _, _ => none
  | n + 1, t, b1, b2, b3, b4, b4l, b6, b7, w => (if t = 0 then (if 400 < (w.1 162 10) then some w else jbd2 (f_X12_byteAt b1 w) fun x3 w4 => (if b1 < (w4.1 162 4) then (if x3 = 9 then jl (b1 + 1) fun x7 => (l_X12_cutsUp n 0 x7 0 0 0 0 0 0 w4) else (if x3 = 10 then jl (b1 + 1) fun x9 => (l_X12_cutsUp n 0 x9 0 0 0 0 0 0 w4) else (if x3 = 13 then jl (b1 + 1) fun x11 => (l_X12_cutsUp n 0 x11 0 0 0 0 0 0 w4) else (if x3 = 32 then jl (b1 + 1) fun x28 => (l_X12_cutsUp n 0 x28 0 0 0 0 0 0 w4) else jbd2 (f_X12_isLetter x3 w4) fun x14 w15 => (if (jb x14) = 0 then jbd2 (f_X12_isDigit x3 w15) fun x18 w19 => (if (jb x18) = 0 then jbd2 (f_X12_byteAt (b1 + 1) w19) fun x22 w23 => jbd2 (f_X12_sign b1 x3 x22 w23) fun x25 w26 => jl (b1 + x25 : Int32) fun x27 => (l_X12_cutsUp n 0 x27 0 0 0 0 0 0 w26) else (l_X12_cutsUp n 3 b1 x3 0 0 0 0 0 w19)) else (l_X12_cutsUp n 1 b1 x3 0 0 0 0 0 w15)))))) else jbd (f_X12_token 0 (w4.1 162 4) 0 0 w4) fun q29 => some q29)) else (if t = 1 then jbd2 (f_X12_byteAt (b1 + b3) w) fun x31 w32 => jbd2 (f_X12_isLetter x31 w32) fun x34 w35 => (if (jb x34) = 0 then jbd (if b3 ≤ 8 then some (1 : Int32) else some (3 : Int32)) fun x38 => (if 8 < b3 then jbd (f_X12_token x38 b1 0 b4l w35) fun q41 => jl (b1 + b3 : Int32) fun x42 => (l_X12_cutsUp n 0 x42 0 0 0 0 0 0 q41) else (l_X12_cutsUp n 2 b1 b2 b3 0 b4l x38 0 w35)) else jbd2 (if 8 ≤ b3 then some (b4l, w35) else jbd2 (f_X12_byteAt (b1 + b3) w35) fun x49 w50 => jbd2 (f_X12_appends b4l x49 w50) fun x52 w53 => some (x52, w53)) fun x44 w45 => jl (b3 + 1) fun x47 => (l_X12_cutsUp n 1 b1 b2 x47 0 x44 0 0 w45)) else (if t = 2 then (if 11 ≤ b7 then jbd (f_X12_token b6 b1 0 b4l w) fun q55 => jl (b1 + b3 : Int32) fun x56 => (l_X12_cutsUp n 0 x56 0 0 0 0 0 0 q55) else jg (jin b7 11) (jbd (if (lg_cmp (w.2.2.1 169 (Int32.toNatClampNeg b7)) b4l) = 0 then jl (20 + b7 : Int32) fun x62 => some x62 else some b6) fun x59 => jl (b7 + 1) fun x61 => (l_X12_cutsUp n 2 b1 b2 b3 0 b4l x59 x61 w))) else jbd2 (f_X12_byteAt (b1 + b3) w) fun x64 w65 => jbd2 (f_X12_isDigit x64 w65) fun x67 w68 => (if (jb x67) = 0 then jbd (if b3 ≤ 4 then some (2 : Int32) else some (3 : Int32)) fun x71 => jbd (f_X12_token x71 b1 b4 0 w68) fun q73 => jl (b1 + b3 : Int32) fun x74 => (l_X12_cutsUp n 0 x74 0 0 0 0 0 0 q73) else jbd2 (if 4 ≤ b3 then some (b4, w68) else jbd2 (f_X12_byteAt (b1 + b3) w68) fun x81 w82 => jl (((10 * b4) + x81) - 48 : Int32) fun x83 => some (x83, w82)) fun x76 w77 => jl (b3 + 1) fun x79 => (l_X12_cutsUp n 3 b1 b2 x79 x76 0 0 0 w77)))))
set_option maxRecDepth 20000 in
set_option maxHeartbeats 2000000 in
theorem sl_X12_cutsUp {E : jE} (hE : jfull E) : ∀ (n : Nat), (∀ (b1 : Int32) (b2 : Int32) (b3 : Int32) (b4 : Int32) (b4l : Int64) (b6 : Int32) (b7 : Int32) (w : jw) (w' : jw), l_X12_cutsUp n 0 b1 b2 b3 b4 b4l b6 b7 w = some w' → jX E m_X12_cutsUp 2 7 [(0, .ref (E.2.2.2 + 162)), (1, .int b1)] [] w none w') ∧ (∀ (b1 : Int32) (b2 : Int32) (b3 : Int32) (b4 : Int32) (b4l : Int64) (b6 : Int32) (b7 : Int32) (w : jw) (w' : jw), l_X12_cutsUp n 1 b1 b2 b3 b4 b4l b6 b7 w = some w' → jX E m_X12_cutsUp 2 85 [(0, .ref (E.2.2.2 + 162)), (1, .int b1), (2, .int b2), (3, .int b3), (4, .long b4l)] [] w none w') ∧ (∀ (b1 : Int32) (b2 : Int32) (b3 : Int32) (b4 : Int32) (b4l : Int64) (b6 : Int32) (b7 : Int32) (w : jw) (w' : jw), l_X12_cutsUp n 2 b1 b2 b3 b4 b4l b6 b7 w = some w' → jX E m_X12_cutsUp 2 146 [(0, .ref (E.2.2.2 + 162)), (1, .int b1), (2, .int b2), (3, .int b3), (4, .long b4l), (6, .int b6), (7, .int b7)] [] w none w') ∧ (∀ (b1 : Int32) (b2 : Int32) (b3 : Int32) (b4 : Int32) (b4l : Int64) (b6 : Int32) (b7 : Int32) (w : jw) (w' : jw), l_X12_cutsUp n 3 b1 b2 b3 b4 b4l b6 b7 w = some w' → jX E m_X12_cutsUp 2 208 [(0, .ref (E.2.2.2 + 162)), (1, .int b1), (2, .int b2), (3, .int b3), (4, .int b4)] [] w none w') := by
  intro n
  induction n with
  | zero => refine ⟨?_, ?_, ?_, ?_⟩ <;> (intros; rename_i hf; cases hf)
  | succ n ih =>
    refine ⟨?_, ?_, ?_, ?_⟩
    · intro b1 b2 b3 b4 b4l b6 b7 w w' hf
      unfold l_X12_cutsUp at hf
      rw [if_pos (by decide)] at hf
      refine jx_aload_n dX12_cutsUp_7 rfl ?_
      refine jx_geti dX12_cutsUp_8 fl_X12_135 (kj_162 hE) sr_162_10 ?_
      refine jx_sipush (v := 400) dX12_cutsUp_11 (by decide) ?_
      refine jx_icmp_gt (tgt := 294) dX12_cutsUp_14 (by decide) (fun c1 => ?_) (fun c1 => ?_)
      · rw [if_pos c1] at hf
        cases hf
        exact jx_vret dX12_cutsUp_294 rfl rfl
      · rw [if_neg c1] at hf
        refine jx_aload_n dX12_cutsUp_17 rfl ?_
        refine jx_iload_n dX12_cutsUp_18 rfl ?_
        obtain ⟨x3, w4, hq2, hf⟩ := jbd2_inv hf
        refine jx_cVi (a := 162) (As := [.int b1]) (rest := []) dX12_cutsUp_19 ml_X12_138 mv_X12_byteAt (s_X12_byteAt hE hq2) rfl rfl (jc_162 hE) (by decide) (Nat.le_of_ble_eq_true rfl) ?_
        refine jx_istore_n (ls' := [(0, .ref (E.2.2.2 + 162)), (1, .int b1), (2, .int x3)]) dX12_cutsUp_22 (by decide) rfl ?_
        refine jx_iload_n dX12_cutsUp_23 rfl ?_
        refine jx_aload_n dX12_cutsUp_24 rfl ?_
        refine jx_geti dX12_cutsUp_25 fl_X12_126 (kj_162 hE) sr_162_4 ?_
        refine jx_icmp_lt (tgt := 43) dX12_cutsUp_28 (by decide) (fun c5 => ?_) (fun c5 => ?_)
        · rw [if_pos c5] at hf
          refine jx_iload_n dX12_cutsUp_43 rfl ?_
          refine jx_bipush (v := 9) dX12_cutsUp_44 (by decide) ?_
          refine jx_icmp_eq (tgt := 67) dX12_cutsUp_46 (by decide) (fun c6 => ?_) (fun c6 => ?_)
          · rw [if_pos c6] at hf
            obtain ⟨x7, hx7, hf⟩ := jl_inv hf
            refine jx_iinc (v := x7) (ls' := [(0, .ref (E.2.2.2 + 162)), (1, .int x7), (2, .int x3)]) dX12_cutsUp_67 rfl (by rw [hx7]; rfl) (by decide) rfl ?_
            refine jx_goto (tgt := 291) dX12_cutsUp_70 (by decide) ?_
            refine jx_goto (tgt := 7) dX12_cutsUp_291 (by decide) ?_
            refine jx_pick [0, 1] rfl ?_
            exact ih.1 _ _ _ _ _ _ _ _ _ hf
          · rw [if_neg c6] at hf
            refine jx_iload_n dX12_cutsUp_49 rfl ?_
            refine jx_bipush (v := 10) dX12_cutsUp_50 (by decide) ?_
            refine jx_icmp_eq (tgt := 67) dX12_cutsUp_52 (by decide) (fun c8 => ?_) (fun c8 => ?_)
            · rw [if_pos c8] at hf
              obtain ⟨x9, hx9, hf⟩ := jl_inv hf
              refine jx_iinc (v := x9) (ls' := [(0, .ref (E.2.2.2 + 162)), (1, .int x9), (2, .int x3)]) dX12_cutsUp_67 rfl (by rw [hx9]; rfl) (by decide) rfl ?_
              refine jx_goto (tgt := 291) dX12_cutsUp_70 (by decide) ?_
              refine jx_goto (tgt := 7) dX12_cutsUp_291 (by decide) ?_
              refine jx_pick [0, 1] rfl ?_
              exact ih.1 _ _ _ _ _ _ _ _ _ hf
            · rw [if_neg c8] at hf
              refine jx_iload_n dX12_cutsUp_55 rfl ?_
              refine jx_bipush (v := 13) dX12_cutsUp_56 (by decide) ?_
              refine jx_icmp_eq (tgt := 67) dX12_cutsUp_58 (by decide) (fun c10 => ?_) (fun c10 => ?_)
              · rw [if_pos c10] at hf
                obtain ⟨x11, hx11, hf⟩ := jl_inv hf
                refine jx_iinc (v := x11) (ls' := [(0, .ref (E.2.2.2 + 162)), (1, .int x11), (2, .int x3)]) dX12_cutsUp_67 rfl (by rw [hx11]; rfl) (by decide) rfl ?_
                refine jx_goto (tgt := 291) dX12_cutsUp_70 (by decide) ?_
                refine jx_goto (tgt := 7) dX12_cutsUp_291 (by decide) ?_
                refine jx_pick [0, 1] rfl ?_
                exact ih.1 _ _ _ _ _ _ _ _ _ hf
              · rw [if_neg c10] at hf
                refine jx_iload_n dX12_cutsUp_61 rfl ?_
                refine jx_bipush (v := 32) dX12_cutsUp_62 (by decide) ?_
                refine jx_icmp_ne (tgt := 73) dX12_cutsUp_64 (by decide) (fun c12 => ?_) (fun c12 => ?_)
                · rw [if_neg c12] at hf
                  refine jx_iload_n dX12_cutsUp_73 rfl ?_
                  obtain ⟨x14, w15, hq13, hf⟩ := jbd2_inv hf
                  refine jx_cSi (As := [.int x3]) (rest := []) dX12_cutsUp_74 ml_X12_146 ms_X12_isLetter (s_X12_isLetter hE hq13) rfl rfl rfl (by decide) (Nat.le_of_ble_eq_true rfl) ?_
                  refine jx_if_eq (tgt := 196) dX12_cutsUp_77 (by decide) (fun c16 => ?_) (fun c16 => ?_)
                  · rw [if_pos c16] at hf
                    refine jx_iload_n dX12_cutsUp_196 rfl ?_
                    obtain ⟨x18, w19, hq17, hf⟩ := jbd2_inv hf
                    refine jx_cSi (As := [.int x3]) (rest := []) dX12_cutsUp_197 ml_X12_150 ms_X12_isDigit (s_X12_isDigit hE hq17) rfl rfl rfl (by decide) (Nat.le_of_ble_eq_true rfl) ?_
                    refine jx_if_eq (tgt := 275) dX12_cutsUp_200 (by decide) (fun c20 => ?_) (fun c20 => ?_)
                    · rw [if_pos c20] at hf
                      refine jx_iload_n dX12_cutsUp_275 rfl ?_
                      refine jx_aload_n dX12_cutsUp_276 rfl ?_
                      refine jx_iload_n dX12_cutsUp_277 rfl ?_
                      refine jx_iload_n dX12_cutsUp_278 rfl ?_
                      refine jx_aload_n dX12_cutsUp_279 rfl ?_
                      refine jx_iload_n dX12_cutsUp_280 rfl ?_
                      refine jx_iconst (v := 1) dX12_cutsUp_281 (by decide) ?_
                      refine jx_iadd dX12_cutsUp_282 ?_
                      obtain ⟨x22, w23, hq21, hf⟩ := jbd2_inv hf
                      refine jx_cVi (a := 162) (As := [.int (b1 + 1)]) (rest := [.int x3, .int b1, .ref (E.2.2.2 + 162), .int b1]) dX12_cutsUp_283 ml_X12_138 mv_X12_byteAt (s_X12_byteAt hE hq21) rfl rfl (jc_162 hE) (by decide) (Nat.le_of_ble_eq_true rfl) ?_
                      obtain ⟨x25, w26, hq24, hf⟩ := jbd2_inv hf
                      refine jx_cVi (a := 162) (As := [.int b1, .int x3, .int x22]) (rest := [.int b1]) dX12_cutsUp_286 ml_X12_153 mv_X12_sign (s_X12_sign hE hq24) rfl rfl (jc_162 hE) (by decide) (Nat.le_of_ble_eq_true rfl) ?_
                      refine jx_iadd dX12_cutsUp_289 ?_
                      obtain ⟨x27, hx27, hf⟩ := jl_inv hf
                      refine jx_nm hx27 ?_
                      refine jx_istore_n (ls' := [(0, .ref (E.2.2.2 + 162)), (1, .int x27), (2, .int x3)]) dX12_cutsUp_290 (by decide) rfl ?_
                      refine jx_goto (tgt := 7) dX12_cutsUp_291 (by decide) ?_
                      refine jx_pick [0, 1] rfl ?_
                      exact ih.1 _ _ _ _ _ _ _ _ _ hf
                    · rw [if_neg c20] at hf
                      refine jx_iconst (v := 0) dX12_cutsUp_203 (by decide) ?_
                      refine jx_istore_n (ls' := [(0, .ref (E.2.2.2 + 162)), (1, .int b1), (2, .int x3), (3, .int 0)]) dX12_cutsUp_204 (by decide) rfl ?_
                      refine jx_iconst (v := 0) dX12_cutsUp_205 (by decide) ?_
                      refine jx_istore (ls' := [(0, .ref (E.2.2.2 + 162)), (1, .int b1), (2, .int x3), (3, .int 0), (4, .int 0)]) dX12_cutsUp_206 (by decide) rfl ?_
                      exact ih.2.2.2 _ _ _ _ _ _ _ _ _ hf
                  · rw [if_neg c16] at hf
                    refine jx_iconst (v := 0) dX12_cutsUp_80 (by decide) ?_
                    refine jx_istore_n (ls' := [(0, .ref (E.2.2.2 + 162)), (1, .int b1), (2, .int x3), (3, .int 0)]) dX12_cutsUp_81 (by decide) rfl ?_
                    refine jx_lconst (v := 0) dX12_cutsUp_82 (by decide) ?_
                    refine jx_lstore (ls' := [(0, .ref (E.2.2.2 + 162)), (1, .int b1), (2, .int x3), (3, .int 0), (4, .long 0)]) dX12_cutsUp_83 (by decide) rfl ?_
                    exact ih.2.1 _ _ _ _ _ _ _ _ _ hf
                · rw [if_pos c12] at hf
                  obtain ⟨x28, hx28, hf⟩ := jl_inv hf
                  refine jx_iinc (v := x28) (ls' := [(0, .ref (E.2.2.2 + 162)), (1, .int x28), (2, .int x3)]) dX12_cutsUp_67 rfl (by rw [hx28]; rfl) (by decide) rfl ?_
                  refine jx_goto (tgt := 291) dX12_cutsUp_70 (by decide) ?_
                  refine jx_goto (tgt := 7) dX12_cutsUp_291 (by decide) ?_
                  refine jx_pick [0, 1] rfl ?_
                  exact ih.1 _ _ _ _ _ _ _ _ _ hf
        · rw [if_neg c5] at hf
          refine jx_aload_n dX12_cutsUp_31 rfl ?_
          refine jx_iconst (v := 0) dX12_cutsUp_32 (by decide) ?_
          refine jx_aload_n dX12_cutsUp_33 rfl ?_
          refine jx_geti dX12_cutsUp_34 fl_X12_126 (kj_162 hE) sr_162_4 ?_
          refine jx_iconst (v := 0) dX12_cutsUp_37 (by decide) ?_
          refine jx_lconst (v := 0) dX12_cutsUp_38 (by decide) ?_
          obtain ⟨q29, hq29, hf⟩ := jbd_inv hf
          refine jx_cVv (a := 162) (As := [.int 0, .int (w4.1 162 4), .int 0, .long 0]) (rest := []) dX12_cutsUp_39 ml_X12_142 mv_X12_token (s_X12_token hE hq29) rfl rfl (jc_162 hE) (by decide) (Nat.le_of_ble_eq_true rfl) ?_
          cases hf
          exact jx_vret dX12_cutsUp_42 rfl rfl
    · intro b1 b2 b3 b4 b4l b6 b7 w w' hf
      unfold l_X12_cutsUp at hf
      rw [if_neg (by decide)] at hf
      rw [if_pos (by decide)] at hf
      refine jx_aload_n dX12_cutsUp_85 rfl ?_
      refine jx_iload_n dX12_cutsUp_86 rfl ?_
      refine jx_iload_n dX12_cutsUp_87 rfl ?_
      refine jx_iadd dX12_cutsUp_88 ?_
      obtain ⟨x31, w32, hq30, hf⟩ := jbd2_inv hf
      refine jx_cVi (a := 162) (As := [.int (b1 + b3)]) (rest := []) dX12_cutsUp_89 ml_X12_138 mv_X12_byteAt (s_X12_byteAt hE hq30) rfl rfl (jc_162 hE) (by decide) (Nat.le_of_ble_eq_true rfl) ?_
      obtain ⟨x34, w35, hq33, hf⟩ := jbd2_inv hf
      refine jx_cSi (As := [.int x31]) (rest := []) dX12_cutsUp_92 ml_X12_146 ms_X12_isLetter (s_X12_isLetter hE hq33) rfl rfl rfl (by decide) (Nat.le_of_ble_eq_true rfl) ?_
      refine jx_if_eq (tgt := 124) dX12_cutsUp_95 (by decide) (fun c36 => ?_) (fun c36 => ?_)
      · rw [if_pos c36] at hf
        refine jx_iload_n dX12_cutsUp_124 rfl ?_
        refine jx_bipush (v := 8) dX12_cutsUp_125 (by decide) ?_
        obtain ⟨x38, hqhJ39, hf⟩ := jbd_inv hf
        have hJ39 : jX E m_X12_cutsUp 2 135 [(0, .ref (E.2.2.2 + 162)), (1, .int b1), (2, .int b2), (3, .int b3), (4, .long b4l)] [.int x38] w35 none w' := by
          refine jx_istore (ls' := [(0, .ref (E.2.2.2 + 162)), (1, .int b1), (2, .int b2), (3, .int b3), (4, .long b4l), (6, .int x38)]) dX12_cutsUp_135 (by decide) rfl ?_
          refine jx_iload_n dX12_cutsUp_137 rfl ?_
          refine jx_bipush (v := 8) dX12_cutsUp_138 (by decide) ?_
          refine jx_icmp_gt (tgt := 179) dX12_cutsUp_140 (by decide) (fun c40 => ?_) (fun c40 => ?_)
          · rw [if_pos c40] at hf
            refine jx_aload_n dX12_cutsUp_179 rfl ?_
            refine jx_iload dX12_cutsUp_180 rfl ?_
            refine jx_iload_n dX12_cutsUp_182 rfl ?_
            refine jx_iconst (v := 0) dX12_cutsUp_183 (by decide) ?_
            refine jx_lload dX12_cutsUp_184 rfl ?_
            obtain ⟨q41, hq41, hf⟩ := jbd_inv hf
            refine jx_cVv (a := 162) (As := [.int x38, .int b1, .int 0, .long b4l]) (rest := []) dX12_cutsUp_186 ml_X12_142 mv_X12_token (s_X12_token hE hq41) rfl rfl (jc_162 hE) (by decide) (Nat.le_of_ble_eq_true rfl) ?_
            refine jx_iload_n dX12_cutsUp_189 rfl ?_
            refine jx_iload_n dX12_cutsUp_190 rfl ?_
            refine jx_iadd dX12_cutsUp_191 ?_
            obtain ⟨x42, hx42, hf⟩ := jl_inv hf
            refine jx_nm hx42 ?_
            refine jx_istore_n (ls' := [(0, .ref (E.2.2.2 + 162)), (1, .int x42), (2, .int b2), (3, .int b3), (4, .long b4l), (6, .int x38)]) dX12_cutsUp_192 (by decide) rfl ?_
            refine jx_goto (tgt := 291) dX12_cutsUp_193 (by decide) ?_
            refine jx_goto (tgt := 7) dX12_cutsUp_291 (by decide) ?_
            refine jx_pick [0, 1] rfl ?_
            exact ih.1 _ _ _ _ _ _ _ _ _ hf
          · rw [if_neg c40] at hf
            refine jx_iconst (v := 0) dX12_cutsUp_143 (by decide) ?_
            refine jx_istore (ls' := [(0, .ref (E.2.2.2 + 162)), (1, .int b1), (2, .int b2), (3, .int b3), (4, .long b4l), (6, .int x38), (7, .int 0)]) dX12_cutsUp_144 (by decide) rfl ?_
            exact ih.2.2.1 _ _ _ _ _ _ _ _ _ hf
        clear hf
        have hf := hqhJ39
        clear hqhJ39
        refine jx_icmp_le (tgt := 134) dX12_cutsUp_127 (by decide) (fun c37 => ?_) (fun c37 => ?_)
        · rw [if_pos c37] at hf
          refine jx_iconst (v := 1) dX12_cutsUp_134 (by decide) ?_
          cases hf
          exact hJ39
        · rw [if_neg c37] at hf
          refine jx_iconst (v := 3) dX12_cutsUp_130 (by decide) ?_
          refine jx_goto (tgt := 135) dX12_cutsUp_131 (by decide) ?_
          cases hf
          exact hJ39
      · rw [if_neg c36] at hf
        refine jx_iload_n dX12_cutsUp_98 rfl ?_
        refine jx_bipush (v := 8) dX12_cutsUp_99 (by decide) ?_
        obtain ⟨x44, w45, hqhJ46, hf⟩ := jbd2_inv hf
        have hJ46 : jX E m_X12_cutsUp 2 118 [(0, .ref (E.2.2.2 + 162)), (1, .int b1), (2, .int b2), (3, .int b3), (4, .long x44)] [] w45 none w' := by
          obtain ⟨x47, hx47, hf⟩ := jl_inv hf
          refine jx_iinc (v := x47) (ls' := [(0, .ref (E.2.2.2 + 162)), (1, .int b1), (2, .int b2), (3, .int x47), (4, .long x44)]) dX12_cutsUp_118 rfl (by rw [hx47]; rfl) (by decide) rfl ?_
          refine jx_goto (tgt := 85) dX12_cutsUp_121 (by decide) ?_
          exact ih.2.1 _ _ _ _ _ _ _ _ _ hf
        clear hf
        have hf := hqhJ46
        clear hqhJ46
        refine jx_icmp_ge (tgt := 118) dX12_cutsUp_101 (by decide) (fun c43 => ?_) (fun c43 => ?_)
        · rw [if_pos c43] at hf
          cases hf
          exact hJ46
        · rw [if_neg c43] at hf
          refine jx_lload dX12_cutsUp_104 rfl ?_
          refine jx_aload_n dX12_cutsUp_106 rfl ?_
          refine jx_iload_n dX12_cutsUp_107 rfl ?_
          refine jx_iload_n dX12_cutsUp_108 rfl ?_
          refine jx_iadd dX12_cutsUp_109 ?_
          obtain ⟨x49, w50, hq48, hf⟩ := jbd2_inv hf
          refine jx_cVi (a := 162) (As := [.int (b1 + b3)]) (rest := [.long b4l]) dX12_cutsUp_110 ml_X12_138 mv_X12_byteAt (s_X12_byteAt hE hq48) rfl rfl (jc_162 hE) (by decide) (Nat.le_of_ble_eq_true rfl) ?_
          obtain ⟨x52, w53, hq51, hf⟩ := jbd2_inv hf
          refine jx_cSl (As := [.long b4l, .int x49]) (rest := []) dX12_cutsUp_113 ml_X12_131 ms_X12_appends (s_X12_appends hE hq51) rfl rfl rfl (by decide) (Nat.le_of_ble_eq_true rfl) ?_
          refine jx_lstore (ls' := [(0, .ref (E.2.2.2 + 162)), (1, .int b1), (2, .int b2), (3, .int b3), (4, .long x52)]) dX12_cutsUp_116 (by decide) rfl ?_
          cases hf
          exact hJ46
    · intro b1 b2 b3 b4 b4l b6 b7 w w' hf
      unfold l_X12_cutsUp at hf
      rw [if_neg (by decide)] at hf
      rw [if_neg (by decide)] at hf
      rw [if_pos (by decide)] at hf
      refine jx_iload dX12_cutsUp_146 rfl ?_
      refine jx_bipush (v := 11) dX12_cutsUp_148 (by decide) ?_
      refine jx_icmp_ge (tgt := 179) dX12_cutsUp_150 (by decide) (fun c54 => ?_) (fun c54 => ?_)
      · rw [if_pos c54] at hf
        refine jx_aload_n dX12_cutsUp_179 rfl ?_
        refine jx_iload dX12_cutsUp_180 rfl ?_
        refine jx_iload_n dX12_cutsUp_182 rfl ?_
        refine jx_iconst (v := 0) dX12_cutsUp_183 (by decide) ?_
        refine jx_lload dX12_cutsUp_184 rfl ?_
        obtain ⟨q55, hq55, hf⟩ := jbd_inv hf
        refine jx_cVv (a := 162) (As := [.int b6, .int b1, .int 0, .long b4l]) (rest := []) dX12_cutsUp_186 ml_X12_142 mv_X12_token (s_X12_token hE hq55) rfl rfl (jc_162 hE) (by decide) (Nat.le_of_ble_eq_true rfl) ?_
        refine jx_iload_n dX12_cutsUp_189 rfl ?_
        refine jx_iload_n dX12_cutsUp_190 rfl ?_
        refine jx_iadd dX12_cutsUp_191 ?_
        obtain ⟨x56, hx56, hf⟩ := jl_inv hf
        refine jx_nm hx56 ?_
        refine jx_istore_n (ls' := [(0, .ref (E.2.2.2 + 162)), (1, .int x56), (2, .int b2), (3, .int b3), (4, .long b4l), (6, .int b6), (7, .int b7)]) dX12_cutsUp_192 (by decide) rfl ?_
        refine jx_goto (tgt := 291) dX12_cutsUp_193 (by decide) ?_
        refine jx_goto (tgt := 7) dX12_cutsUp_291 (by decide) ?_
        refine jx_pick [0, 1] rfl ?_
        exact ih.1 _ _ _ _ _ _ _ _ _ hf
      · rw [if_neg c54] at hf
        refine jx_aload_n dX12_cutsUp_153 rfl ?_
        refine jx_getr dX12_cutsUp_154 fl_X12_34 (kj_162 hE) sr_162_9 ?_
        refine jx_iload dX12_cutsUp_157 rfl ?_
        obtain ⟨c57, hf⟩ := jg_inv hf
        refine jx_lald dX12_cutsUp_159 (kj_169 hE) (jin_vp c57) ?_
        refine jx_lload dX12_cutsUp_160 rfl ?_
        refine jx_lcmp dX12_cutsUp_162 ?_
        obtain ⟨x59, hqhJ60, hf⟩ := jbd_inv hf
        have hJ60 : jX E m_X12_cutsUp 2 173 [(0, .ref (E.2.2.2 + 162)), (1, .int b1), (2, .int b2), (3, .int b3), (4, .long b4l), (6, .int x59), (7, .int b7)] [] w none w' := by
          obtain ⟨x61, hx61, hf⟩ := jl_inv hf
          refine jx_iinc (v := x61) (ls' := [(0, .ref (E.2.2.2 + 162)), (1, .int b1), (2, .int b2), (3, .int b3), (4, .long b4l), (6, .int x59), (7, .int x61)]) dX12_cutsUp_173 rfl (by rw [hx61]; rfl) (by decide) rfl ?_
          refine jx_goto (tgt := 146) dX12_cutsUp_176 (by decide) ?_
          exact ih.2.2.1 _ _ _ _ _ _ _ _ _ hf
        clear hf
        have hf := hqhJ60
        clear hqhJ60
        refine jx_if_ne (tgt := 173) dX12_cutsUp_163 (by decide) (fun c58 => ?_) (fun c58 => ?_)
        · rw [if_neg c58] at hf
          cases hf
          exact hJ60
        · rw [if_pos c58] at hf
          refine jx_bipush (v := 20) dX12_cutsUp_166 (by decide) ?_
          refine jx_iload dX12_cutsUp_168 rfl ?_
          refine jx_iadd dX12_cutsUp_170 ?_
          obtain ⟨x62, hx62, hf⟩ := jl_inv hf
          refine jx_nm hx62 ?_
          refine jx_istore (ls' := [(0, .ref (E.2.2.2 + 162)), (1, .int b1), (2, .int b2), (3, .int b3), (4, .long b4l), (6, .int x62), (7, .int b7)]) dX12_cutsUp_171 (by decide) rfl ?_
          cases hf
          exact hJ60
    · intro b1 b2 b3 b4 b4l b6 b7 w w' hf
      unfold l_X12_cutsUp at hf
      rw [if_neg (by decide)] at hf
      rw [if_neg (by decide)] at hf
      rw [if_neg (by decide)] at hf
      refine jx_aload_n dX12_cutsUp_208 rfl ?_
      refine jx_iload_n dX12_cutsUp_209 rfl ?_
      refine jx_iload_n dX12_cutsUp_210 rfl ?_
      refine jx_iadd dX12_cutsUp_211 ?_
      obtain ⟨x64, w65, hq63, hf⟩ := jbd2_inv hf
      refine jx_cVi (a := 162) (As := [.int (b1 + b3)]) (rest := []) dX12_cutsUp_212 ml_X12_138 mv_X12_byteAt (s_X12_byteAt hE hq63) rfl rfl (jc_162 hE) (by decide) (Nat.le_of_ble_eq_true rfl) ?_
      obtain ⟨x67, w68, hq66, hf⟩ := jbd2_inv hf
      refine jx_cSi (As := [.int x64]) (rest := []) dX12_cutsUp_215 ml_X12_150 ms_X12_isDigit (s_X12_isDigit hE hq66) rfl rfl rfl (by decide) (Nat.le_of_ble_eq_true rfl) ?_
      refine jx_if_eq (tgt := 250) dX12_cutsUp_218 (by decide) (fun c69 => ?_) (fun c69 => ?_)
      · rw [if_pos c69] at hf
        refine jx_aload_n dX12_cutsUp_250 rfl ?_
        refine jx_iload_n dX12_cutsUp_251 rfl ?_
        refine jx_iconst (v := 4) dX12_cutsUp_252 (by decide) ?_
        obtain ⟨x71, hqhJ72, hf⟩ := jbd_inv hf
        have hJ72 : jX E m_X12_cutsUp 2 261 [(0, .ref (E.2.2.2 + 162)), (1, .int b1), (2, .int b2), (3, .int b3), (4, .int b4)] [.int x71, .ref (E.2.2.2 + 162)] w68 none w' := by
          refine jx_iload_n dX12_cutsUp_261 rfl ?_
          refine jx_iload dX12_cutsUp_262 rfl ?_
          refine jx_lconst (v := 0) dX12_cutsUp_264 (by decide) ?_
          obtain ⟨q73, hq73, hf⟩ := jbd_inv hf
          refine jx_cVv (a := 162) (As := [.int x71, .int b1, .int b4, .long 0]) (rest := []) dX12_cutsUp_265 ml_X12_142 mv_X12_token (s_X12_token hE hq73) rfl rfl (jc_162 hE) (by decide) (Nat.le_of_ble_eq_true rfl) ?_
          refine jx_iload_n dX12_cutsUp_268 rfl ?_
          refine jx_iload_n dX12_cutsUp_269 rfl ?_
          refine jx_iadd dX12_cutsUp_270 ?_
          obtain ⟨x74, hx74, hf⟩ := jl_inv hf
          refine jx_nm hx74 ?_
          refine jx_istore_n (ls' := [(0, .ref (E.2.2.2 + 162)), (1, .int x74), (2, .int b2), (3, .int b3), (4, .int b4)]) dX12_cutsUp_271 (by decide) rfl ?_
          refine jx_goto (tgt := 291) dX12_cutsUp_272 (by decide) ?_
          refine jx_goto (tgt := 7) dX12_cutsUp_291 (by decide) ?_
          refine jx_pick [0, 1] rfl ?_
          exact ih.1 _ _ _ _ _ _ _ _ _ hf
        clear hf
        have hf := hqhJ72
        clear hqhJ72
        refine jx_icmp_le (tgt := 260) dX12_cutsUp_253 (by decide) (fun c70 => ?_) (fun c70 => ?_)
        · rw [if_pos c70] at hf
          refine jx_iconst (v := 2) dX12_cutsUp_260 (by decide) ?_
          cases hf
          exact hJ72
        · rw [if_neg c70] at hf
          refine jx_iconst (v := 3) dX12_cutsUp_256 (by decide) ?_
          refine jx_goto (tgt := 261) dX12_cutsUp_257 (by decide) ?_
          cases hf
          exact hJ72
      · rw [if_neg c69] at hf
        refine jx_iload_n dX12_cutsUp_221 rfl ?_
        refine jx_iconst (v := 4) dX12_cutsUp_222 (by decide) ?_
        obtain ⟨x76, w77, hqhJ78, hf⟩ := jbd2_inv hf
        have hJ78 : jX E m_X12_cutsUp 2 244 [(0, .ref (E.2.2.2 + 162)), (1, .int b1), (2, .int b2), (3, .int b3), (4, .int x76)] [] w77 none w' := by
          obtain ⟨x79, hx79, hf⟩ := jl_inv hf
          refine jx_iinc (v := x79) (ls' := [(0, .ref (E.2.2.2 + 162)), (1, .int b1), (2, .int b2), (3, .int x79), (4, .int x76)]) dX12_cutsUp_244 rfl (by rw [hx79]; rfl) (by decide) rfl ?_
          refine jx_goto (tgt := 208) dX12_cutsUp_247 (by decide) ?_
          exact ih.2.2.2 _ _ _ _ _ _ _ _ _ hf
        clear hf
        have hf := hqhJ78
        clear hqhJ78
        refine jx_icmp_ge (tgt := 244) dX12_cutsUp_223 (by decide) (fun c75 => ?_) (fun c75 => ?_)
        · rw [if_pos c75] at hf
          cases hf
          exact hJ78
        · rw [if_neg c75] at hf
          refine jx_bipush (v := 10) dX12_cutsUp_226 (by decide) ?_
          refine jx_iload dX12_cutsUp_228 rfl ?_
          refine jx_imul dX12_cutsUp_230 ?_
          refine jx_aload_n dX12_cutsUp_231 rfl ?_
          refine jx_iload_n dX12_cutsUp_232 rfl ?_
          refine jx_iload_n dX12_cutsUp_233 rfl ?_
          refine jx_iadd dX12_cutsUp_234 ?_
          obtain ⟨x81, w82, hq80, hf⟩ := jbd2_inv hf
          refine jx_cVi (a := 162) (As := [.int (b1 + b3)]) (rest := [.int (10 * b4)]) dX12_cutsUp_235 ml_X12_138 mv_X12_byteAt (s_X12_byteAt hE hq80) rfl rfl (jc_162 hE) (by decide) (Nat.le_of_ble_eq_true rfl) ?_
          refine jx_iadd dX12_cutsUp_238 ?_
          refine jx_bipush (v := 48) dX12_cutsUp_239 (by decide) ?_
          refine jx_isub dX12_cutsUp_241 ?_
          obtain ⟨x83, hx83, hf⟩ := jl_inv hf
          refine jx_nm hx83 ?_
          refine jx_istore (ls' := [(0, .ref (E.2.2.2 + 162)), (1, .int b1), (2, .int b2), (3, .int b3), (4, .int x83)]) dX12_cutsUp_242 (by decide) rfl ?_
          cases hf
          exact hJ78
def f_X12_cutsUp  (w : jw) : Option (jw) := jl (jsetI w 162 10 0) fun w84 => (l_X12_cutsUp jfu 0 0 0 0 0 0 0 0 w84)
set_option maxRecDepth 20000 in
set_option maxHeartbeats 2000000 in
theorem s_X12_cutsUp {E : jE} (hE : jfull E)  {w w' : jw} (hf : f_X12_cutsUp  w = some w') : jC E m_X12_cutsUp 2 [.ref (E.2.2.2 + 162)] w none w' := by
  refine jC_of (ls := [(0, .ref (E.2.2.2 + 162))]) (by decide) rfl (fun _ => trivial) (Nat.le_of_ble_eq_true rfl) rfl rfl ?_
  unfold f_X12_cutsUp at hf
  refine jx_aload_n dX12_cutsUp_0 rfl ?_
  refine jx_iconst (v := 0) dX12_cutsUp_1 (by decide) ?_
  refine jx_puti dX12_cutsUp_2 fp_X12_135 (kj_162 hE) sr_162_10 rfl rfl ?_
  obtain ⟨w84, hw84, hf⟩ := jl_inv hf
  refine jx_nw hw84 ?_
  refine jx_iconst (v := 0) dX12_cutsUp_5 (by decide) ?_
  refine jx_istore_n (ls' := [(0, .ref (E.2.2.2 + 162)), (1, .int 0)]) dX12_cutsUp_6 (by decide) rfl ?_
  exact (sl_X12_cutsUp hE jfu).1 _ _ _ _ _ _ _ _ _ hf
def f_X12_is (a1 : Int32) (w : jw) : Option (Bool × jw) := (if (w.1 162 13) = 0 then jg (jin (w.1 162 11) 403) ((if (w.2.1 165 (Int32.toNatClampNeg (w.1 162 11))) = a1 then some (true, w) else some (false, w))) else some (false, w))
set_option maxRecDepth 20000 in
set_option maxHeartbeats 2000000 in
theorem s_X12_is {E : jE} (hE : jfull E) {a1 : Int32} {w w' : jw} {v : Bool} (hf : f_X12_is a1 w = some (v, w')) : jC E m_X12_is 0 [.ref (E.2.2.2 + 162), .int a1] w (some (.int (jb v))) w' := by
  refine jC_of (ls := [(0, .ref (E.2.2.2 + 162)), (1, .int a1)]) (by decide) rfl (fun _ => trivial) (Nat.le_of_ble_eq_true rfl) rfl jb_ans ?_
  unfold f_X12_is at hf
  refine jx_aload_n dX12_is_0 rfl ?_
  refine jx_geti dX12_is_1 fl_X12_157 (kj_162 hE) sr_162_13 ?_
  refine jx_if_ne (tgt := 24) dX12_is_4 (by decide) (fun c1 => ?_) (fun c1 => ?_)
  · rw [if_neg c1] at hf
    refine jx_iconst (v := 0) dX12_is_24 (by decide) ?_
    cases hf
    exact jx_iret dX12_is_25 rfl rfl
  · rw [if_pos c1] at hf
    refine jx_aload_n dX12_is_7 rfl ?_
    refine jx_getr dX12_is_8 fl_X12_20 (kj_162 hE) sr_162_5 ?_
    refine jx_aload_n dX12_is_11 rfl ?_
    refine jx_geti dX12_is_12 fl_X12_160 (kj_162 hE) sr_162_11 ?_
    obtain ⟨c2, hf⟩ := jg_inv hf
    refine jx_iald dX12_is_15 (kj_165 hE) (jin_vp c2) ?_
    refine jx_iload_n dX12_is_16 rfl ?_
    refine jx_icmp_ne (tgt := 24) dX12_is_17 (by decide) (fun c3 => ?_) (fun c3 => ?_)
    · rw [if_neg c3] at hf
      refine jx_iconst (v := 0) dX12_is_24 (by decide) ?_
      cases hf
      exact jx_iret dX12_is_25 rfl rfl
    · rw [if_pos c3] at hf
      refine jx_iconst (v := 1) dX12_is_20 (by decide) ?_
      refine jx_goto (tgt := 25) dX12_is_21 (by decide) ?_
      cases hf
      exact jx_iret dX12_is_25 rfl rfl
def f_X12_fail (a1 : Int32) (w : jw) : Option (jw) := (if (w.1 162 13) ≤ 0 then jl (jsetI w 162 13 a1) fun w2 => jg (jin (w2.1 162 11) 403) (jl (jsetI w2 162 14 (w2.2.1 166 (Int32.toNatClampNeg (w2.1 162 11)))) fun w4 => some w4) else some w)
set_option maxRecDepth 20000 in
set_option maxHeartbeats 2000000 in
theorem s_X12_fail {E : jE} (hE : jfull E) {a1 : Int32} {w w' : jw} (hf : f_X12_fail a1 w = some w') : jC E m_X12_fail 0 [.ref (E.2.2.2 + 162), .int a1] w none w' := by
  refine jC_of (ls := [(0, .ref (E.2.2.2 + 162)), (1, .int a1)]) (by decide) rfl (fun _ => trivial) (Nat.le_of_ble_eq_true rfl) rfl rfl ?_
  unfold f_X12_fail at hf
  refine jx_aload_n dX12_fail_0 rfl ?_
  refine jx_geti dX12_fail_1 fl_X12_157 (kj_162 hE) sr_162_13 ?_
  refine jx_if_le (tgt := 8) dX12_fail_4 (by decide) (fun c1 => ?_) (fun c1 => ?_)
  · rw [if_pos c1] at hf
    refine jx_aload_n dX12_fail_8 rfl ?_
    refine jx_iload_n dX12_fail_9 rfl ?_
    refine jx_puti dX12_fail_10 fp_X12_157 (kj_162 hE) sr_162_13 rfl rfl ?_
    obtain ⟨w2, hw2, hf⟩ := jl_inv hf
    refine jx_nw hw2 ?_
    refine jx_aload_n dX12_fail_13 rfl ?_
    refine jx_aload_n dX12_fail_14 rfl ?_
    refine jx_getr dX12_fail_15 fl_X12_24 (kj_162 hE) sr_162_6 ?_
    refine jx_aload_n dX12_fail_18 rfl ?_
    refine jx_geti dX12_fail_19 fl_X12_160 (kj_162 hE) sr_162_11 ?_
    obtain ⟨c3, hf⟩ := jg_inv hf
    refine jx_iald dX12_fail_22 (kj_166 hE) (jin_vp c3) ?_
    refine jx_puti dX12_fail_23 fp_X12_163 (kj_162 hE) sr_162_14 rfl rfl ?_
    obtain ⟨w4, hw4, hf⟩ := jl_inv hf
    refine jx_nw hw4 ?_
    cases hf
    exact jx_vret dX12_fail_26 rfl rfl
  · rw [if_neg c1] at hf
    cases hf
    exact jx_vret dX12_fail_7 rfl rfl
def f_X12_wrong (a1 : Int32) (a2 : Int32) (w : jw) : Option (jw) := jg (jin a2 403) (jl (w.2.1 166 (Int32.toNatClampNeg a2) : Int32) fun x2 => (if 0 < (w.1 162 13) then some w else (if (w.1 162 15) = 0 then jl (jsetI w 162 15 a1) fun w5 => jl (jsetI w5 162 16 x2) fun w6 => some w6 else (if (w.1 162 16) < x2 then some w else (if x2 = (w.1 162 16) then (if a1 < (w.1 162 15) then jl (jsetI w 162 15 a1) fun w12 => jl (jsetI w12 162 16 x2) fun w13 => some w13 else some w) else jl (jsetI w 162 15 a1) fun w9 => jl (jsetI w9 162 16 x2) fun w10 => some w10)))))
set_option maxRecDepth 20000 in
set_option maxHeartbeats 2000000 in
theorem s_X12_wrong {E : jE} (hE : jfull E) {a1 : Int32} {a2 : Int32} {w w' : jw} (hf : f_X12_wrong a1 a2 w = some w') : jC E m_X12_wrong 0 [.ref (E.2.2.2 + 162), .int a1, .int a2] w none w' := by
  refine jC_of (ls := [(0, .ref (E.2.2.2 + 162)), (1, .int a1), (2, .int a2)]) (by decide) rfl (fun _ => trivial) (Nat.le_of_ble_eq_true rfl) rfl rfl ?_
  unfold f_X12_wrong at hf
  refine jx_aload_n dX12_wrong_0 rfl ?_
  refine jx_getr dX12_wrong_1 fl_X12_24 (kj_162 hE) sr_162_6 ?_
  refine jx_iload_n dX12_wrong_4 rfl ?_
  obtain ⟨c1, hf⟩ := jg_inv hf
  refine jx_iald dX12_wrong_5 (kj_166 hE) (jin_vp c1) ?_
  obtain ⟨x2, hx2, hf⟩ := jl_inv hf
  refine jx_nm hx2 ?_
  refine jx_istore_n (ls' := [(0, .ref (E.2.2.2 + 162)), (1, .int a1), (2, .int a2), (3, .int x2)]) dX12_wrong_6 (by decide) rfl ?_
  refine jx_aload_n dX12_wrong_7 rfl ?_
  refine jx_geti dX12_wrong_8 fl_X12_157 (kj_162 hE) sr_162_13 ?_
  refine jx_if_gt (tgt := 45) dX12_wrong_11 (by decide) (fun c3 => ?_) (fun c3 => ?_)
  · rw [if_pos c3] at hf
    cases hf
    exact jx_vret dX12_wrong_45 rfl rfl
  · rw [if_neg c3] at hf
    refine jx_aload_n dX12_wrong_14 rfl ?_
    refine jx_geti dX12_wrong_15 fl_X12_166 (kj_162 hE) sr_162_15 ?_
    refine jx_if_eq (tgt := 46) dX12_wrong_18 (by decide) (fun c4 => ?_) (fun c4 => ?_)
    · rw [if_pos c4] at hf
      refine jx_aload_n dX12_wrong_46 rfl ?_
      refine jx_iload_n dX12_wrong_47 rfl ?_
      refine jx_puti dX12_wrong_48 fp_X12_166 (kj_162 hE) sr_162_15 rfl rfl ?_
      obtain ⟨w5, hw5, hf⟩ := jl_inv hf
      refine jx_nw hw5 ?_
      refine jx_aload_n dX12_wrong_51 rfl ?_
      refine jx_iload_n dX12_wrong_52 rfl ?_
      refine jx_puti dX12_wrong_53 fp_X12_169 (kj_162 hE) sr_162_16 rfl rfl ?_
      obtain ⟨w6, hw6, hf⟩ := jl_inv hf
      refine jx_nw hw6 ?_
      cases hf
      exact jx_vret dX12_wrong_56 rfl rfl
    · rw [if_neg c4] at hf
      refine jx_iload_n dX12_wrong_21 rfl ?_
      refine jx_aload_n dX12_wrong_22 rfl ?_
      refine jx_geti dX12_wrong_23 fl_X12_169 (kj_162 hE) sr_162_16 ?_
      refine jx_icmp_gt (tgt := 45) dX12_wrong_26 (by decide) (fun c7 => ?_) (fun c7 => ?_)
      · rw [if_pos c7] at hf
        cases hf
        exact jx_vret dX12_wrong_45 rfl rfl
      · rw [if_neg c7] at hf
        refine jx_iload_n dX12_wrong_29 rfl ?_
        refine jx_aload_n dX12_wrong_30 rfl ?_
        refine jx_geti dX12_wrong_31 fl_X12_169 (kj_162 hE) sr_162_16 ?_
        refine jx_icmp_ne (tgt := 46) dX12_wrong_34 (by decide) (fun c8 => ?_) (fun c8 => ?_)
        · rw [if_neg c8] at hf
          refine jx_aload_n dX12_wrong_46 rfl ?_
          refine jx_iload_n dX12_wrong_47 rfl ?_
          refine jx_puti dX12_wrong_48 fp_X12_166 (kj_162 hE) sr_162_15 rfl rfl ?_
          obtain ⟨w9, hw9, hf⟩ := jl_inv hf
          refine jx_nw hw9 ?_
          refine jx_aload_n dX12_wrong_51 rfl ?_
          refine jx_iload_n dX12_wrong_52 rfl ?_
          refine jx_puti dX12_wrong_53 fp_X12_169 (kj_162 hE) sr_162_16 rfl rfl ?_
          obtain ⟨w10, hw10, hf⟩ := jl_inv hf
          refine jx_nw hw10 ?_
          cases hf
          exact jx_vret dX12_wrong_56 rfl rfl
        · rw [if_pos c8] at hf
          refine jx_iload_n dX12_wrong_37 rfl ?_
          refine jx_aload_n dX12_wrong_38 rfl ?_
          refine jx_geti dX12_wrong_39 fl_X12_166 (kj_162 hE) sr_162_15 ?_
          refine jx_icmp_lt (tgt := 46) dX12_wrong_42 (by decide) (fun c11 => ?_) (fun c11 => ?_)
          · rw [if_pos c11] at hf
            refine jx_aload_n dX12_wrong_46 rfl ?_
            refine jx_iload_n dX12_wrong_47 rfl ?_
            refine jx_puti dX12_wrong_48 fp_X12_166 (kj_162 hE) sr_162_15 rfl rfl ?_
            obtain ⟨w12, hw12, hf⟩ := jl_inv hf
            refine jx_nw hw12 ?_
            refine jx_aload_n dX12_wrong_51 rfl ?_
            refine jx_iload_n dX12_wrong_52 rfl ?_
            refine jx_puti dX12_wrong_53 fp_X12_169 (kj_162 hE) sr_162_16 rfl rfl ?_
            obtain ⟨w13, hw13, hf⟩ := jl_inv hf
            refine jx_nw hw13 ?_
            cases hf
            exact jx_vret dX12_wrong_56 rfl rfl
          · rw [if_neg c11] at hf
            cases hf
            exact jx_vret dX12_wrong_45 rfl rfl
def f_X12_goesOn  (w : jw) : Option (jw) := (if (w.1 162 11) = 400 then jbd (f_X12_fail 2 w) fun q3 => some q3 else jl (jsetI w 162 11 ((w.1 162 11) + 1)) fun w2 => some w2)
set_option maxRecDepth 20000 in
set_option maxHeartbeats 2000000 in
theorem s_X12_goesOn {E : jE} (hE : jfull E)  {w w' : jw} (hf : f_X12_goesOn  w = some w') : jC E m_X12_goesOn 1 [.ref (E.2.2.2 + 162)] w none w' := by
  refine jC_of (ls := [(0, .ref (E.2.2.2 + 162))]) (by decide) rfl (fun _ => trivial) (Nat.le_of_ble_eq_true rfl) rfl rfl ?_
  unfold f_X12_goesOn at hf
  refine jx_aload_n dX12_goesOn_0 rfl ?_
  refine jx_geti dX12_goesOn_1 fl_X12_160 (kj_162 hE) sr_162_11 ?_
  refine jx_sipush (v := 400) dX12_goesOn_4 (by decide) ?_
  refine jx_icmp_ne (tgt := 18) dX12_goesOn_7 (by decide) (fun c1 => ?_) (fun c1 => ?_)
  · rw [if_neg c1] at hf
    refine jx_aload_n dX12_goesOn_18 rfl ?_
    refine jx_dup dX12_goesOn_19 rfl ?_
    refine jx_geti dX12_goesOn_20 fl_X12_160 (kj_162 hE) sr_162_11 ?_
    refine jx_iconst (v := 1) dX12_goesOn_23 (by decide) ?_
    refine jx_iadd dX12_goesOn_24 ?_
    refine jx_puti dX12_goesOn_25 fp_X12_160 (kj_162 hE) sr_162_11 rfl rfl ?_
    obtain ⟨w2, hw2, hf⟩ := jl_inv hf
    refine jx_nw hw2 ?_
    cases hf
    exact jx_vret dX12_goesOn_28 rfl rfl
  · rw [if_pos c1] at hf
    refine jx_aload_n dX12_goesOn_10 rfl ?_
    refine jx_iconst (v := 2) dX12_goesOn_11 (by decide) ?_
    obtain ⟨q3, hq3, hf⟩ := jbd_inv hf
    refine jx_cVv (a := 162) (As := [.int 2]) (rest := []) dX12_goesOn_12 ml_X12_172 mv_X12_fail (s_X12_fail hE hq3) rfl rfl (jc_162 hE) (by decide) (Nat.le_of_ble_eq_true rfl) ?_
    refine jx_goto (tgt := 28) dX12_goesOn_15 (by decide) ?_
    cases hf
    exact jx_vret dX12_goesOn_28 rfl rfl
def f_X12_must (a1 : Int32) (w : jw) : Option (jw) := jbd2 (f_X12_is a1 w) fun x2 w3 => (if (jb x2) = 0 then jbd (f_X12_fail 1 w3) fun q5 => some q5 else jbd (f_X12_goesOn  w3) fun q6 => some q6)
set_option maxRecDepth 20000 in
set_option maxHeartbeats 2000000 in
theorem s_X12_must {E : jE} (hE : jfull E) {a1 : Int32} {w w' : jw} (hf : f_X12_must a1 w = some w') : jC E m_X12_must 2 [.ref (E.2.2.2 + 162), .int a1] w none w' := by
  refine jC_of (ls := [(0, .ref (E.2.2.2 + 162)), (1, .int a1)]) (by decide) rfl (fun _ => trivial) (Nat.le_of_ble_eq_true rfl) rfl rfl ?_
  unfold f_X12_must at hf
  refine jx_aload_n dX12_must_0 rfl ?_
  refine jx_iload_n dX12_must_1 rfl ?_
  obtain ⟨x2, w3, hq1, hf⟩ := jbd2_inv hf
  refine jx_cVi (a := 162) (As := [.int a1]) (rest := []) dX12_must_2 ml_X12_175 mv_X12_is (s_X12_is hE hq1) rfl rfl (jc_162 hE) (by decide) (Nat.le_of_ble_eq_true rfl) ?_
  refine jx_if_eq (tgt := 15) dX12_must_5 (by decide) (fun c4 => ?_) (fun c4 => ?_)
  · rw [if_pos c4] at hf
    refine jx_aload_n dX12_must_15 rfl ?_
    refine jx_iconst (v := 1) dX12_must_16 (by decide) ?_
    obtain ⟨q5, hq5, hf⟩ := jbd_inv hf
    refine jx_cVv (a := 162) (As := [.int 1]) (rest := []) dX12_must_17 ml_X12_172 mv_X12_fail (s_X12_fail hE hq5) rfl rfl (jc_162 hE) (by decide) (Nat.le_of_ble_eq_true rfl) ?_
    cases hf
    exact jx_vret dX12_must_20 rfl rfl
  · rw [if_neg c4] at hf
    refine jx_aload_n dX12_must_8 rfl ?_
    obtain ⟨q6, hq6, hf⟩ := jbd_inv hf
    refine jx_cVv (a := 162) (As := []) (rest := []) dX12_must_9 ml_X12_178 mv_X12_goesOn (s_X12_goesOn hE hq6) rfl rfl (jc_162 hE) (by decide) (Nat.le_of_ble_eq_true rfl) ?_
    refine jx_goto (tgt := 20) dX12_must_12 (by decide) ?_
    cases hf
    exact jx_vret dX12_must_20 rfl rfl
def f_X12_becomesRoot (a1 : Int32) (w : jw) : Option (jw) := jg (jin 2 34700) (jg (jin 0 34700) (jg (jin (10 + (w.2.1 182 (Int32.toNatClampNeg 2))) 34700) (jl (jsetX w 182 (Int32.toNatClampNeg (10 + (w.2.1 182 (Int32.toNatClampNeg 2)))) (w.2.1 182 (Int32.toNatClampNeg 0))) fun w4 => jg (jin 2 34700) (jg (jin (710 + (w4.2.1 182 (Int32.toNatClampNeg 2))) 34700) (jl (jsetX w4 182 (Int32.toNatClampNeg (710 + (w4.2.1 182 (Int32.toNatClampNeg 2)))) a1) fun w7 => jg (jin 2 34700) (jg (jin 2 34700) (jl (jsetX w7 182 (Int32.toNatClampNeg 2) ((w7.2.1 182 (Int32.toNatClampNeg 2)) + 1)) fun w10 => some w10)))))))
set_option maxRecDepth 20000 in
set_option maxHeartbeats 2000000 in
theorem s_X12_becomesRoot {E : jE} (hE : jfull E) {a1 : Int32} {w w' : jw} (hf : f_X12_becomesRoot a1 w = some w') : jC E m_X12_becomesRoot 0 [.ref (E.2.2.2 + 162), .int a1] w none w' := by
  refine jC_of (ls := [(0, .ref (E.2.2.2 + 162)), (1, .int a1)]) (by decide) rfl (fun _ => trivial) (Nat.le_of_ble_eq_true rfl) rfl rfl ?_
  unfold f_X12_becomesRoot at hf
  refine jx_aload_n dX12_becomesRoot_0 rfl ?_
  refine jx_getr dX12_becomesRoot_1 fl_X12_77 (kj_162 hE) sr_162_34 ?_
  refine jx_bipush (v := 10) dX12_becomesRoot_4 (by decide) ?_
  refine jx_aload_n dX12_becomesRoot_6 rfl ?_
  refine jx_getr dX12_becomesRoot_7 fl_X12_77 (kj_162 hE) sr_162_34 ?_
  refine jx_iconst (v := 2) dX12_becomesRoot_10 (by decide) ?_
  obtain ⟨c1, hf⟩ := jg_inv hf
  refine jx_iald dX12_becomesRoot_11 (kj_182 hE) (jin_vp c1) ?_
  refine jx_iadd dX12_becomesRoot_12 ?_
  refine jx_aload_n dX12_becomesRoot_13 rfl ?_
  refine jx_getr dX12_becomesRoot_14 fl_X12_77 (kj_162 hE) sr_162_34 ?_
  refine jx_iconst (v := 0) dX12_becomesRoot_17 (by decide) ?_
  obtain ⟨c2, hf⟩ := jg_inv hf
  refine jx_iald dX12_becomesRoot_18 (kj_182 hE) (jin_vp c2) ?_
  obtain ⟨c3, hf⟩ := jg_inv hf
  refine jx_iast dX12_becomesRoot_19 (kj_182 hE) (jin_vp c3) ?_
  obtain ⟨w4, hw4, hf⟩ := jl_inv hf
  refine jx_nw hw4 ?_
  refine jx_aload_n dX12_becomesRoot_20 rfl ?_
  refine jx_getr dX12_becomesRoot_21 fl_X12_77 (kj_162 hE) sr_162_34 ?_
  refine jx_sipush (v := 710) dX12_becomesRoot_24 (by decide) ?_
  refine jx_aload_n dX12_becomesRoot_27 rfl ?_
  refine jx_getr dX12_becomesRoot_28 fl_X12_77 (kj_162 hE) sr_162_34 ?_
  refine jx_iconst (v := 2) dX12_becomesRoot_31 (by decide) ?_
  obtain ⟨c5, hf⟩ := jg_inv hf
  refine jx_iald dX12_becomesRoot_32 (kj_182 hE) (jin_vp c5) ?_
  refine jx_iadd dX12_becomesRoot_33 ?_
  refine jx_iload_n dX12_becomesRoot_34 rfl ?_
  obtain ⟨c6, hf⟩ := jg_inv hf
  refine jx_iast dX12_becomesRoot_35 (kj_182 hE) (jin_vp c6) ?_
  obtain ⟨w7, hw7, hf⟩ := jl_inv hf
  refine jx_nw hw7 ?_
  refine jx_aload_n dX12_becomesRoot_36 rfl ?_
  refine jx_getr dX12_becomesRoot_37 fl_X12_77 (kj_162 hE) sr_162_34 ?_
  refine jx_iconst (v := 2) dX12_becomesRoot_40 (by decide) ?_
  refine jx_dup2 dX12_becomesRoot_41 rfl rfl ?_
  obtain ⟨c8, hf⟩ := jg_inv hf
  refine jx_iald dX12_becomesRoot_42 (kj_182 hE) (jin_vp c8) ?_
  refine jx_iconst (v := 1) dX12_becomesRoot_43 (by decide) ?_
  refine jx_iadd dX12_becomesRoot_44 ?_
  obtain ⟨c9, hf⟩ := jg_inv hf
  refine jx_iast dX12_becomesRoot_45 (kj_182 hE) (jin_vp c9) ?_
  obtain ⟨w10, hw10, hf⟩ := jl_inv hf
  refine jx_nw hw10 ?_
  cases hf
  exact jx_vret dX12_becomesRoot_46 rfl rfl
def f_X12_makes (a1 : Int32) (w : jw) : Option (Int32 × jw) := jg (jin 3 34700) (jl (w.2.1 182 (Int32.toNatClampNeg 3) : Int32) fun x2 => jg (jin (1410 + (4 * x2)) 34700) (jl (jsetX w 182 (Int32.toNatClampNeg (1410 + (4 * x2))) a1) fun w4 => jg (jin ((1410 + (4 * x2)) + 1) 34700) (jl (jsetX w4 182 (Int32.toNatClampNeg ((1410 + (4 * x2)) + 1)) 0) fun w6 => jg (jin 0 34700) (jg (jin ((1410 + (4 * x2)) + 2) 34700) (jl (jsetX w6 182 (Int32.toNatClampNeg ((1410 + (4 * x2)) + 2)) (w6.2.1 182 (Int32.toNatClampNeg 0))) fun w9 => jg (jin ((1410 + (4 * x2)) + 3) 34700) (jl (jsetX w9 182 (Int32.toNatClampNeg ((1410 + (4 * x2)) + 3)) (-2)) fun w11 => jg (jin 3 34700) (jg (jin 3 34700) (jl (jsetX w11 182 (Int32.toNatClampNeg 3) ((w11.2.1 182 (Int32.toNatClampNeg 3)) + 1)) fun w14 => some (x2, w14)))))))))
set_option maxRecDepth 20000 in
set_option maxHeartbeats 2000000 in
theorem s_X12_makes {E : jE} (hE : jfull E) {a1 : Int32} {w w' : jw} {v : Int32} (hf : f_X12_makes a1 w = some (v, w')) : jC E m_X12_makes 0 [.ref (E.2.2.2 + 162), .int a1] w (some (.int v)) w' := by
  refine jC_of (ls := [(0, .ref (E.2.2.2 + 162)), (1, .int a1)]) (by decide) rfl (fun _ => trivial) (Nat.le_of_ble_eq_true rfl) rfl ⟨.int, rfl, rfl⟩ ?_
  unfold f_X12_makes at hf
  refine jx_aload_n dX12_makes_0 rfl ?_
  refine jx_getr dX12_makes_1 fl_X12_77 (kj_162 hE) sr_162_34 ?_
  refine jx_iconst (v := 3) dX12_makes_4 (by decide) ?_
  obtain ⟨c1, hf⟩ := jg_inv hf
  refine jx_iald dX12_makes_5 (kj_182 hE) (jin_vp c1) ?_
  obtain ⟨x2, hx2, hf⟩ := jl_inv hf
  refine jx_nm hx2 ?_
  refine jx_istore_n (ls' := [(0, .ref (E.2.2.2 + 162)), (1, .int a1), (2, .int x2)]) dX12_makes_6 (by decide) rfl ?_
  refine jx_aload_n dX12_makes_7 rfl ?_
  refine jx_getr dX12_makes_8 fl_X12_77 (kj_162 hE) sr_162_34 ?_
  refine jx_sipush (v := 1410) dX12_makes_11 (by decide) ?_
  refine jx_iconst (v := 4) dX12_makes_14 (by decide) ?_
  refine jx_iload_n dX12_makes_15 rfl ?_
  refine jx_imul dX12_makes_16 ?_
  refine jx_iadd dX12_makes_17 ?_
  refine jx_iload_n dX12_makes_18 rfl ?_
  obtain ⟨c3, hf⟩ := jg_inv hf
  refine jx_iast dX12_makes_19 (kj_182 hE) (jin_vp c3) ?_
  obtain ⟨w4, hw4, hf⟩ := jl_inv hf
  refine jx_nw hw4 ?_
  refine jx_aload_n dX12_makes_20 rfl ?_
  refine jx_getr dX12_makes_21 fl_X12_77 (kj_162 hE) sr_162_34 ?_
  refine jx_sipush (v := 1410) dX12_makes_24 (by decide) ?_
  refine jx_iconst (v := 4) dX12_makes_27 (by decide) ?_
  refine jx_iload_n dX12_makes_28 rfl ?_
  refine jx_imul dX12_makes_29 ?_
  refine jx_iadd dX12_makes_30 ?_
  refine jx_iconst (v := 1) dX12_makes_31 (by decide) ?_
  refine jx_iadd dX12_makes_32 ?_
  refine jx_iconst (v := 0) dX12_makes_33 (by decide) ?_
  obtain ⟨c5, hf⟩ := jg_inv hf
  refine jx_iast dX12_makes_34 (kj_182 hE) (jin_vp c5) ?_
  obtain ⟨w6, hw6, hf⟩ := jl_inv hf
  refine jx_nw hw6 ?_
  refine jx_aload_n dX12_makes_35 rfl ?_
  refine jx_getr dX12_makes_36 fl_X12_77 (kj_162 hE) sr_162_34 ?_
  refine jx_sipush (v := 1410) dX12_makes_39 (by decide) ?_
  refine jx_iconst (v := 4) dX12_makes_42 (by decide) ?_
  refine jx_iload_n dX12_makes_43 rfl ?_
  refine jx_imul dX12_makes_44 ?_
  refine jx_iadd dX12_makes_45 ?_
  refine jx_iconst (v := 2) dX12_makes_46 (by decide) ?_
  refine jx_iadd dX12_makes_47 ?_
  refine jx_aload_n dX12_makes_48 rfl ?_
  refine jx_getr dX12_makes_49 fl_X12_77 (kj_162 hE) sr_162_34 ?_
  refine jx_iconst (v := 0) dX12_makes_52 (by decide) ?_
  obtain ⟨c7, hf⟩ := jg_inv hf
  refine jx_iald dX12_makes_53 (kj_182 hE) (jin_vp c7) ?_
  obtain ⟨c8, hf⟩ := jg_inv hf
  refine jx_iast dX12_makes_54 (kj_182 hE) (jin_vp c8) ?_
  obtain ⟨w9, hw9, hf⟩ := jl_inv hf
  refine jx_nw hw9 ?_
  refine jx_aload_n dX12_makes_55 rfl ?_
  refine jx_getr dX12_makes_56 fl_X12_77 (kj_162 hE) sr_162_34 ?_
  refine jx_sipush (v := 1410) dX12_makes_59 (by decide) ?_
  refine jx_iconst (v := 4) dX12_makes_62 (by decide) ?_
  refine jx_iload_n dX12_makes_63 rfl ?_
  refine jx_imul dX12_makes_64 ?_
  refine jx_iadd dX12_makes_65 ?_
  refine jx_iconst (v := 3) dX12_makes_66 (by decide) ?_
  refine jx_iadd dX12_makes_67 ?_
  refine jx_bipush (v := (-2)) dX12_makes_68 (by decide) ?_
  obtain ⟨c10, hf⟩ := jg_inv hf
  refine jx_iast dX12_makes_70 (kj_182 hE) (jin_vp c10) ?_
  obtain ⟨w11, hw11, hf⟩ := jl_inv hf
  refine jx_nw hw11 ?_
  refine jx_aload_n dX12_makes_71 rfl ?_
  refine jx_getr dX12_makes_72 fl_X12_77 (kj_162 hE) sr_162_34 ?_
  refine jx_iconst (v := 3) dX12_makes_75 (by decide) ?_
  refine jx_dup2 dX12_makes_76 rfl rfl ?_
  obtain ⟨c12, hf⟩ := jg_inv hf
  refine jx_iald dX12_makes_77 (kj_182 hE) (jin_vp c12) ?_
  refine jx_iconst (v := 1) dX12_makes_78 (by decide) ?_
  refine jx_iadd dX12_makes_79 ?_
  obtain ⟨c13, hf⟩ := jg_inv hf
  refine jx_iast dX12_makes_80 (kj_182 hE) (jin_vp c13) ?_
  obtain ⟨w14, hw14, hf⟩ := jl_inv hf
  refine jx_nw hw14 ?_
  refine jx_iload_n dX12_makes_81 rfl ?_
  cases hf
  exact jx_iret dX12_makes_82 rfl rfl
def l_X12_begins_30 : Nat → Int32 → Int32 → jw → Option (jw)
  | 0, _, _, _ => none
  | n + 1, b1, b2, w => (if 1000 ≤ b2 then jbd2 (f_X12_makes 1 w) fun x3 w4 => jbd (f_X12_becomesRoot 0 w4) fun q5 => some q5 else jg (jin (33700 + b2) 34700) (jl (jsetX w 182 (Int32.toNatClampNeg (33700 + b2)) (-1)) fun w7 => jl (b2 + 1) fun x8 => (l_X12_begins_30 n b1 x8 w7)))
set_option maxRecDepth 20000 in
set_option maxHeartbeats 2000000 in
theorem sl_X12_begins_30 {E : jE} (hE : jfull E) : ∀ (n : Nat) (b1 : Int32) (b2 : Int32) (w : jw) (w' : jw), l_X12_begins_30 n b1 b2 w = some w' → jX E m_X12_begins 1 30 [(0, .ref (E.2.2.2 + 162)), (1, .int b1), (2, .int b2)] [] w none w' := by
  intro n
  induction n with
  | zero => intro b1 b2 w w' hf; cases hf
  | succ n ih =>
    intro b1 b2 w w' hf
    unfold l_X12_begins_30 at hf
    refine jx_iload_n dX12_begins_30 rfl ?_
    refine jx_sipush (v := 1000) dX12_begins_31 (by decide) ?_
    refine jx_icmp_ge (tgt := 53) dX12_begins_34 (by decide) (fun c1 => ?_) (fun c1 => ?_)
    · rw [if_pos c1] at hf
      refine jx_aload_n dX12_begins_53 rfl ?_
      refine jx_iconst (v := 1) dX12_begins_54 (by decide) ?_
      obtain ⟨x3, w4, hq2, hf⟩ := jbd2_inv hf
      refine jx_cVi (a := 162) (As := [.int 1]) (rest := []) dX12_begins_55 ml_X12_243 mv_X12_makes (s_X12_makes hE hq2) rfl rfl (jc_162 hE) (by decide) (Nat.le_of_ble_eq_true rfl) ?_
      refine jx_pop dX12_begins_58 rfl ?_
      refine jx_aload_n dX12_begins_59 rfl ?_
      refine jx_iconst (v := 0) dX12_begins_60 (by decide) ?_
      obtain ⟨q5, hq5, hf⟩ := jbd_inv hf
      refine jx_cVv (a := 162) (As := [.int 0]) (rest := []) dX12_begins_61 ml_X12_246 mv_X12_becomesRoot (s_X12_becomesRoot hE hq5) rfl rfl (jc_162 hE) (by decide) (Nat.le_of_ble_eq_true rfl) ?_
      cases hf
      exact jx_vret dX12_begins_64 rfl rfl
    · rw [if_neg c1] at hf
      refine jx_aload_n dX12_begins_37 rfl ?_
      refine jx_getr dX12_begins_38 fl_X12_77 (kj_162 hE) sr_162_34 ?_
      refine jx_ldc (v := 33700) dX12_begins_41 kc_X12_242 ?_
      refine jx_iload_n dX12_begins_43 rfl ?_
      refine jx_iadd dX12_begins_44 ?_
      refine jx_iconst (v := (-1)) dX12_begins_45 (by decide) ?_
      obtain ⟨c6, hf⟩ := jg_inv hf
      refine jx_iast dX12_begins_46 (kj_182 hE) (jin_vp c6) ?_
      obtain ⟨w7, hw7, hf⟩ := jl_inv hf
      refine jx_nw hw7 ?_
      obtain ⟨x8, hx8, hf⟩ := jl_inv hf
      refine jx_iinc (v := x8) (ls' := [(0, .ref (E.2.2.2 + 162)), (1, .int b1), (2, .int x8)]) dX12_begins_47 rfl (by rw [hx8]; rfl) (by decide) rfl ?_
      refine jx_goto (tgt := 30) dX12_begins_50 (by decide) ?_
      exact ih _ _ _ _ hf
def l_X12_begins_2 : Nat → Int32 → Int32 → jw → Option (jw)
  | 0, _, _, _ => none
  | n + 1, b1, b2, w => (if 10 ≤ b2 then jg (jin 1 34700) (jl (jsetX w 182 (Int32.toNatClampNeg 1) b1) fun w11 => (l_X12_begins_30 jfu b1 0 w11)) else jg (jin b2 34700) (jl (jsetX w 182 (Int32.toNatClampNeg b2) 0) fun w13 => jl (b2 + 1) fun x14 => (l_X12_begins_2 n b1 x14 w13)))
set_option maxRecDepth 20000 in
set_option maxHeartbeats 2000000 in
theorem sl_X12_begins_2 {E : jE} (hE : jfull E) : ∀ (n : Nat) (b1 : Int32) (b2 : Int32) (w : jw) (w' : jw), l_X12_begins_2 n b1 b2 w = some w' → jX E m_X12_begins 1 2 [(0, .ref (E.2.2.2 + 162)), (1, .int b1), (2, .int b2)] [] w none w' := by
  intro n
  induction n with
  | zero => intro b1 b2 w w' hf; cases hf
  | succ n ih =>
    intro b1 b2 w w' hf
    unfold l_X12_begins_2 at hf
    refine jx_iload_n dX12_begins_2 rfl ?_
    refine jx_bipush (v := 10) dX12_begins_3 (by decide) ?_
    refine jx_icmp_ge (tgt := 21) dX12_begins_5 (by decide) (fun c9 => ?_) (fun c9 => ?_)
    · rw [if_pos c9] at hf
      refine jx_aload_n dX12_begins_21 rfl ?_
      refine jx_getr dX12_begins_22 fl_X12_77 (kj_162 hE) sr_162_34 ?_
      refine jx_iconst (v := 1) dX12_begins_25 (by decide) ?_
      refine jx_iload_n dX12_begins_26 rfl ?_
      obtain ⟨c10, hf⟩ := jg_inv hf
      refine jx_iast dX12_begins_27 (kj_182 hE) (jin_vp c10) ?_
      obtain ⟨w11, hw11, hf⟩ := jl_inv hf
      refine jx_nw hw11 ?_
      refine jx_iconst (v := 0) dX12_begins_28 (by decide) ?_
      refine jx_istore_n (ls' := [(0, .ref (E.2.2.2 + 162)), (1, .int b1), (2, .int 0)]) dX12_begins_29 (by decide) rfl ?_
      exact sl_X12_begins_30 hE jfu _ _ _ _ hf
    · rw [if_neg c9] at hf
      refine jx_aload_n dX12_begins_8 rfl ?_
      refine jx_getr dX12_begins_9 fl_X12_77 (kj_162 hE) sr_162_34 ?_
      refine jx_iload_n dX12_begins_12 rfl ?_
      refine jx_iconst (v := 0) dX12_begins_13 (by decide) ?_
      obtain ⟨c12, hf⟩ := jg_inv hf
      refine jx_iast dX12_begins_14 (kj_182 hE) (jin_vp c12) ?_
      obtain ⟨w13, hw13, hf⟩ := jl_inv hf
      refine jx_nw hw13 ?_
      obtain ⟨x14, hx14, hf⟩ := jl_inv hf
      refine jx_iinc (v := x14) (ls' := [(0, .ref (E.2.2.2 + 162)), (1, .int b1), (2, .int x14)]) dX12_begins_15 rfl (by rw [hx14]; rfl) (by decide) rfl ?_
      refine jx_goto (tgt := 2) dX12_begins_18 (by decide) ?_
      exact ih _ _ _ _ hf
def f_X12_begins (a1 : Int32) (w : jw) : Option (jw) := (l_X12_begins_2 jfu a1 0 w)
set_option maxRecDepth 20000 in
set_option maxHeartbeats 2000000 in
theorem s_X12_begins {E : jE} (hE : jfull E) {a1 : Int32} {w w' : jw} (hf : f_X12_begins a1 w = some w') : jC E m_X12_begins 1 [.ref (E.2.2.2 + 162), .int a1] w none w' := by
  refine jC_of (ls := [(0, .ref (E.2.2.2 + 162)), (1, .int a1)]) (by decide) rfl (fun _ => trivial) (Nat.le_of_ble_eq_true rfl) rfl rfl ?_
  unfold f_X12_begins at hf
  refine jx_iconst (v := 0) dX12_begins_0 (by decide) ?_
  refine jx_istore_n (ls' := [(0, .ref (E.2.2.2 + 162)), (1, .int a1), (2, .int 0)]) dX12_begins_1 (by decide) rfl ?_
  exact sl_X12_begins_2 hE jfu _ _ _ _ hf
def f_X12_bounded (a1 : Int32) (a2 : Int32) (w : jw) : Option (Int32 × jw) := (if 0 < (w.1 162 13) then jbd (f_X12_fail 1 w) fun q2 => some (a1, q2) else jbd2 (f_X12_is 2 w) fun x4 w5 => (if (jb x4) = 0 then jbd (f_X12_fail 1 w5) fun q16 => some (a1, q16) else jg (jin (w5.1 162 11) 403) (jl (w5.2.1 167 (Int32.toNatClampNeg (w5.1 162 11)) : Int32) fun x8 => (if x8 < a1 then jbd (f_X12_wrong 5 (w5.1 162 11) w5) fun q10 => jbd (f_X12_goesOn  q10) fun q11 => some (x8, q11) else (if x8 ≤ a2 then jbd (f_X12_goesOn  w5) fun q13 => some (x8, q13) else jbd (f_X12_wrong 5 (w5.1 162 11) w5) fun q14 => jbd (f_X12_goesOn  q14) fun q15 => some (x8, q15))))))
set_option maxRecDepth 20000 in
set_option maxHeartbeats 2000000 in
theorem s_X12_bounded {E : jE} (hE : jfull E) {a1 : Int32} {a2 : Int32} {w w' : jw} {v : Int32} (hf : f_X12_bounded a1 a2 w = some (v, w')) : jC E m_X12_bounded 2 [.ref (E.2.2.2 + 162), .int a1, .int a2] w (some (.int v)) w' := by
  refine jC_of (ls := [(0, .ref (E.2.2.2 + 162)), (1, .int a1), (2, .int a2)]) (by decide) rfl (fun _ => trivial) (Nat.le_of_ble_eq_true rfl) rfl ⟨.int, rfl, rfl⟩ ?_
  unfold f_X12_bounded at hf
  refine jx_aload_n dX12_bounded_0 rfl ?_
  refine jx_geti dX12_bounded_1 fl_X12_157 (kj_162 hE) sr_162_13 ?_
  refine jx_if_gt (tgt := 15) dX12_bounded_4 (by decide) (fun c1 => ?_) (fun c1 => ?_)
  · rw [if_pos c1] at hf
    refine jx_aload_n dX12_bounded_15 rfl ?_
    refine jx_iconst (v := 1) dX12_bounded_16 (by decide) ?_
    obtain ⟨q2, hq2, hf⟩ := jbd_inv hf
    refine jx_cVv (a := 162) (As := [.int 1]) (rest := []) dX12_bounded_17 ml_X12_172 mv_X12_fail (s_X12_fail hE hq2) rfl rfl (jc_162 hE) (by decide) (Nat.le_of_ble_eq_true rfl) ?_
    refine jx_iload_n dX12_bounded_20 rfl ?_
    cases hf
    exact jx_iret dX12_bounded_21 rfl rfl
  · rw [if_neg c1] at hf
    refine jx_aload_n dX12_bounded_7 rfl ?_
    refine jx_iconst (v := 2) dX12_bounded_8 (by decide) ?_
    obtain ⟨x4, w5, hq3, hf⟩ := jbd2_inv hf
    refine jx_cVi (a := 162) (As := [.int 2]) (rest := []) dX12_bounded_9 ml_X12_175 mv_X12_is (s_X12_is hE hq3) rfl rfl (jc_162 hE) (by decide) (Nat.le_of_ble_eq_true rfl) ?_
    refine jx_if_ne (tgt := 22) dX12_bounded_12 (by decide) (fun c6 => ?_) (fun c6 => ?_)
    · rw [if_neg c6] at hf
      refine jx_aload_n dX12_bounded_22 rfl ?_
      refine jx_getr dX12_bounded_23 fl_X12_27 (kj_162 hE) sr_162_7 ?_
      refine jx_aload_n dX12_bounded_26 rfl ?_
      refine jx_geti dX12_bounded_27 fl_X12_160 (kj_162 hE) sr_162_11 ?_
      obtain ⟨c7, hf⟩ := jg_inv hf
      refine jx_iald dX12_bounded_30 (kj_167 hE) (jin_vp c7) ?_
      obtain ⟨x8, hx8, hf⟩ := jl_inv hf
      refine jx_nm hx8 ?_
      refine jx_istore_n (ls' := [(0, .ref (E.2.2.2 + 162)), (1, .int a1), (2, .int a2), (3, .int x8)]) dX12_bounded_31 (by decide) rfl ?_
      refine jx_iload_n dX12_bounded_32 rfl ?_
      refine jx_iload_n dX12_bounded_33 rfl ?_
      refine jx_icmp_lt (tgt := 42) dX12_bounded_34 (by decide) (fun c9 => ?_) (fun c9 => ?_)
      · rw [if_pos c9] at hf
        refine jx_aload_n dX12_bounded_42 rfl ?_
        refine jx_iconst (v := 5) dX12_bounded_43 (by decide) ?_
        refine jx_aload_n dX12_bounded_44 rfl ?_
        refine jx_geti dX12_bounded_45 fl_X12_160 (kj_162 hE) sr_162_11 ?_
        obtain ⟨q10, hq10, hf⟩ := jbd_inv hf
        refine jx_cVv (a := 162) (As := [.int 5, .int (w5.1 162 11)]) (rest := []) dX12_bounded_48 ml_X12_209 mv_X12_wrong (s_X12_wrong hE hq10) rfl rfl (jc_162 hE) (by decide) (Nat.le_of_ble_eq_true rfl) ?_
        refine jx_aload_n dX12_bounded_51 rfl ?_
        obtain ⟨q11, hq11, hf⟩ := jbd_inv hf
        refine jx_cVv (a := 162) (As := []) (rest := []) dX12_bounded_52 ml_X12_178 mv_X12_goesOn (s_X12_goesOn hE hq11) rfl rfl (jc_162 hE) (by decide) (Nat.le_of_ble_eq_true rfl) ?_
        refine jx_iload_n dX12_bounded_55 rfl ?_
        cases hf
        exact jx_iret dX12_bounded_56 rfl rfl
      · rw [if_neg c9] at hf
        refine jx_iload_n dX12_bounded_37 rfl ?_
        refine jx_iload_n dX12_bounded_38 rfl ?_
        refine jx_icmp_le (tgt := 51) dX12_bounded_39 (by decide) (fun c12 => ?_) (fun c12 => ?_)
        · rw [if_pos c12] at hf
          refine jx_aload_n dX12_bounded_51 rfl ?_
          obtain ⟨q13, hq13, hf⟩ := jbd_inv hf
          refine jx_cVv (a := 162) (As := []) (rest := []) dX12_bounded_52 ml_X12_178 mv_X12_goesOn (s_X12_goesOn hE hq13) rfl rfl (jc_162 hE) (by decide) (Nat.le_of_ble_eq_true rfl) ?_
          refine jx_iload_n dX12_bounded_55 rfl ?_
          cases hf
          exact jx_iret dX12_bounded_56 rfl rfl
        · rw [if_neg c12] at hf
          refine jx_aload_n dX12_bounded_42 rfl ?_
          refine jx_iconst (v := 5) dX12_bounded_43 (by decide) ?_
          refine jx_aload_n dX12_bounded_44 rfl ?_
          refine jx_geti dX12_bounded_45 fl_X12_160 (kj_162 hE) sr_162_11 ?_
          obtain ⟨q14, hq14, hf⟩ := jbd_inv hf
          refine jx_cVv (a := 162) (As := [.int 5, .int (w5.1 162 11)]) (rest := []) dX12_bounded_48 ml_X12_209 mv_X12_wrong (s_X12_wrong hE hq14) rfl rfl (jc_162 hE) (by decide) (Nat.le_of_ble_eq_true rfl) ?_
          refine jx_aload_n dX12_bounded_51 rfl ?_
          obtain ⟨q15, hq15, hf⟩ := jbd_inv hf
          refine jx_cVv (a := 162) (As := []) (rest := []) dX12_bounded_52 ml_X12_178 mv_X12_goesOn (s_X12_goesOn hE hq15) rfl rfl (jc_162 hE) (by decide) (Nat.le_of_ble_eq_true rfl) ?_
          refine jx_iload_n dX12_bounded_55 rfl ?_
          cases hf
          exact jx_iret dX12_bounded_56 rfl rfl
    · rw [if_pos c6] at hf
      refine jx_aload_n dX12_bounded_15 rfl ?_
      refine jx_iconst (v := 1) dX12_bounded_16 (by decide) ?_
      obtain ⟨q16, hq16, hf⟩ := jbd_inv hf
      refine jx_cVv (a := 162) (As := [.int 1]) (rest := []) dX12_bounded_17 ml_X12_172 mv_X12_fail (s_X12_fail hE hq16) rfl rfl (jc_162 hE) (by decide) (Nat.le_of_ble_eq_true rfl) ?_
      refine jx_iload_n dX12_bounded_20 rfl ?_
      cases hf
      exact jx_iret dX12_bounded_21 rfl rfl
def f_X12_entriesOf (a1 : Int32) (w : jw) : Option (Int32 × jw) := jg (jin ((1410 + (4 * a1)) + 1) 34700) (some (w.2.1 182 (Int32.toNatClampNeg ((1410 + (4 * a1)) + 1)), w))
set_option maxRecDepth 20000 in
set_option maxHeartbeats 2000000 in
theorem s_X12_entriesOf {E : jE} (hE : jfull E) {a1 : Int32} {w w' : jw} {v : Int32} (hf : f_X12_entriesOf a1 w = some (v, w')) : jC E m_X12_entriesOf 0 [.ref (E.2.2.2 + 162), .int a1] w (some (.int v)) w' := by
  refine jC_of (ls := [(0, .ref (E.2.2.2 + 162)), (1, .int a1)]) (by decide) rfl (fun _ => trivial) (Nat.le_of_ble_eq_true rfl) rfl ⟨.int, rfl, rfl⟩ ?_
  unfold f_X12_entriesOf at hf
  refine jx_aload_n dX12_entriesOf_0 rfl ?_
  refine jx_getr dX12_entriesOf_1 fl_X12_77 (kj_162 hE) sr_162_34 ?_
  refine jx_sipush (v := 1410) dX12_entriesOf_4 (by decide) ?_
  refine jx_iconst (v := 4) dX12_entriesOf_7 (by decide) ?_
  refine jx_iload_n dX12_entriesOf_8 rfl ?_
  refine jx_imul dX12_entriesOf_9 ?_
  refine jx_iadd dX12_entriesOf_10 ?_
  refine jx_iconst (v := 1) dX12_entriesOf_11 (by decide) ?_
  refine jx_iadd dX12_entriesOf_12 ?_
  obtain ⟨c1, hf⟩ := jg_inv hf
  refine jx_iald dX12_entriesOf_13 (kj_182 hE) (jin_vp c1) ?_
  cases hf
  exact jx_iret dX12_entriesOf_14 rfl rfl
def f_X12_entryAt (a1 : Int32) (a2 : Int32) (w : jw) : Option (Int32 × jw) := some ((2700 + (48 * a1)) + (4 * a2), w)
set_option maxRecDepth 20000 in
set_option maxHeartbeats 2000000 in
theorem s_X12_entryAt {E : jE} (hE : jfull E) {a1 : Int32} {a2 : Int32} {w w' : jw} {v : Int32} (hf : f_X12_entryAt a1 a2 w = some (v, w')) : jC E m_X12_entryAt 0 [.int a1, .int a2] w (some (.int v)) w' := by
  refine jC_of (ls := [(0, .int a1), (1, .int a2)]) (by decide) rfl (fun _ => trivial) (Nat.le_of_ble_eq_true rfl) rfl ⟨.int, rfl, rfl⟩ ?_
  unfold f_X12_entryAt at hf
  refine jx_sipush (v := 2700) dX12_entryAt_0 (by decide) ?_
  refine jx_bipush (v := 48) dX12_entryAt_3 (by decide) ?_
  refine jx_iload_n dX12_entryAt_5 rfl ?_
  refine jx_imul dX12_entryAt_6 ?_
  refine jx_iadd dX12_entryAt_7 ?_
  refine jx_iconst (v := 4) dX12_entryAt_8 (by decide) ?_
  refine jx_iload_n dX12_entryAt_9 rfl ?_
  refine jx_imul dX12_entryAt_10 ?_
  refine jx_iadd dX12_entryAt_11 ?_
  cases hf
  exact jx_iret dX12_entryAt_12 rfl rfl
def f_X12_isLiving (a1 : Int32) (w : jw) : Option (Bool × jw) := jg (jin (a1 + 2) 34700) ((if (w.2.1 182 (Int32.toNatClampNeg (a1 + 2))) = (-2) then some (true, w) else some (false, w)))
set_option maxRecDepth 20000 in
set_option maxHeartbeats 2000000 in
theorem s_X12_isLiving {E : jE} (hE : jfull E) {a1 : Int32} {w w' : jw} {v : Bool} (hf : f_X12_isLiving a1 w = some (v, w')) : jC E m_X12_isLiving 0 [.ref (E.2.2.2 + 162), .int a1] w (some (.int (jb v))) w' := by
  refine jC_of (ls := [(0, .ref (E.2.2.2 + 162)), (1, .int a1)]) (by decide) rfl (fun _ => trivial) (Nat.le_of_ble_eq_true rfl) rfl jb_ans ?_
  unfold f_X12_isLiving at hf
  refine jx_aload_n dX12_isLiving_0 rfl ?_
  refine jx_getr dX12_isLiving_1 fl_X12_77 (kj_162 hE) sr_162_34 ?_
  refine jx_iload_n dX12_isLiving_4 rfl ?_
  refine jx_iconst (v := 2) dX12_isLiving_5 (by decide) ?_
  refine jx_iadd dX12_isLiving_6 ?_
  obtain ⟨c1, hf⟩ := jg_inv hf
  refine jx_iald dX12_isLiving_7 (kj_182 hE) (jin_vp c1) ?_
  refine jx_bipush (v := (-2)) dX12_isLiving_8 (by decide) ?_
  refine jx_icmp_ne (tgt := 17) dX12_isLiving_10 (by decide) (fun c2 => ?_) (fun c2 => ?_)
  · rw [if_neg c2] at hf
    refine jx_iconst (v := 0) dX12_isLiving_17 (by decide) ?_
    cases hf
    exact jx_iret dX12_isLiving_18 rfl rfl
  · rw [if_pos c2] at hf
    refine jx_iconst (v := 1) dX12_isLiving_13 (by decide) ?_
    refine jx_goto (tgt := 18) dX12_isLiving_14 (by decide) ?_
    cases hf
    exact jx_iret dX12_isLiving_18 rfl rfl
def l_X12_entryEnds : Nat → Int32 → Int32 → Int32 → jw → Option (jw)
  | 0, _, _, _, _ => none
  | n + 1, b1, b2, b3, w => jbd2 (f_X12_entriesOf b1 w) fun x2 w3 => (if x2 ≤ b3 then some w3 else jbd2 (f_X12_entryAt b1 b3 w3) fun x6 w7 => jbd2 (f_X12_isLiving x6 w7) fun x9 w10 => (if (jb x9) = 0 then jl (b3 + 1) fun x12 => (l_X12_entryEnds n b1 b2 x12 w10) else jbd2 (f_X12_entryAt b1 b3 w10) fun x14 w15 => jg (jin x14 34700) ((if (w15.2.1 182 (Int32.toNatClampNeg x14)) = b2 then jbd2 (f_X12_entryAt b1 b3 w15) fun x20 w21 => jg (jin 0 34700) (jg (jin (x20 + 2) 34700) (jl (jsetX w21 182 (Int32.toNatClampNeg (x20 + 2)) (w21.2.1 182 (Int32.toNatClampNeg 0))) fun w24 => jl (b3 + 1) fun x25 => (l_X12_entryEnds n b1 b2 x25 w24))) else jl (b3 + 1) fun x18 => (l_X12_entryEnds n b1 b2 x18 w15)))))
set_option maxRecDepth 20000 in
set_option maxHeartbeats 2000000 in
theorem sl_X12_entryEnds {E : jE} (hE : jfull E) : ∀ (n : Nat) (b1 : Int32) (b2 : Int32) (b3 : Int32) (w : jw) (w' : jw), l_X12_entryEnds n b1 b2 b3 w = some w' → jX E m_X12_entryEnds 1 2 [(0, .ref (E.2.2.2 + 162)), (1, .int b1), (2, .int b2), (3, .int b3)] [] w none w' := by
  intro n
  induction n with
  | zero => intro b1 b2 b3 w w' hf; cases hf
  | succ n ih =>
    intro b1 b2 b3 w w' hf
    unfold l_X12_entryEnds at hf
    refine jx_iload_n dX12_entryEnds_2 rfl ?_
    refine jx_aload_n dX12_entryEnds_3 rfl ?_
    refine jx_iload_n dX12_entryEnds_4 rfl ?_
    obtain ⟨x2, w3, hq1, hf⟩ := jbd2_inv hf
    refine jx_cVi (a := 162) (As := [.int b1]) (rest := [.int b3]) dX12_entryEnds_5 ml_X12_249 mv_X12_entriesOf (s_X12_entriesOf hE hq1) rfl rfl (jc_162 hE) (by decide) (Nat.le_of_ble_eq_true rfl) ?_
    refine jx_icmp_ge (tgt := 61) dX12_entryEnds_8 (by decide) (fun c4 => ?_) (fun c4 => ?_)
    · rw [if_pos c4] at hf
      cases hf
      exact jx_vret dX12_entryEnds_61 rfl rfl
    · rw [if_neg c4] at hf
      refine jx_aload_n dX12_entryEnds_11 rfl ?_
      refine jx_iload_n dX12_entryEnds_12 rfl ?_
      refine jx_iload_n dX12_entryEnds_13 rfl ?_
      obtain ⟨x6, w7, hq5, hf⟩ := jbd2_inv hf
      refine jx_cSi (As := [.int b1, .int b3]) (rest := [.ref (E.2.2.2 + 162)]) dX12_entryEnds_14 ml_X12_252 ms_X12_entryAt (s_X12_entryAt hE hq5) rfl rfl rfl (by decide) (Nat.le_of_ble_eq_true rfl) ?_
      obtain ⟨x9, w10, hq8, hf⟩ := jbd2_inv hf
      refine jx_cVi (a := 162) (As := [.int x6]) (rest := []) dX12_entryEnds_17 ml_X12_255 mv_X12_isLiving (s_X12_isLiving hE hq8) rfl rfl (jc_162 hE) (by decide) (Nat.le_of_ble_eq_true rfl) ?_
      refine jx_if_eq (tgt := 55) dX12_entryEnds_20 (by decide) (fun c11 => ?_) (fun c11 => ?_)
      · rw [if_pos c11] at hf
        obtain ⟨x12, hx12, hf⟩ := jl_inv hf
        refine jx_iinc (v := x12) (ls' := [(0, .ref (E.2.2.2 + 162)), (1, .int b1), (2, .int b2), (3, .int x12)]) dX12_entryEnds_55 rfl (by rw [hx12]; rfl) (by decide) rfl ?_
        refine jx_goto (tgt := 2) dX12_entryEnds_58 (by decide) ?_
        exact ih _ _ _ _ _ hf
      · rw [if_neg c11] at hf
        refine jx_aload_n dX12_entryEnds_23 rfl ?_
        refine jx_getr dX12_entryEnds_24 fl_X12_77 (kj_162 hE) sr_162_34 ?_
        refine jx_iload_n dX12_entryEnds_27 rfl ?_
        refine jx_iload_n dX12_entryEnds_28 rfl ?_
        obtain ⟨x14, w15, hq13, hf⟩ := jbd2_inv hf
        refine jx_cSi (As := [.int b1, .int b3]) (rest := [.ref (E.2.2.2 + 182)]) dX12_entryEnds_29 ml_X12_252 ms_X12_entryAt (s_X12_entryAt hE hq13) rfl rfl rfl (by decide) (Nat.le_of_ble_eq_true rfl) ?_
        obtain ⟨c16, hf⟩ := jg_inv hf
        refine jx_iald dX12_entryEnds_32 (kj_182 hE) (jin_vp c16) ?_
        refine jx_iload_n dX12_entryEnds_33 rfl ?_
        refine jx_icmp_ne (tgt := 55) dX12_entryEnds_34 (by decide) (fun c17 => ?_) (fun c17 => ?_)
        · rw [if_neg c17] at hf
          obtain ⟨x18, hx18, hf⟩ := jl_inv hf
          refine jx_iinc (v := x18) (ls' := [(0, .ref (E.2.2.2 + 162)), (1, .int b1), (2, .int b2), (3, .int x18)]) dX12_entryEnds_55 rfl (by rw [hx18]; rfl) (by decide) rfl ?_
          refine jx_goto (tgt := 2) dX12_entryEnds_58 (by decide) ?_
          exact ih _ _ _ _ _ hf
        · rw [if_pos c17] at hf
          refine jx_aload_n dX12_entryEnds_37 rfl ?_
          refine jx_getr dX12_entryEnds_38 fl_X12_77 (kj_162 hE) sr_162_34 ?_
          refine jx_iload_n dX12_entryEnds_41 rfl ?_
          refine jx_iload_n dX12_entryEnds_42 rfl ?_
          obtain ⟨x20, w21, hq19, hf⟩ := jbd2_inv hf
          refine jx_cSi (As := [.int b1, .int b3]) (rest := [.ref (E.2.2.2 + 182)]) dX12_entryEnds_43 ml_X12_252 ms_X12_entryAt (s_X12_entryAt hE hq19) rfl rfl rfl (by decide) (Nat.le_of_ble_eq_true rfl) ?_
          refine jx_iconst (v := 2) dX12_entryEnds_46 (by decide) ?_
          refine jx_iadd dX12_entryEnds_47 ?_
          refine jx_aload_n dX12_entryEnds_48 rfl ?_
          refine jx_getr dX12_entryEnds_49 fl_X12_77 (kj_162 hE) sr_162_34 ?_
          refine jx_iconst (v := 0) dX12_entryEnds_52 (by decide) ?_
          obtain ⟨c22, hf⟩ := jg_inv hf
          refine jx_iald dX12_entryEnds_53 (kj_182 hE) (jin_vp c22) ?_
          obtain ⟨c23, hf⟩ := jg_inv hf
          refine jx_iast dX12_entryEnds_54 (kj_182 hE) (jin_vp c23) ?_
          obtain ⟨w24, hw24, hf⟩ := jl_inv hf
          refine jx_nw hw24 ?_
          obtain ⟨x25, hx25, hf⟩ := jl_inv hf
          refine jx_iinc (v := x25) (ls' := [(0, .ref (E.2.2.2 + 162)), (1, .int b1), (2, .int b2), (3, .int x25)]) dX12_entryEnds_55 rfl (by rw [hx25]; rfl) (by decide) rfl ?_
          refine jx_goto (tgt := 2) dX12_entryEnds_58 (by decide) ?_
          exact ih _ _ _ _ _ hf
def f_X12_entryEnds (a1 : Int32) (a2 : Int32) (w : jw) : Option (jw) := (l_X12_entryEnds jfu a1 a2 0 w)
set_option maxRecDepth 20000 in
set_option maxHeartbeats 2000000 in
theorem s_X12_entryEnds {E : jE} (hE : jfull E) {a1 : Int32} {a2 : Int32} {w w' : jw} (hf : f_X12_entryEnds a1 a2 w = some w') : jC E m_X12_entryEnds 1 [.ref (E.2.2.2 + 162), .int a1, .int a2] w none w' := by
  refine jC_of (ls := [(0, .ref (E.2.2.2 + 162)), (1, .int a1), (2, .int a2)]) (by decide) rfl (fun _ => trivial) (Nat.le_of_ble_eq_true rfl) rfl rfl ?_
  unfold f_X12_entryEnds at hf
  refine jx_iconst (v := 0) dX12_entryEnds_0 (by decide) ?_
  refine jx_istore_n (ls' := [(0, .ref (E.2.2.2 + 162)), (1, .int a1), (2, .int a2), (3, .int 0)]) dX12_entryEnds_1 (by decide) rfl ?_
  exact sl_X12_entryEnds hE jfu _ _ _ _ _ hf
def l_X12_childOf : Nat → Int32 → Int32 → Int32 → Int32 → jw → Option (Int32 × jw)
  | 0, _, _, _, _, _ => none
  | n + 1, b1, b2, b3, b4, w => jbd2 (f_X12_entriesOf b1 w) fun x2 w3 => (if x2 ≤ b4 then jg (jin (b3 + 3) 34700) (some (w3.2.1 182 (Int32.toNatClampNeg (b3 + 3)), w3)) else jbd2 (f_X12_entryAt b1 b4 w3) fun x7 w8 => jbd2 (f_X12_isLiving x7 w8) fun x10 w11 => (if (jb x10) = 0 then jl (b4 + 1) fun x13 => (l_X12_childOf n b1 b2 b3 x13 w11) else jg (jin x7 34700) ((if b2 < (w11.2.1 182 (Int32.toNatClampNeg x7)) then jl (b4 + 1) fun x16 => (l_X12_childOf n b1 b2 b3 x16 w11) else (if b3 < 0 then jl (b4 + 1) fun x18 => (l_X12_childOf n b1 b2 x7 x18 w11) else jg (jin x7 34700) (jg (jin b3 34700) ((if (w11.2.1 182 (Int32.toNatClampNeg x7)) ≤ (w11.2.1 182 (Int32.toNatClampNeg b3)) then jl (b4 + 1) fun x22 => (l_X12_childOf n b1 b2 b3 x22 w11) else jl (b4 + 1) fun x23 => (l_X12_childOf n b1 b2 x7 x23 w11)))))))))
set_option maxRecDepth 20000 in
set_option maxHeartbeats 2000000 in
theorem sl_X12_childOf {E : jE} (hE : jfull E) : ∀ (n : Nat) (b1 : Int32) (b2 : Int32) (b3 : Int32) (b4 : Int32) (w : jw) (v : Int32) (w' : jw), l_X12_childOf n b1 b2 b3 b4 w = some (v, w') → jX E m_X12_childOf 1 5 [(0, .ref (E.2.2.2 + 162)), (1, .int b1), (2, .int b2), (3, .int b3), (4, .int b4)] [] w (some (.int v)) w' := by
  intro n
  induction n with
  | zero => intro b1 b2 b3 b4 w v w' hf; cases hf
  | succ n ih =>
    intro b1 b2 b3 b4 w v w' hf
    unfold l_X12_childOf at hf
    refine jx_iload dX12_childOf_5 rfl ?_
    refine jx_aload_n dX12_childOf_7 rfl ?_
    refine jx_iload_n dX12_childOf_8 rfl ?_
    obtain ⟨x2, w3, hq1, hf⟩ := jbd2_inv hf
    refine jx_cVi (a := 162) (As := [.int b1]) (rest := [.int b4]) dX12_childOf_9 ml_X12_249 mv_X12_entriesOf (s_X12_entriesOf hE hq1) rfl rfl (jc_162 hE) (by decide) (Nat.le_of_ble_eq_true rfl) ?_
    refine jx_icmp_ge (tgt := 72) dX12_childOf_12 (by decide) (fun c4 => ?_) (fun c4 => ?_)
    · rw [if_pos c4] at hf
      refine jx_aload_n dX12_childOf_72 rfl ?_
      refine jx_getr dX12_childOf_73 fl_X12_77 (kj_162 hE) sr_162_34 ?_
      refine jx_iload_n dX12_childOf_76 rfl ?_
      refine jx_iconst (v := 3) dX12_childOf_77 (by decide) ?_
      refine jx_iadd dX12_childOf_78 ?_
      obtain ⟨c5, hf⟩ := jg_inv hf
      refine jx_iald dX12_childOf_79 (kj_182 hE) (jin_vp c5) ?_
      cases hf
      exact jx_iret dX12_childOf_80 rfl rfl
    · rw [if_neg c4] at hf
      refine jx_iload_n dX12_childOf_15 rfl ?_
      refine jx_iload dX12_childOf_16 rfl ?_
      obtain ⟨x7, w8, hq6, hf⟩ := jbd2_inv hf
      refine jx_cSi (As := [.int b1, .int b4]) (rest := []) dX12_childOf_18 ml_X12_252 ms_X12_entryAt (s_X12_entryAt hE hq6) rfl rfl rfl (by decide) (Nat.le_of_ble_eq_true rfl) ?_
      refine jx_istore (ls' := [(0, .ref (E.2.2.2 + 162)), (1, .int b1), (2, .int b2), (3, .int b3), (4, .int b4), (5, .int x7)]) dX12_childOf_21 (by decide) rfl ?_
      refine jx_aload_n dX12_childOf_23 rfl ?_
      refine jx_iload dX12_childOf_24 rfl ?_
      obtain ⟨x10, w11, hq9, hf⟩ := jbd2_inv hf
      refine jx_cVi (a := 162) (As := [.int x7]) (rest := []) dX12_childOf_26 ml_X12_255 mv_X12_isLiving (s_X12_isLiving hE hq9) rfl rfl (jc_162 hE) (by decide) (Nat.le_of_ble_eq_true rfl) ?_
      refine jx_if_eq (tgt := 66) dX12_childOf_29 (by decide) (fun c12 => ?_) (fun c12 => ?_)
      · rw [if_pos c12] at hf
        obtain ⟨x13, hx13, hf⟩ := jl_inv hf
        refine jx_iinc (v := x13) (ls' := [(0, .ref (E.2.2.2 + 162)), (1, .int b1), (2, .int b2), (3, .int b3), (4, .int x13), (5, .int x7)]) dX12_childOf_66 rfl (by rw [hx13]; rfl) (by decide) rfl ?_
        refine jx_goto (tgt := 5) dX12_childOf_69 (by decide) ?_
        refine jx_pick [0, 1, 2, 3, 4] rfl ?_
        exact ih _ _ _ _ _ _ _ hf
      · rw [if_neg c12] at hf
        refine jx_aload_n dX12_childOf_32 rfl ?_
        refine jx_getr dX12_childOf_33 fl_X12_77 (kj_162 hE) sr_162_34 ?_
        refine jx_iload dX12_childOf_36 rfl ?_
        obtain ⟨c14, hf⟩ := jg_inv hf
        refine jx_iald dX12_childOf_38 (kj_182 hE) (jin_vp c14) ?_
        refine jx_iload_n dX12_childOf_39 rfl ?_
        refine jx_icmp_gt (tgt := 66) dX12_childOf_40 (by decide) (fun c15 => ?_) (fun c15 => ?_)
        · rw [if_pos c15] at hf
          obtain ⟨x16, hx16, hf⟩ := jl_inv hf
          refine jx_iinc (v := x16) (ls' := [(0, .ref (E.2.2.2 + 162)), (1, .int b1), (2, .int b2), (3, .int b3), (4, .int x16), (5, .int x7)]) dX12_childOf_66 rfl (by rw [hx16]; rfl) (by decide) rfl ?_
          refine jx_goto (tgt := 5) dX12_childOf_69 (by decide) ?_
          refine jx_pick [0, 1, 2, 3, 4] rfl ?_
          exact ih _ _ _ _ _ _ _ hf
        · rw [if_neg c15] at hf
          refine jx_iload_n dX12_childOf_43 rfl ?_
          refine jx_if_lt (tgt := 63) dX12_childOf_44 (by decide) (fun c17 => ?_) (fun c17 => ?_)
          · rw [if_pos c17] at hf
            refine jx_iload dX12_childOf_63 rfl ?_
            refine jx_istore_n (ls' := [(0, .ref (E.2.2.2 + 162)), (1, .int b1), (2, .int b2), (3, .int x7), (4, .int b4), (5, .int x7)]) dX12_childOf_65 (by decide) rfl ?_
            obtain ⟨x18, hx18, hf⟩ := jl_inv hf
            refine jx_iinc (v := x18) (ls' := [(0, .ref (E.2.2.2 + 162)), (1, .int b1), (2, .int b2), (3, .int x7), (4, .int x18), (5, .int x7)]) dX12_childOf_66 rfl (by rw [hx18]; rfl) (by decide) rfl ?_
            refine jx_goto (tgt := 5) dX12_childOf_69 (by decide) ?_
            refine jx_pick [0, 1, 2, 3, 4] rfl ?_
            exact ih _ _ _ _ _ _ _ hf
          · rw [if_neg c17] at hf
            refine jx_aload_n dX12_childOf_47 rfl ?_
            refine jx_getr dX12_childOf_48 fl_X12_77 (kj_162 hE) sr_162_34 ?_
            refine jx_iload dX12_childOf_51 rfl ?_
            obtain ⟨c19, hf⟩ := jg_inv hf
            refine jx_iald dX12_childOf_53 (kj_182 hE) (jin_vp c19) ?_
            refine jx_aload_n dX12_childOf_54 rfl ?_
            refine jx_getr dX12_childOf_55 fl_X12_77 (kj_162 hE) sr_162_34 ?_
            refine jx_iload_n dX12_childOf_58 rfl ?_
            obtain ⟨c20, hf⟩ := jg_inv hf
            refine jx_iald dX12_childOf_59 (kj_182 hE) (jin_vp c20) ?_
            refine jx_icmp_le (tgt := 66) dX12_childOf_60 (by decide) (fun c21 => ?_) (fun c21 => ?_)
            · rw [if_pos c21] at hf
              obtain ⟨x22, hx22, hf⟩ := jl_inv hf
              refine jx_iinc (v := x22) (ls' := [(0, .ref (E.2.2.2 + 162)), (1, .int b1), (2, .int b2), (3, .int b3), (4, .int x22), (5, .int x7)]) dX12_childOf_66 rfl (by rw [hx22]; rfl) (by decide) rfl ?_
              refine jx_goto (tgt := 5) dX12_childOf_69 (by decide) ?_
              refine jx_pick [0, 1, 2, 3, 4] rfl ?_
              exact ih _ _ _ _ _ _ _ hf
            · rw [if_neg c21] at hf
              refine jx_iload dX12_childOf_63 rfl ?_
              refine jx_istore_n (ls' := [(0, .ref (E.2.2.2 + 162)), (1, .int b1), (2, .int b2), (3, .int x7), (4, .int b4), (5, .int x7)]) dX12_childOf_65 (by decide) rfl ?_
              obtain ⟨x23, hx23, hf⟩ := jl_inv hf
              refine jx_iinc (v := x23) (ls' := [(0, .ref (E.2.2.2 + 162)), (1, .int b1), (2, .int b2), (3, .int x7), (4, .int x23), (5, .int x7)]) dX12_childOf_66 rfl (by rw [hx23]; rfl) (by decide) rfl ?_
              refine jx_goto (tgt := 5) dX12_childOf_69 (by decide) ?_
              refine jx_pick [0, 1, 2, 3, 4] rfl ?_
              exact ih _ _ _ _ _ _ _ hf
def f_X12_childOf (a1 : Int32) (a2 : Int32) (w : jw) : Option (Int32 × jw) := (l_X12_childOf jfu a1 a2 (-1) 0 w)
set_option maxRecDepth 20000 in
set_option maxHeartbeats 2000000 in
theorem s_X12_childOf {E : jE} (hE : jfull E) {a1 : Int32} {a2 : Int32} {w w' : jw} {v : Int32} (hf : f_X12_childOf a1 a2 w = some (v, w')) : jC E m_X12_childOf 1 [.ref (E.2.2.2 + 162), .int a1, .int a2] w (some (.int v)) w' := by
  refine jC_of (ls := [(0, .ref (E.2.2.2 + 162)), (1, .int a1), (2, .int a2)]) (by decide) rfl (fun _ => trivial) (Nat.le_of_ble_eq_true rfl) rfl ⟨.int, rfl, rfl⟩ ?_
  unfold f_X12_childOf at hf
  refine jx_iconst (v := (-1)) dX12_childOf_0 (by decide) ?_
  refine jx_istore_n (ls' := [(0, .ref (E.2.2.2 + 162)), (1, .int a1), (2, .int a2), (3, .int (-1))]) dX12_childOf_1 (by decide) rfl ?_
  refine jx_iconst (v := 0) dX12_childOf_2 (by decide) ?_
  refine jx_istore (ls' := [(0, .ref (E.2.2.2 + 162)), (1, .int a1), (2, .int a2), (3, .int (-1)), (4, .int 0)]) dX12_childOf_3 (by decide) rfl ?_
  exact sl_X12_childOf hE jfu _ _ _ _ _ _ _ hf
def f_X12_isLeaf (a1 : Int32) (w : jw) : Option (Bool × jw) := jg (jin (1410 + (4 * a1)) 34700) ((if (w.2.1 182 (Int32.toNatClampNeg (1410 + (4 * a1)))) = 1 then some (true, w) else some (false, w)))
set_option maxRecDepth 20000 in
set_option maxHeartbeats 2000000 in
theorem s_X12_isLeaf {E : jE} (hE : jfull E) {a1 : Int32} {w w' : jw} {v : Bool} (hf : f_X12_isLeaf a1 w = some (v, w')) : jC E m_X12_isLeaf 0 [.ref (E.2.2.2 + 162), .int a1] w (some (.int (jb v))) w' := by
  refine jC_of (ls := [(0, .ref (E.2.2.2 + 162)), (1, .int a1)]) (by decide) rfl (fun _ => trivial) (Nat.le_of_ble_eq_true rfl) rfl jb_ans ?_
  unfold f_X12_isLeaf at hf
  refine jx_aload_n dX12_isLeaf_0 rfl ?_
  refine jx_getr dX12_isLeaf_1 fl_X12_77 (kj_162 hE) sr_162_34 ?_
  refine jx_sipush (v := 1410) dX12_isLeaf_4 (by decide) ?_
  refine jx_iconst (v := 4) dX12_isLeaf_7 (by decide) ?_
  refine jx_iload_n dX12_isLeaf_8 rfl ?_
  refine jx_imul dX12_isLeaf_9 ?_
  refine jx_iadd dX12_isLeaf_10 ?_
  obtain ⟨c1, hf⟩ := jg_inv hf
  refine jx_iald dX12_isLeaf_11 (kj_182 hE) (jin_vp c1) ?_
  refine jx_iconst (v := 1) dX12_isLeaf_12 (by decide) ?_
  refine jx_icmp_ne (tgt := 20) dX12_isLeaf_13 (by decide) (fun c2 => ?_) (fun c2 => ?_)
  · rw [if_neg c2] at hf
    refine jx_iconst (v := 0) dX12_isLeaf_20 (by decide) ?_
    cases hf
    exact jx_iret dX12_isLeaf_21 rfl rfl
  · rw [if_pos c2] at hf
    refine jx_iconst (v := 1) dX12_isLeaf_16 (by decide) ?_
    refine jx_goto (tgt := 21) dX12_isLeaf_17 (by decide) ?_
    cases hf
    exact jx_iret dX12_isLeaf_21 rfl rfl
def f_X12_rootNow  (w : jw) : Option (Int32 × jw) := jg (jin 2 34700) (jg (jin ((710 + (w.2.1 182 (Int32.toNatClampNeg 2))) - 1) 34700) (some (w.2.1 182 (Int32.toNatClampNeg ((710 + (w.2.1 182 (Int32.toNatClampNeg 2))) - 1)), w)))
set_option maxRecDepth 20000 in
set_option maxHeartbeats 2000000 in
theorem s_X12_rootNow {E : jE} (hE : jfull E)  {w w' : jw} {v : Int32} (hf : f_X12_rootNow  w = some (v, w')) : jC E m_X12_rootNow 0 [.ref (E.2.2.2 + 162)] w (some (.int v)) w' := by
  refine jC_of (ls := [(0, .ref (E.2.2.2 + 162))]) (by decide) rfl (fun _ => trivial) (Nat.le_of_ble_eq_true rfl) rfl ⟨.int, rfl, rfl⟩ ?_
  unfold f_X12_rootNow at hf
  refine jx_aload_n dX12_rootNow_0 rfl ?_
  refine jx_getr dX12_rootNow_1 fl_X12_77 (kj_162 hE) sr_162_34 ?_
  refine jx_sipush (v := 710) dX12_rootNow_4 (by decide) ?_
  refine jx_aload_n dX12_rootNow_7 rfl ?_
  refine jx_getr dX12_rootNow_8 fl_X12_77 (kj_162 hE) sr_162_34 ?_
  refine jx_iconst (v := 2) dX12_rootNow_11 (by decide) ?_
  obtain ⟨c1, hf⟩ := jg_inv hf
  refine jx_iald dX12_rootNow_12 (kj_182 hE) (jin_vp c1) ?_
  refine jx_iadd dX12_rootNow_13 ?_
  refine jx_iconst (v := 1) dX12_rootNow_14 (by decide) ?_
  refine jx_isub dX12_rootNow_15 ?_
  obtain ⟨c2, hf⟩ := jg_inv hf
  refine jx_iald dX12_rootNow_16 (kj_182 hE) (jin_vp c2) ?_
  cases hf
  exact jx_iret dX12_rootNow_17 rfl rfl
def l_X12_goesDown : Nat → Int32 → Int32 → jw → Option (jw)
  | 0, _, _, _ => none
  | n + 1, b1, b2, w => jbd2 (f_X12_isLeaf b2 w) fun x2 w3 => (if (jb x2) = 0 then jbd2 (f_X12_childOf b2 b1 w3) fun x6 w7 => jg (jin (w7.1 162 36) 40) (jl (jsetX w7 183 (Int32.toNatClampNeg (w7.1 162 36)) x6) fun w9 => jl (jsetI w9 162 36 ((w9.1 162 36) + 1)) fun w10 => (l_X12_goesDown n b1 x6 w10)) else some w3)
set_option maxRecDepth 20000 in
set_option maxHeartbeats 2000000 in
theorem sl_X12_goesDown {E : jE} (hE : jfull E) : ∀ (n : Nat) (b1 : Int32) (b2 : Int32) (w : jw) (w' : jw), l_X12_goesDown n b1 b2 w = some w' → jX E m_X12_goesDown 2 17 [(0, .ref (E.2.2.2 + 162)), (1, .int b1), (2, .int b2)] [] w none w' := by
  intro n
  induction n with
  | zero => intro b1 b2 w w' hf; cases hf
  | succ n ih =>
    intro b1 b2 w w' hf
    unfold l_X12_goesDown at hf
    refine jx_aload_n dX12_goesDown_17 rfl ?_
    refine jx_iload_n dX12_goesDown_18 rfl ?_
    obtain ⟨x2, w3, hq1, hf⟩ := jbd2_inv hf
    refine jx_cVi (a := 162) (As := [.int b2]) (rest := []) dX12_goesDown_19 ml_X12_265 mv_X12_isLeaf (s_X12_isLeaf hE hq1) rfl rfl (jc_162 hE) (by decide) (Nat.le_of_ble_eq_true rfl) ?_
    refine jx_if_ne (tgt := 55) dX12_goesDown_22 (by decide) (fun c4 => ?_) (fun c4 => ?_)
    · rw [if_neg c4] at hf
      cases hf
      exact jx_vret dX12_goesDown_55 rfl rfl
    · rw [if_pos c4] at hf
      refine jx_aload_n dX12_goesDown_25 rfl ?_
      refine jx_iload_n dX12_goesDown_26 rfl ?_
      refine jx_iload_n dX12_goesDown_27 rfl ?_
      obtain ⟨x6, w7, hq5, hf⟩ := jbd2_inv hf
      refine jx_cVi (a := 162) (As := [.int b2, .int b1]) (rest := []) dX12_goesDown_28 ml_X12_268 mv_X12_childOf (s_X12_childOf hE hq5) rfl rfl (jc_162 hE) (by decide) (Nat.le_of_ble_eq_true rfl) ?_
      refine jx_istore_n (ls' := [(0, .ref (E.2.2.2 + 162)), (1, .int b1), (2, .int x6)]) dX12_goesDown_31 (by decide) rfl ?_
      refine jx_aload_n dX12_goesDown_32 rfl ?_
      refine jx_getr dX12_goesDown_33 fl_X12_80 (kj_162 hE) sr_162_35 ?_
      refine jx_aload_n dX12_goesDown_36 rfl ?_
      refine jx_geti dX12_goesDown_37 fl_X12_262 (kj_162 hE) sr_162_36 ?_
      refine jx_iload_n dX12_goesDown_40 rfl ?_
      obtain ⟨c8, hf⟩ := jg_inv hf
      refine jx_iast dX12_goesDown_41 (kj_183 hE) (jin_vp c8) ?_
      obtain ⟨w9, hw9, hf⟩ := jl_inv hf
      refine jx_nw hw9 ?_
      refine jx_aload_n dX12_goesDown_42 rfl ?_
      refine jx_dup dX12_goesDown_43 rfl ?_
      refine jx_geti dX12_goesDown_44 fl_X12_262 (kj_162 hE) sr_162_36 ?_
      refine jx_iconst (v := 1) dX12_goesDown_47 (by decide) ?_
      refine jx_iadd dX12_goesDown_48 ?_
      refine jx_puti dX12_goesDown_49 fp_X12_262 (kj_162 hE) sr_162_36 rfl rfl ?_
      obtain ⟨w10, hw10, hf⟩ := jl_inv hf
      refine jx_nw hw10 ?_
      refine jx_goto (tgt := 17) dX12_goesDown_52 (by decide) ?_
      exact ih _ _ _ _ hf
def f_X12_goesDown (a1 : Int32) (w : jw) : Option (jw) := jbd2 (f_X12_rootNow  w) fun x12 w13 => jg (jin 0 40) (jl (jsetX w13 183 (Int32.toNatClampNeg 0) x12) fun w15 => jl (jsetI w15 162 36 1) fun w16 => (l_X12_goesDown jfu a1 x12 w16))
set_option maxRecDepth 20000 in
set_option maxHeartbeats 2000000 in
theorem s_X12_goesDown {E : jE} (hE : jfull E) {a1 : Int32} {w w' : jw} (hf : f_X12_goesDown a1 w = some w') : jC E m_X12_goesDown 2 [.ref (E.2.2.2 + 162), .int a1] w none w' := by
  refine jC_of (ls := [(0, .ref (E.2.2.2 + 162)), (1, .int a1)]) (by decide) rfl (fun _ => trivial) (Nat.le_of_ble_eq_true rfl) rfl rfl ?_
  unfold f_X12_goesDown at hf
  refine jx_aload_n dX12_goesDown_0 rfl ?_
  obtain ⟨x12, w13, hq11, hf⟩ := jbd2_inv hf
  refine jx_cVi (a := 162) (As := []) (rest := []) dX12_goesDown_1 ml_X12_258 mv_X12_rootNow (s_X12_rootNow hE hq11) rfl rfl (jc_162 hE) (by decide) (Nat.le_of_ble_eq_true rfl) ?_
  refine jx_istore_n (ls' := [(0, .ref (E.2.2.2 + 162)), (1, .int a1), (2, .int x12)]) dX12_goesDown_4 (by decide) rfl ?_
  refine jx_aload_n dX12_goesDown_5 rfl ?_
  refine jx_getr dX12_goesDown_6 fl_X12_80 (kj_162 hE) sr_162_35 ?_
  refine jx_iconst (v := 0) dX12_goesDown_9 (by decide) ?_
  refine jx_iload_n dX12_goesDown_10 rfl ?_
  obtain ⟨c14, hf⟩ := jg_inv hf
  refine jx_iast dX12_goesDown_11 (kj_183 hE) (jin_vp c14) ?_
  obtain ⟨w15, hw15, hf⟩ := jl_inv hf
  refine jx_nw hw15 ?_
  refine jx_aload_n dX12_goesDown_12 rfl ?_
  refine jx_iconst (v := 1) dX12_goesDown_13 (by decide) ?_
  refine jx_puti dX12_goesDown_14 fp_X12_262 (kj_162 hE) sr_162_36 rfl rfl ?_
  obtain ⟨w16, hw16, hf⟩ := jl_inv hf
  refine jx_nw hw16 ?_
  exact sl_X12_goesDown hE jfu _ _ _ _ hf
def l_X12_joins : Nat → Int32 → Int32 → Int32 → Int32 → jw → Option (jw)
  | 0, _, _, _, _, _ => none
  | n + 1, b1, b2, b3, b4, w => (if b4 ≤ 0 then jg (jin b4 40) (jl (jsetX w 184 (Int32.toNatClampNeg b4) b1) fun w3 => jg (jin b4 40) (jl (jsetX w3 185 (Int32.toNatClampNeg b4) b2) fun w5 => jg (jin b4 40) (jl (jsetX w5 186 (Int32.toNatClampNeg b4) b3) fun w7 => jl (jsetI w7 162 37 ((w7.1 162 37) + 1)) fun w8 => some w8))) else jg (jin (b4 - 1) 40) ((if (w.2.1 184 (Int32.toNatClampNeg (b4 - 1))) ≤ b1 then jg (jin b4 40) (jl (jsetX w 184 (Int32.toNatClampNeg b4) b1) fun w12 => jg (jin b4 40) (jl (jsetX w12 185 (Int32.toNatClampNeg b4) b2) fun w14 => jg (jin b4 40) (jl (jsetX w14 186 (Int32.toNatClampNeg b4) b3) fun w16 => jl (jsetI w16 162 37 ((w16.1 162 37) + 1)) fun w17 => some w17))) else jg (jin (b4 - 1) 40) (jg (jin b4 40) (jl (jsetX w 184 (Int32.toNatClampNeg b4) (w.2.1 184 (Int32.toNatClampNeg (b4 - 1)))) fun w20 => jg (jin (b4 - 1) 40) (jg (jin b4 40) (jl (jsetX w20 185 (Int32.toNatClampNeg b4) (w20.2.1 185 (Int32.toNatClampNeg (b4 - 1)))) fun w23 => jg (jin (b4 - 1) 40) (jg (jin b4 40) (jl (jsetX w23 186 (Int32.toNatClampNeg b4) (w23.2.1 186 (Int32.toNatClampNeg (b4 - 1)))) fun w26 => jl (b4 + (-1)) fun x27 => (l_X12_joins n b1 b2 b3 x27 w26))))))))))
set_option maxRecDepth 20000 in
set_option maxHeartbeats 2000000 in
theorem sl_X12_joins {E : jE} (hE : jfull E) : ∀ (n : Nat) (b1 : Int32) (b2 : Int32) (b3 : Int32) (b4 : Int32) (w : jw) (w' : jw), l_X12_joins n b1 b2 b3 b4 w = some w' → jX E m_X12_joins 0 6 [(0, .ref (E.2.2.2 + 162)), (1, .int b1), (2, .int b2), (3, .int b3), (4, .int b4)] [] w none w' := by
  intro n
  induction n with
  | zero => intro b1 b2 b3 b4 w w' hf; cases hf
  | succ n ih =>
    intro b1 b2 b3 b4 w w' hf
    unfold l_X12_joins at hf
    refine jx_iload dX12_joins_6 rfl ?_
    refine jx_if_le (tgt := 78) dX12_joins_8 (by decide) (fun c1 => ?_) (fun c1 => ?_)
    · rw [if_pos c1] at hf
      refine jx_aload_n dX12_joins_78 rfl ?_
      refine jx_getr dX12_joins_79 fl_X12_83 (kj_162 hE) sr_162_38 ?_
      refine jx_iload dX12_joins_82 rfl ?_
      refine jx_iload_n dX12_joins_84 rfl ?_
      obtain ⟨c2, hf⟩ := jg_inv hf
      refine jx_iast dX12_joins_85 (kj_184 hE) (jin_vp c2) ?_
      obtain ⟨w3, hw3, hf⟩ := jl_inv hf
      refine jx_nw hw3 ?_
      refine jx_aload_n dX12_joins_86 rfl ?_
      refine jx_getr dX12_joins_87 fl_X12_86 (kj_162 hE) sr_162_39 ?_
      refine jx_iload dX12_joins_90 rfl ?_
      refine jx_iload_n dX12_joins_92 rfl ?_
      obtain ⟨c4, hf⟩ := jg_inv hf
      refine jx_iast dX12_joins_93 (kj_185 hE) (jin_vp c4) ?_
      obtain ⟨w5, hw5, hf⟩ := jl_inv hf
      refine jx_nw hw5 ?_
      refine jx_aload_n dX12_joins_94 rfl ?_
      refine jx_getr dX12_joins_95 fl_X12_89 (kj_162 hE) sr_162_40 ?_
      refine jx_iload dX12_joins_98 rfl ?_
      refine jx_iload_n dX12_joins_100 rfl ?_
      obtain ⟨c6, hf⟩ := jg_inv hf
      refine jx_iast dX12_joins_101 (kj_186 hE) (jin_vp c6) ?_
      obtain ⟨w7, hw7, hf⟩ := jl_inv hf
      refine jx_nw hw7 ?_
      refine jx_aload_n dX12_joins_102 rfl ?_
      refine jx_dup dX12_joins_103 rfl ?_
      refine jx_geti dX12_joins_104 fl_X12_271 (kj_162 hE) sr_162_37 ?_
      refine jx_iconst (v := 1) dX12_joins_107 (by decide) ?_
      refine jx_iadd dX12_joins_108 ?_
      refine jx_puti dX12_joins_109 fp_X12_271 (kj_162 hE) sr_162_37 rfl rfl ?_
      obtain ⟨w8, hw8, hf⟩ := jl_inv hf
      refine jx_nw hw8 ?_
      cases hf
      exact jx_vret dX12_joins_112 rfl rfl
    · rw [if_neg c1] at hf
      refine jx_aload_n dX12_joins_11 rfl ?_
      refine jx_getr dX12_joins_12 fl_X12_83 (kj_162 hE) sr_162_38 ?_
      refine jx_iload dX12_joins_15 rfl ?_
      refine jx_iconst (v := 1) dX12_joins_17 (by decide) ?_
      refine jx_isub dX12_joins_18 ?_
      obtain ⟨c9, hf⟩ := jg_inv hf
      refine jx_iald dX12_joins_19 (kj_184 hE) (jin_vp c9) ?_
      refine jx_iload_n dX12_joins_20 rfl ?_
      refine jx_icmp_le (tgt := 78) dX12_joins_21 (by decide) (fun c10 => ?_) (fun c10 => ?_)
      · rw [if_pos c10] at hf
        refine jx_aload_n dX12_joins_78 rfl ?_
        refine jx_getr dX12_joins_79 fl_X12_83 (kj_162 hE) sr_162_38 ?_
        refine jx_iload dX12_joins_82 rfl ?_
        refine jx_iload_n dX12_joins_84 rfl ?_
        obtain ⟨c11, hf⟩ := jg_inv hf
        refine jx_iast dX12_joins_85 (kj_184 hE) (jin_vp c11) ?_
        obtain ⟨w12, hw12, hf⟩ := jl_inv hf
        refine jx_nw hw12 ?_
        refine jx_aload_n dX12_joins_86 rfl ?_
        refine jx_getr dX12_joins_87 fl_X12_86 (kj_162 hE) sr_162_39 ?_
        refine jx_iload dX12_joins_90 rfl ?_
        refine jx_iload_n dX12_joins_92 rfl ?_
        obtain ⟨c13, hf⟩ := jg_inv hf
        refine jx_iast dX12_joins_93 (kj_185 hE) (jin_vp c13) ?_
        obtain ⟨w14, hw14, hf⟩ := jl_inv hf
        refine jx_nw hw14 ?_
        refine jx_aload_n dX12_joins_94 rfl ?_
        refine jx_getr dX12_joins_95 fl_X12_89 (kj_162 hE) sr_162_40 ?_
        refine jx_iload dX12_joins_98 rfl ?_
        refine jx_iload_n dX12_joins_100 rfl ?_
        obtain ⟨c15, hf⟩ := jg_inv hf
        refine jx_iast dX12_joins_101 (kj_186 hE) (jin_vp c15) ?_
        obtain ⟨w16, hw16, hf⟩ := jl_inv hf
        refine jx_nw hw16 ?_
        refine jx_aload_n dX12_joins_102 rfl ?_
        refine jx_dup dX12_joins_103 rfl ?_
        refine jx_geti dX12_joins_104 fl_X12_271 (kj_162 hE) sr_162_37 ?_
        refine jx_iconst (v := 1) dX12_joins_107 (by decide) ?_
        refine jx_iadd dX12_joins_108 ?_
        refine jx_puti dX12_joins_109 fp_X12_271 (kj_162 hE) sr_162_37 rfl rfl ?_
        obtain ⟨w17, hw17, hf⟩ := jl_inv hf
        refine jx_nw hw17 ?_
        cases hf
        exact jx_vret dX12_joins_112 rfl rfl
      · rw [if_neg c10] at hf
        refine jx_aload_n dX12_joins_24 rfl ?_
        refine jx_getr dX12_joins_25 fl_X12_83 (kj_162 hE) sr_162_38 ?_
        refine jx_iload dX12_joins_28 rfl ?_
        refine jx_aload_n dX12_joins_30 rfl ?_
        refine jx_getr dX12_joins_31 fl_X12_83 (kj_162 hE) sr_162_38 ?_
        refine jx_iload dX12_joins_34 rfl ?_
        refine jx_iconst (v := 1) dX12_joins_36 (by decide) ?_
        refine jx_isub dX12_joins_37 ?_
        obtain ⟨c18, hf⟩ := jg_inv hf
        refine jx_iald dX12_joins_38 (kj_184 hE) (jin_vp c18) ?_
        obtain ⟨c19, hf⟩ := jg_inv hf
        refine jx_iast dX12_joins_39 (kj_184 hE) (jin_vp c19) ?_
        obtain ⟨w20, hw20, hf⟩ := jl_inv hf
        refine jx_nw hw20 ?_
        refine jx_aload_n dX12_joins_40 rfl ?_
        refine jx_getr dX12_joins_41 fl_X12_86 (kj_162 hE) sr_162_39 ?_
        refine jx_iload dX12_joins_44 rfl ?_
        refine jx_aload_n dX12_joins_46 rfl ?_
        refine jx_getr dX12_joins_47 fl_X12_86 (kj_162 hE) sr_162_39 ?_
        refine jx_iload dX12_joins_50 rfl ?_
        refine jx_iconst (v := 1) dX12_joins_52 (by decide) ?_
        refine jx_isub dX12_joins_53 ?_
        obtain ⟨c21, hf⟩ := jg_inv hf
        refine jx_iald dX12_joins_54 (kj_185 hE) (jin_vp c21) ?_
        obtain ⟨c22, hf⟩ := jg_inv hf
        refine jx_iast dX12_joins_55 (kj_185 hE) (jin_vp c22) ?_
        obtain ⟨w23, hw23, hf⟩ := jl_inv hf
        refine jx_nw hw23 ?_
        refine jx_aload_n dX12_joins_56 rfl ?_
        refine jx_getr dX12_joins_57 fl_X12_89 (kj_162 hE) sr_162_40 ?_
        refine jx_iload dX12_joins_60 rfl ?_
        refine jx_aload_n dX12_joins_62 rfl ?_
        refine jx_getr dX12_joins_63 fl_X12_89 (kj_162 hE) sr_162_40 ?_
        refine jx_iload dX12_joins_66 rfl ?_
        refine jx_iconst (v := 1) dX12_joins_68 (by decide) ?_
        refine jx_isub dX12_joins_69 ?_
        obtain ⟨c24, hf⟩ := jg_inv hf
        refine jx_iald dX12_joins_70 (kj_186 hE) (jin_vp c24) ?_
        obtain ⟨c25, hf⟩ := jg_inv hf
        refine jx_iast dX12_joins_71 (kj_186 hE) (jin_vp c25) ?_
        obtain ⟨w26, hw26, hf⟩ := jl_inv hf
        refine jx_nw hw26 ?_
        obtain ⟨x27, hx27, hf⟩ := jl_inv hf
        refine jx_iinc (v := x27) (ls' := [(0, .ref (E.2.2.2 + 162)), (1, .int b1), (2, .int b2), (3, .int b3), (4, .int x27)]) dX12_joins_72 rfl (by rw [hx27]; rfl) (by decide) rfl ?_
        refine jx_goto (tgt := 6) dX12_joins_75 (by decide) ?_
        exact ih _ _ _ _ _ _ hf
def f_X12_joins (a1 : Int32) (a2 : Int32) (a3 : Int32) (w : jw) : Option (jw) := jl (w.1 162 37 : Int32) fun x28 => (l_X12_joins jfu a1 a2 a3 x28 w)
set_option maxRecDepth 20000 in
set_option maxHeartbeats 2000000 in
theorem s_X12_joins {E : jE} (hE : jfull E) {a1 : Int32} {a2 : Int32} {a3 : Int32} {w w' : jw} (hf : f_X12_joins a1 a2 a3 w = some w') : jC E m_X12_joins 0 [.ref (E.2.2.2 + 162), .int a1, .int a2, .int a3] w none w' := by
  refine jC_of (ls := [(0, .ref (E.2.2.2 + 162)), (1, .int a1), (2, .int a2), (3, .int a3)]) (by decide) rfl (fun _ => trivial) (Nat.le_of_ble_eq_true rfl) rfl rfl ?_
  unfold f_X12_joins at hf
  refine jx_aload_n dX12_joins_0 rfl ?_
  refine jx_geti dX12_joins_1 fl_X12_271 (kj_162 hE) sr_162_37 ?_
  obtain ⟨x28, hx28, hf⟩ := jl_inv hf
  refine jx_nm hx28 ?_
  refine jx_istore (ls' := [(0, .ref (E.2.2.2 + 162)), (1, .int a1), (2, .int a2), (3, .int a3), (4, .int x28)]) dX12_joins_4 (by decide) rfl ?_
  exact sl_X12_joins hE jfu _ _ _ _ _ _ hf
