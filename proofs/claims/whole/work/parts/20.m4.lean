def f_X12_place  (w : jw) : Option (Int32 × jw) := some (w.1 162 17, w)
set_option maxRecDepth 20000 in
set_option maxHeartbeats 2000000 in
theorem s_X12_place {E : jE} (hE : jfull E)  {w w' : jw} {v : Int32} (hf : f_X12_place  w = some (v, w')) : jC E m_X12_place 0 [.ref (E.2.2.2 + 162)] w (some (.int v)) w' := by
  refine jC_of (ls := [(0, .ref (E.2.2.2 + 162))]) (by decide) rfl (fun _ => trivial) (Nat.le_of_ble_eq_true rfl) rfl ⟨.int, rfl, rfl⟩ ?_
  unfold f_X12_place at hf
  refine jx_aload_n dX12_place_0 rfl ?_
  refine jx_geti dX12_place_1 fl_X12_37 (kj_162 hE) sr_162_17 ?_
  cases hf
  exact jx_iret dX12_place_4 rfl rfl
def f_X12_in (a1 : Int32) (a2 : Int32) (a3 : Int32) (w : jw) : Option (Bool × jw) := (if a1 < a2 then some (false, w) else (if a3 < a1 then some (false, w) else some (true, w)))
set_option maxRecDepth 20000 in
set_option maxHeartbeats 2000000 in
theorem s_X12_in {E : jE} (hE : jfull E) {a1 : Int32} {a2 : Int32} {a3 : Int32} {w w' : jw} {v : Bool} (hf : f_X12_in a1 a2 a3 w = some (v, w')) : jC E m_X12_in 0 [.int a1, .int a2, .int a3] w (some (.int (jb v))) w' := by
  refine jC_of (ls := [(0, .int a1), (1, .int a2), (2, .int a3)]) (by decide) rfl (fun _ => trivial) (Nat.le_of_ble_eq_true rfl) rfl jb_ans ?_
  unfold f_X12_in at hf
  refine jx_iload_n dX12_in_0 rfl ?_
  refine jx_iload_n dX12_in_1 rfl ?_
  refine jx_icmp_lt (tgt := 14) dX12_in_2 (by decide) (fun c1 => ?_) (fun c1 => ?_)
  · rw [if_pos c1] at hf
    refine jx_iconst (v := 0) dX12_in_14 (by decide) ?_
    cases hf
    exact jx_iret dX12_in_15 rfl rfl
  · rw [if_neg c1] at hf
    refine jx_iload_n dX12_in_5 rfl ?_
    refine jx_iload_n dX12_in_6 rfl ?_
    refine jx_icmp_gt (tgt := 14) dX12_in_7 (by decide) (fun c2 => ?_) (fun c2 => ?_)
    · rw [if_pos c2] at hf
      refine jx_iconst (v := 0) dX12_in_14 (by decide) ?_
      cases hf
      exact jx_iret dX12_in_15 rfl rfl
    · rw [if_neg c2] at hf
      refine jx_iconst (v := 1) dX12_in_10 (by decide) ?_
      refine jx_goto (tgt := 15) dX12_in_11 (by decide) ?_
      cases hf
      exact jx_iret dX12_in_15 rfl rfl
def f_X12_isKey (a1 : Int32) (w : jw) : Option (Bool × jw) := jbd2 (f_X12_in a1 0 999 w) fun x2 w3 => some (x2, w3)
set_option maxRecDepth 20000 in
set_option maxHeartbeats 2000000 in
theorem s_X12_isKey {E : jE} (hE : jfull E) {a1 : Int32} {w w' : jw} {v : Bool} (hf : f_X12_isKey a1 w = some (v, w')) : jC E m_X12_isKey 1 [.int a1] w (some (.int (jb v))) w' := by
  refine jC_of (ls := [(0, .int a1)]) (by decide) rfl (fun _ => trivial) (Nat.le_of_ble_eq_true rfl) rfl jb_ans ?_
  unfold f_X12_isKey at hf
  refine jx_iload_n dX12_isKey_0 rfl ?_
  refine jx_iconst (v := 0) dX12_isKey_1 (by decide) ?_
  refine jx_sipush (v := 999) dX12_isKey_2 (by decide) ?_
  obtain ⟨x2, w3, hq1, hf⟩ := jbd2_inv hf
  refine jx_cSi (As := [.int a1, .int 0, .int 999]) (rest := []) dX12_isKey_5 ml_X12_324 ms_X12_in (s_X12_in hE hq1) rfl rfl rfl (by decide) (Nat.le_of_ble_eq_true rfl) ?_
  cases hf
  exact jx_iret dX12_isKey_8 rfl rfl
def f_X12_isTime (a1 : Int32) (w : jw) : Option (Bool × jw) := jg (jin 0 34700) (jbd2 (f_X12_in a1 0 (w.2.1 182 (Int32.toNatClampNeg 0)) w) fun x3 w4 => some (x3, w4))
set_option maxRecDepth 20000 in
set_option maxHeartbeats 2000000 in
theorem s_X12_isTime {E : jE} (hE : jfull E) {a1 : Int32} {w w' : jw} {v : Bool} (hf : f_X12_isTime a1 w = some (v, w')) : jC E m_X12_isTime 1 [.ref (E.2.2.2 + 162), .int a1] w (some (.int (jb v))) w' := by
  refine jC_of (ls := [(0, .ref (E.2.2.2 + 162)), (1, .int a1)]) (by decide) rfl (fun _ => trivial) (Nat.le_of_ble_eq_true rfl) rfl jb_ans ?_
  unfold f_X12_isTime at hf
  refine jx_iload_n dX12_isTime_0 rfl ?_
  refine jx_iconst (v := 0) dX12_isTime_1 (by decide) ?_
  refine jx_aload_n dX12_isTime_2 rfl ?_
  refine jx_getr dX12_isTime_3 fl_X12_77 (kj_162 hE) sr_162_34 ?_
  refine jx_iconst (v := 0) dX12_isTime_6 (by decide) ?_
  obtain ⟨c1, hf⟩ := jg_inv hf
  refine jx_iald dX12_isTime_7 (kj_182 hE) (jin_vp c1) ?_
  obtain ⟨x3, w4, hq2, hf⟩ := jbd2_inv hf
  refine jx_cSi (As := [.int a1, .int 0, .int (w.2.1 182 (Int32.toNatClampNeg 0))]) (rest := []) dX12_isTime_8 ml_X12_324 ms_X12_in (s_X12_in hE hq2) rfl rfl rfl (by decide) (Nat.le_of_ble_eq_true rfl) ?_
  cases hf
  exact jx_iret dX12_isTime_11 rfl rfl
def f_X12_isRange (a1 : Int32) (a2 : Int32) (w : jw) : Option (Bool × jw) := jbd2 (f_X12_isKey a1 w) fun x2 w3 => (if (jb x2) = 0 then some (false, w3) else jbd2 (f_X12_isKey a2 w3) fun x6 w7 => (if (jb x6) = 0 then some (false, w7) else some (true, w7)))
set_option maxRecDepth 20000 in
set_option maxHeartbeats 2000000 in
theorem s_X12_isRange {E : jE} (hE : jfull E) {a1 : Int32} {a2 : Int32} {w w' : jw} {v : Bool} (hf : f_X12_isRange a1 a2 w = some (v, w')) : jC E m_X12_isRange 2 [.ref (E.2.2.2 + 162), .int a1, .int a2] w (some (.int (jb v))) w' := by
  refine jC_of (ls := [(0, .ref (E.2.2.2 + 162)), (1, .int a1), (2, .int a2)]) (by decide) rfl (fun _ => trivial) (Nat.le_of_ble_eq_true rfl) rfl jb_ans ?_
  unfold f_X12_isRange at hf
  refine jx_iload_n dX12_isRange_0 rfl ?_
  obtain ⟨x2, w3, hq1, hf⟩ := jbd2_inv hf
  refine jx_cSi (As := [.int a1]) (rest := []) dX12_isRange_1 ml_X12_328 ms_X12_isKey (s_X12_isKey hE hq1) rfl rfl rfl (by decide) (Nat.le_of_ble_eq_true rfl) ?_
  refine jx_if_eq (tgt := 18) dX12_isRange_4 (by decide) (fun c4 => ?_) (fun c4 => ?_)
  · rw [if_pos c4] at hf
    refine jx_iconst (v := 0) dX12_isRange_18 (by decide) ?_
    cases hf
    exact jx_iret dX12_isRange_19 rfl rfl
  · rw [if_neg c4] at hf
    refine jx_iload_n dX12_isRange_7 rfl ?_
    obtain ⟨x6, w7, hq5, hf⟩ := jbd2_inv hf
    refine jx_cSi (As := [.int a2]) (rest := []) dX12_isRange_8 ml_X12_328 ms_X12_isKey (s_X12_isKey hE hq5) rfl rfl rfl (by decide) (Nat.le_of_ble_eq_true rfl) ?_
    refine jx_if_eq (tgt := 18) dX12_isRange_11 (by decide) (fun c8 => ?_) (fun c8 => ?_)
    · rw [if_pos c8] at hf
      refine jx_iconst (v := 0) dX12_isRange_18 (by decide) ?_
      cases hf
      exact jx_iret dX12_isRange_19 rfl rfl
    · rw [if_neg c8] at hf
      refine jx_iconst (v := 1) dX12_isRange_14 (by decide) ?_
      refine jx_goto (tgt := 19) dX12_isRange_15 (by decide) ?_
      cases hf
      exact jx_iret dX12_isRange_19 rfl rfl
def f_X12_put (a1 : Int32) (a2 : Int32) (w : jw) : Option (Int32 × jw) := jbd2 (f_X12_isKey a1 w) fun x2 w3 => (if (jb x2) = 0 then some ((-1), w3) else jbd2 (f_X12_puts a1 a2 w3) fun x6 w7 => (if (jb x6) = 0 then some ((-1), w7) else jg (jin 0 34700) (some (w7.2.1 182 (Int32.toNatClampNeg 0), w7))))
set_option maxRecDepth 20000 in
set_option maxHeartbeats 2000000 in
theorem s_X12_put {E : jE} (hE : jfull E) {a1 : Int32} {a2 : Int32} {w w' : jw} {v : Int32} (hf : f_X12_put a1 a2 w = some (v, w')) : jC E m_X12_put 6 [.ref (E.2.2.2 + 162), .int a1, .int a2] w (some (.int v)) w' := by
  refine jC_of (ls := [(0, .ref (E.2.2.2 + 162)), (1, .int a1), (2, .int a2)]) (by decide) rfl (fun _ => trivial) (Nat.le_of_ble_eq_true rfl) rfl ⟨.int, rfl, rfl⟩ ?_
  unfold f_X12_put at hf
  refine jx_iload_n dX12_put_0 rfl ?_
  obtain ⟨x2, w3, hq1, hf⟩ := jbd2_inv hf
  refine jx_cSi (As := [.int a1]) (rest := []) dX12_put_1 ml_X12_328 ms_X12_isKey (s_X12_isKey hE hq1) rfl rfl rfl (by decide) (Nat.le_of_ble_eq_true rfl) ?_
  refine jx_if_eq (tgt := 25) dX12_put_4 (by decide) (fun c4 => ?_) (fun c4 => ?_)
  · rw [if_pos c4] at hf
    refine jx_iconst (v := (-1)) dX12_put_25 (by decide) ?_
    cases hf
    exact jx_iret dX12_put_26 rfl rfl
  · rw [if_neg c4] at hf
    refine jx_aload_n dX12_put_7 rfl ?_
    refine jx_iload_n dX12_put_8 rfl ?_
    refine jx_iload_n dX12_put_9 rfl ?_
    obtain ⟨x6, w7, hq5, hf⟩ := jbd2_inv hf
    refine jx_cVi (a := 162) (As := [.int a1, .int a2]) (rest := []) dX12_put_10 ml_X12_235 mv_X12_puts (s_X12_puts hE hq5) rfl rfl (jc_162 hE) (by decide) (Nat.le_of_ble_eq_true rfl) ?_
    refine jx_if_eq (tgt := 25) dX12_put_13 (by decide) (fun c8 => ?_) (fun c8 => ?_)
    · rw [if_pos c8] at hf
      refine jx_iconst (v := (-1)) dX12_put_25 (by decide) ?_
      cases hf
      exact jx_iret dX12_put_26 rfl rfl
    · rw [if_neg c8] at hf
      refine jx_aload_n dX12_put_16 rfl ?_
      refine jx_getr dX12_put_17 fl_X12_77 (kj_162 hE) sr_162_34 ?_
      refine jx_iconst (v := 0) dX12_put_20 (by decide) ?_
      obtain ⟨c9, hf⟩ := jg_inv hf
      refine jx_iald dX12_put_21 (kj_182 hE) (jin_vp c9) ?_
      refine jx_goto (tgt := 26) dX12_put_22 (by decide) ?_
      cases hf
      exact jx_iret dX12_put_26 rfl rfl
def f_X12_cut (a1 : Int32) (w : jw) : Option (Int32 × jw) := jbd2 (f_X12_isKey a1 w) fun x2 w3 => (if (jb x2) = 0 then some ((-1), w3) else jbd2 (f_X12_cuts a1 w3) fun x6 w7 => (if (jb x6) = 0 then some ((-1), w7) else jg (jin 0 34700) (some (w7.2.1 182 (Int32.toNatClampNeg 0), w7))))
set_option maxRecDepth 20000 in
set_option maxHeartbeats 2000000 in
theorem s_X12_cut {E : jE} (hE : jfull E) {a1 : Int32} {w w' : jw} {v : Int32} (hf : f_X12_cut a1 w = some (v, w')) : jC E m_X12_cut 6 [.ref (E.2.2.2 + 162), .int a1] w (some (.int v)) w' := by
  refine jC_of (ls := [(0, .ref (E.2.2.2 + 162)), (1, .int a1)]) (by decide) rfl (fun _ => trivial) (Nat.le_of_ble_eq_true rfl) rfl ⟨.int, rfl, rfl⟩ ?_
  unfold f_X12_cut at hf
  refine jx_iload_n dX12_cut_0 rfl ?_
  obtain ⟨x2, w3, hq1, hf⟩ := jbd2_inv hf
  refine jx_cSi (As := [.int a1]) (rest := []) dX12_cut_1 ml_X12_328 ms_X12_isKey (s_X12_isKey hE hq1) rfl rfl rfl (by decide) (Nat.le_of_ble_eq_true rfl) ?_
  refine jx_if_eq (tgt := 24) dX12_cut_4 (by decide) (fun c4 => ?_) (fun c4 => ?_)
  · rw [if_pos c4] at hf
    refine jx_iconst (v := (-1)) dX12_cut_24 (by decide) ?_
    cases hf
    exact jx_iret dX12_cut_25 rfl rfl
  · rw [if_neg c4] at hf
    refine jx_aload_n dX12_cut_7 rfl ?_
    refine jx_iload_n dX12_cut_8 rfl ?_
    obtain ⟨x6, w7, hq5, hf⟩ := jbd2_inv hf
    refine jx_cVi (a := 162) (As := [.int a1]) (rest := []) dX12_cut_9 ml_X12_239 mv_X12_cuts (s_X12_cuts hE hq5) rfl rfl (jc_162 hE) (by decide) (Nat.le_of_ble_eq_true rfl) ?_
    refine jx_if_eq (tgt := 24) dX12_cut_12 (by decide) (fun c8 => ?_) (fun c8 => ?_)
    · rw [if_pos c8] at hf
      refine jx_iconst (v := (-1)) dX12_cut_24 (by decide) ?_
      cases hf
      exact jx_iret dX12_cut_25 rfl rfl
    · rw [if_neg c8] at hf
      refine jx_aload_n dX12_cut_15 rfl ?_
      refine jx_getr dX12_cut_16 fl_X12_77 (kj_162 hE) sr_162_34 ?_
      refine jx_iconst (v := 0) dX12_cut_19 (by decide) ?_
      obtain ⟨c9, hf⟩ := jg_inv hf
      refine jx_iald dX12_cut_20 (kj_182 hE) (jin_vp c9) ?_
      refine jx_goto (tgt := 25) dX12_cut_21 (by decide) ?_
      cases hf
      exact jx_iret dX12_cut_25 rfl rfl
def f_X12_livesThen (a1 : Int32) (a2 : Int32) (a3 : Int32) (w : jw) : Option (Bool × jw) := (if a3 < a1 then some (false, w) else (if a2 = (-2) then some (true, w) else (if a2 ≤ a3 then some (false, w) else some (true, w))))
set_option maxRecDepth 20000 in
set_option maxHeartbeats 2000000 in
theorem s_X12_livesThen {E : jE} (hE : jfull E) {a1 : Int32} {a2 : Int32} {a3 : Int32} {w w' : jw} {v : Bool} (hf : f_X12_livesThen a1 a2 a3 w = some (v, w')) : jC E m_X12_livesThen 0 [.ref (E.2.2.2 + 162), .int a1, .int a2, .int a3] w (some (.int (jb v))) w' := by
  refine jC_of (ls := [(0, .ref (E.2.2.2 + 162)), (1, .int a1), (2, .int a2), (3, .int a3)]) (by decide) rfl (fun _ => trivial) (Nat.le_of_ble_eq_true rfl) rfl jb_ans ?_
  unfold f_X12_livesThen at hf
  refine jx_iload_n dX12_livesThen_0 rfl ?_
  refine jx_iload_n dX12_livesThen_1 rfl ?_
  refine jx_icmp_gt (tgt := 20) dX12_livesThen_2 (by decide) (fun c1 => ?_) (fun c1 => ?_)
  · rw [if_pos c1] at hf
    refine jx_iconst (v := 0) dX12_livesThen_20 (by decide) ?_
    cases hf
    exact jx_iret dX12_livesThen_21 rfl rfl
  · rw [if_neg c1] at hf
    refine jx_iload_n dX12_livesThen_5 rfl ?_
    refine jx_bipush (v := (-2)) dX12_livesThen_6 (by decide) ?_
    refine jx_icmp_eq (tgt := 16) dX12_livesThen_8 (by decide) (fun c2 => ?_) (fun c2 => ?_)
    · rw [if_pos c2] at hf
      refine jx_iconst (v := 1) dX12_livesThen_16 (by decide) ?_
      refine jx_goto (tgt := 21) dX12_livesThen_17 (by decide) ?_
      cases hf
      exact jx_iret dX12_livesThen_21 rfl rfl
    · rw [if_neg c2] at hf
      refine jx_iload_n dX12_livesThen_11 rfl ?_
      refine jx_iload_n dX12_livesThen_12 rfl ?_
      refine jx_icmp_ge (tgt := 20) dX12_livesThen_13 (by decide) (fun c3 => ?_) (fun c3 => ?_)
      · rw [if_pos c3] at hf
        refine jx_iconst (v := 0) dX12_livesThen_20 (by decide) ?_
        cases hf
        exact jx_iret dX12_livesThen_21 rfl rfl
      · rw [if_neg c3] at hf
        refine jx_iconst (v := 1) dX12_livesThen_16 (by decide) ?_
        refine jx_goto (tgt := 21) dX12_livesThen_17 (by decide) ?_
        cases hf
        exact jx_iret dX12_livesThen_21 rfl rfl
def l_X12_versionAt : Nat → Int32 → Int32 → Int32 → jw → Option (Int32 × jw)
  | 0, _, _, _, _ => none
  | n + 1, b1, b2, b3, w => jg (jin 4 34700) ((if (18100 + (4 * (w.2.1 182 (Int32.toNatClampNeg 4)))) ≤ b3 then some ((-1), w) else jg (jin b3 34700) ((if (w.2.1 182 (Int32.toNatClampNeg b3)) = b1 then jg (jin (b3 + 1) 34700) (jg (jin (b3 + 2) 34700) (jbd2 (f_X12_livesThen (w.2.1 182 (Int32.toNatClampNeg (b3 + 1))) (w.2.1 182 (Int32.toNatClampNeg (b3 + 2))) b2 w) fun x9 w10 => (if (jb x9) = 0 then jl (b3 + 4) fun x12 => (l_X12_versionAt n b1 b2 x12 w10) else some (b3, w10)))) else jl (b3 + 4) fun x5 => (l_X12_versionAt n b1 b2 x5 w)))))
set_option maxRecDepth 20000 in
set_option maxHeartbeats 2000000 in
theorem sl_X12_versionAt {E : jE} (hE : jfull E) : ∀ (n : Nat) (b1 : Int32) (b2 : Int32) (b3 : Int32) (w : jw) (v : Int32) (w' : jw), l_X12_versionAt n b1 b2 b3 w = some (v, w') → jX E m_X12_versionAt 1 4 [(0, .ref (E.2.2.2 + 162)), (1, .int b1), (2, .int b2), (3, .int b3)] [] w (some (.int v)) w' := by
  intro n
  induction n with
  | zero => intro b1 b2 b3 w v w' hf; cases hf
  | succ n ih =>
    intro b1 b2 b3 w v w' hf
    unfold l_X12_versionAt at hf
    refine jx_iload_n dX12_versionAt_4 rfl ?_
    refine jx_sipush (v := 18100) dX12_versionAt_5 (by decide) ?_
    refine jx_iconst (v := 4) dX12_versionAt_8 (by decide) ?_
    refine jx_aload_n dX12_versionAt_9 rfl ?_
    refine jx_getr dX12_versionAt_10 fl_X12_77 (kj_162 hE) sr_162_34 ?_
    refine jx_iconst (v := 4) dX12_versionAt_13 (by decide) ?_
    obtain ⟨c1, hf⟩ := jg_inv hf
    refine jx_iald dX12_versionAt_14 (kj_182 hE) (jin_vp c1) ?_
    refine jx_imul dX12_versionAt_15 ?_
    refine jx_iadd dX12_versionAt_16 ?_
    refine jx_icmp_ge (tgt := 62) dX12_versionAt_17 (by decide) (fun c2 => ?_) (fun c2 => ?_)
    · rw [if_pos c2] at hf
      refine jx_iconst (v := (-1)) dX12_versionAt_62 (by decide) ?_
      cases hf
      exact jx_iret dX12_versionAt_63 rfl rfl
    · rw [if_neg c2] at hf
      refine jx_aload_n dX12_versionAt_20 rfl ?_
      refine jx_getr dX12_versionAt_21 fl_X12_77 (kj_162 hE) sr_162_34 ?_
      refine jx_iload_n dX12_versionAt_24 rfl ?_
      obtain ⟨c3, hf⟩ := jg_inv hf
      refine jx_iald dX12_versionAt_25 (kj_182 hE) (jin_vp c3) ?_
      refine jx_iload_n dX12_versionAt_26 rfl ?_
      refine jx_icmp_ne (tgt := 56) dX12_versionAt_27 (by decide) (fun c4 => ?_) (fun c4 => ?_)
      · rw [if_neg c4] at hf
        obtain ⟨x5, hx5, hf⟩ := jl_inv hf
        refine jx_iinc (v := x5) (ls' := [(0, .ref (E.2.2.2 + 162)), (1, .int b1), (2, .int b2), (3, .int x5)]) dX12_versionAt_56 rfl (by rw [hx5]; rfl) (by decide) rfl ?_
        refine jx_goto (tgt := 4) dX12_versionAt_59 (by decide) ?_
        exact ih _ _ _ _ _ _ hf
      · rw [if_pos c4] at hf
        refine jx_aload_n dX12_versionAt_30 rfl ?_
        refine jx_aload_n dX12_versionAt_31 rfl ?_
        refine jx_getr dX12_versionAt_32 fl_X12_77 (kj_162 hE) sr_162_34 ?_
        refine jx_iload_n dX12_versionAt_35 rfl ?_
        refine jx_iconst (v := 1) dX12_versionAt_36 (by decide) ?_
        refine jx_iadd dX12_versionAt_37 ?_
        obtain ⟨c6, hf⟩ := jg_inv hf
        refine jx_iald dX12_versionAt_38 (kj_182 hE) (jin_vp c6) ?_
        refine jx_aload_n dX12_versionAt_39 rfl ?_
        refine jx_getr dX12_versionAt_40 fl_X12_77 (kj_162 hE) sr_162_34 ?_
        refine jx_iload_n dX12_versionAt_43 rfl ?_
        refine jx_iconst (v := 2) dX12_versionAt_44 (by decide) ?_
        refine jx_iadd dX12_versionAt_45 ?_
        obtain ⟨c7, hf⟩ := jg_inv hf
        refine jx_iald dX12_versionAt_46 (kj_182 hE) (jin_vp c7) ?_
        refine jx_iload_n dX12_versionAt_47 rfl ?_
        obtain ⟨x9, w10, hq8, hf⟩ := jbd2_inv hf
        refine jx_cVi (a := 162) (As := [.int (w.2.1 182 (Int32.toNatClampNeg (b3 + 1))), .int (w.2.1 182 (Int32.toNatClampNeg (b3 + 2))), .int b2]) (rest := []) dX12_versionAt_48 ml_X12_331 mv_X12_livesThen (s_X12_livesThen hE hq8) rfl rfl (jc_162 hE) (by decide) (Nat.le_of_ble_eq_true rfl) ?_
        refine jx_if_eq (tgt := 56) dX12_versionAt_51 (by decide) (fun c11 => ?_) (fun c11 => ?_)
        · rw [if_pos c11] at hf
          obtain ⟨x12, hx12, hf⟩ := jl_inv hf
          refine jx_iinc (v := x12) (ls' := [(0, .ref (E.2.2.2 + 162)), (1, .int b1), (2, .int b2), (3, .int x12)]) dX12_versionAt_56 rfl (by rw [hx12]; rfl) (by decide) rfl ?_
          refine jx_goto (tgt := 4) dX12_versionAt_59 (by decide) ?_
          exact ih _ _ _ _ _ _ hf
        · rw [if_neg c11] at hf
          refine jx_iload_n dX12_versionAt_54 rfl ?_
          cases hf
          exact jx_iret dX12_versionAt_55 rfl rfl
def f_X12_versionAt (a1 : Int32) (a2 : Int32) (w : jw) : Option (Int32 × jw) := (l_X12_versionAt jfu a1 a2 18100 w)
set_option maxRecDepth 20000 in
set_option maxHeartbeats 2000000 in
theorem s_X12_versionAt {E : jE} (hE : jfull E) {a1 : Int32} {a2 : Int32} {w w' : jw} {v : Int32} (hf : f_X12_versionAt a1 a2 w = some (v, w')) : jC E m_X12_versionAt 1 [.ref (E.2.2.2 + 162), .int a1, .int a2] w (some (.int v)) w' := by
  refine jC_of (ls := [(0, .ref (E.2.2.2 + 162)), (1, .int a1), (2, .int a2)]) (by decide) rfl (fun _ => trivial) (Nat.le_of_ble_eq_true rfl) rfl ⟨.int, rfl, rfl⟩ ?_
  unfold f_X12_versionAt at hf
  refine jx_sipush (v := 18100) dX12_versionAt_0 (by decide) ?_
  refine jx_istore_n (ls' := [(0, .ref (E.2.2.2 + 162)), (1, .int a1), (2, .int a2), (3, .int 18100)]) dX12_versionAt_3 (by decide) rfl ?_
  exact sl_X12_versionAt hE jfu _ _ _ _ _ _ hf
def l_X12_fillsThen_26 : Nat → Int32 → Int32 → jw → Option (jw)
  | 0, _, _, _ => none
  | n + 1, b1, b2, w => jg (jin 4 34700) ((if (18100 + (4 * (w.2.1 182 (Int32.toNatClampNeg 4)))) ≤ b2 then some w else jg (jin (b2 + 1) 34700) (jg (jin (b2 + 2) 34700) (jbd2 (f_X12_livesThen (w.2.1 182 (Int32.toNatClampNeg (b2 + 1))) (w.2.1 182 (Int32.toNatClampNeg (b2 + 2))) b1 w) fun x6 w7 => (if (jb x6) = 0 then jl (b2 + 4) fun x9 => (l_X12_fillsThen_26 n b1 x9 w7) else jg (jin b2 34700) (jg (jin (w7.2.1 182 (Int32.toNatClampNeg b2)) 1000) (jl (jsetX w7 187 (Int32.toNatClampNeg (w7.2.1 182 (Int32.toNatClampNeg b2))) b2) fun w12 => jl (b2 + 4) fun x13 => (l_X12_fillsThen_26 n b1 x13 w12))))))))
set_option maxRecDepth 20000 in
set_option maxHeartbeats 2000000 in
theorem sl_X12_fillsThen_26 {E : jE} (hE : jfull E) : ∀ (n : Nat) (b1 : Int32) (b2 : Int32) (w : jw) (w' : jw), l_X12_fillsThen_26 n b1 b2 w = some w' → jX E m_X12_fillsThen 1 26 [(0, .ref (E.2.2.2 + 162)), (1, .int b1), (2, .int b2)] [] w none w' := by
  intro n
  induction n with
  | zero => intro b1 b2 w w' hf; cases hf
  | succ n ih =>
    intro b1 b2 w w' hf
    unfold l_X12_fillsThen_26 at hf
    refine jx_iload_n dX12_fillsThen_26 rfl ?_
    refine jx_sipush (v := 18100) dX12_fillsThen_27 (by decide) ?_
    refine jx_iconst (v := 4) dX12_fillsThen_30 (by decide) ?_
    refine jx_aload_n dX12_fillsThen_31 rfl ?_
    refine jx_getr dX12_fillsThen_32 fl_X12_77 (kj_162 hE) sr_162_34 ?_
    refine jx_iconst (v := 4) dX12_fillsThen_35 (by decide) ?_
    obtain ⟨c1, hf⟩ := jg_inv hf
    refine jx_iald dX12_fillsThen_36 (kj_182 hE) (jin_vp c1) ?_
    refine jx_imul dX12_fillsThen_37 ?_
    refine jx_iadd dX12_fillsThen_38 ?_
    refine jx_icmp_ge (tgt := 84) dX12_fillsThen_39 (by decide) (fun c2 => ?_) (fun c2 => ?_)
    · rw [if_pos c2] at hf
      cases hf
      exact jx_vret dX12_fillsThen_84 rfl rfl
    · rw [if_neg c2] at hf
      refine jx_aload_n dX12_fillsThen_42 rfl ?_
      refine jx_aload_n dX12_fillsThen_43 rfl ?_
      refine jx_getr dX12_fillsThen_44 fl_X12_77 (kj_162 hE) sr_162_34 ?_
      refine jx_iload_n dX12_fillsThen_47 rfl ?_
      refine jx_iconst (v := 1) dX12_fillsThen_48 (by decide) ?_
      refine jx_iadd dX12_fillsThen_49 ?_
      obtain ⟨c3, hf⟩ := jg_inv hf
      refine jx_iald dX12_fillsThen_50 (kj_182 hE) (jin_vp c3) ?_
      refine jx_aload_n dX12_fillsThen_51 rfl ?_
      refine jx_getr dX12_fillsThen_52 fl_X12_77 (kj_162 hE) sr_162_34 ?_
      refine jx_iload_n dX12_fillsThen_55 rfl ?_
      refine jx_iconst (v := 2) dX12_fillsThen_56 (by decide) ?_
      refine jx_iadd dX12_fillsThen_57 ?_
      obtain ⟨c4, hf⟩ := jg_inv hf
      refine jx_iald dX12_fillsThen_58 (kj_182 hE) (jin_vp c4) ?_
      refine jx_iload_n dX12_fillsThen_59 rfl ?_
      obtain ⟨x6, w7, hq5, hf⟩ := jbd2_inv hf
      refine jx_cVi (a := 162) (As := [.int (w.2.1 182 (Int32.toNatClampNeg (b2 + 1))), .int (w.2.1 182 (Int32.toNatClampNeg (b2 + 2))), .int b1]) (rest := []) dX12_fillsThen_60 ml_X12_331 mv_X12_livesThen (s_X12_livesThen hE hq5) rfl rfl (jc_162 hE) (by decide) (Nat.le_of_ble_eq_true rfl) ?_
      refine jx_if_eq (tgt := 78) dX12_fillsThen_63 (by decide) (fun c8 => ?_) (fun c8 => ?_)
      · rw [if_pos c8] at hf
        obtain ⟨x9, hx9, hf⟩ := jl_inv hf
        refine jx_iinc (v := x9) (ls' := [(0, .ref (E.2.2.2 + 162)), (1, .int b1), (2, .int x9)]) dX12_fillsThen_78 rfl (by rw [hx9]; rfl) (by decide) rfl ?_
        refine jx_goto (tgt := 26) dX12_fillsThen_81 (by decide) ?_
        exact ih _ _ _ _ hf
      · rw [if_neg c8] at hf
        refine jx_aload_n dX12_fillsThen_66 rfl ?_
        refine jx_getr dX12_fillsThen_67 fl_X12_92 (kj_162 hE) sr_162_41 ?_
        refine jx_aload_n dX12_fillsThen_70 rfl ?_
        refine jx_getr dX12_fillsThen_71 fl_X12_77 (kj_162 hE) sr_162_34 ?_
        refine jx_iload_n dX12_fillsThen_74 rfl ?_
        obtain ⟨c10, hf⟩ := jg_inv hf
        refine jx_iald dX12_fillsThen_75 (kj_182 hE) (jin_vp c10) ?_
        refine jx_iload_n dX12_fillsThen_76 rfl ?_
        obtain ⟨c11, hf⟩ := jg_inv hf
        refine jx_iast dX12_fillsThen_77 (kj_187 hE) (jin_vp c11) ?_
        obtain ⟨w12, hw12, hf⟩ := jl_inv hf
        refine jx_nw hw12 ?_
        obtain ⟨x13, hx13, hf⟩ := jl_inv hf
        refine jx_iinc (v := x13) (ls' := [(0, .ref (E.2.2.2 + 162)), (1, .int b1), (2, .int x13)]) dX12_fillsThen_78 rfl (by rw [hx13]; rfl) (by decide) rfl ?_
        refine jx_goto (tgt := 26) dX12_fillsThen_81 (by decide) ?_
        exact ih _ _ _ _ hf
def l_X12_fillsThen_2 : Nat → Int32 → Int32 → jw → Option (jw)
  | 0, _, _, _ => none
  | n + 1, b1, b2, w => (if 1000 ≤ b2 then (l_X12_fillsThen_26 jfu b1 18100 w) else jg (jin b2 1000) (jl (jsetX w 187 (Int32.toNatClampNeg b2) (-1)) fun w16 => jl (b2 + 1) fun x17 => (l_X12_fillsThen_2 n b1 x17 w16)))
set_option maxRecDepth 20000 in
set_option maxHeartbeats 2000000 in
theorem sl_X12_fillsThen_2 {E : jE} (hE : jfull E) : ∀ (n : Nat) (b1 : Int32) (b2 : Int32) (w : jw) (w' : jw), l_X12_fillsThen_2 n b1 b2 w = some w' → jX E m_X12_fillsThen 1 2 [(0, .ref (E.2.2.2 + 162)), (1, .int b1), (2, .int b2)] [] w none w' := by
  intro n
  induction n with
  | zero => intro b1 b2 w w' hf; cases hf
  | succ n ih =>
    intro b1 b2 w w' hf
    unfold l_X12_fillsThen_2 at hf
    refine jx_iload_n dX12_fillsThen_2 rfl ?_
    refine jx_sipush (v := 1000) dX12_fillsThen_3 (by decide) ?_
    refine jx_icmp_ge (tgt := 22) dX12_fillsThen_6 (by decide) (fun c14 => ?_) (fun c14 => ?_)
    · rw [if_pos c14] at hf
      refine jx_sipush (v := 18100) dX12_fillsThen_22 (by decide) ?_
      refine jx_istore_n (ls' := [(0, .ref (E.2.2.2 + 162)), (1, .int b1), (2, .int 18100)]) dX12_fillsThen_25 (by decide) rfl ?_
      exact sl_X12_fillsThen_26 hE jfu _ _ _ _ hf
    · rw [if_neg c14] at hf
      refine jx_aload_n dX12_fillsThen_9 rfl ?_
      refine jx_getr dX12_fillsThen_10 fl_X12_92 (kj_162 hE) sr_162_41 ?_
      refine jx_iload_n dX12_fillsThen_13 rfl ?_
      refine jx_iconst (v := (-1)) dX12_fillsThen_14 (by decide) ?_
      obtain ⟨c15, hf⟩ := jg_inv hf
      refine jx_iast dX12_fillsThen_15 (kj_187 hE) (jin_vp c15) ?_
      obtain ⟨w16, hw16, hf⟩ := jl_inv hf
      refine jx_nw hw16 ?_
      obtain ⟨x17, hx17, hf⟩ := jl_inv hf
      refine jx_iinc (v := x17) (ls' := [(0, .ref (E.2.2.2 + 162)), (1, .int b1), (2, .int x17)]) dX12_fillsThen_16 rfl (by rw [hx17]; rfl) (by decide) rfl ?_
      refine jx_goto (tgt := 2) dX12_fillsThen_19 (by decide) ?_
      exact ih _ _ _ _ hf
def f_X12_fillsThen (a1 : Int32) (w : jw) : Option (jw) := (l_X12_fillsThen_2 jfu a1 0 w)
set_option maxRecDepth 20000 in
set_option maxHeartbeats 2000000 in
theorem s_X12_fillsThen {E : jE} (hE : jfull E) {a1 : Int32} {w w' : jw} (hf : f_X12_fillsThen a1 w = some w') : jC E m_X12_fillsThen 1 [.ref (E.2.2.2 + 162), .int a1] w none w' := by
  refine jC_of (ls := [(0, .ref (E.2.2.2 + 162)), (1, .int a1)]) (by decide) rfl (fun _ => trivial) (Nat.le_of_ble_eq_true rfl) rfl rfl ?_
  unfold f_X12_fillsThen at hf
  refine jx_iconst (v := 0) dX12_fillsThen_0 (by decide) ?_
  refine jx_istore_n (ls' := [(0, .ref (E.2.2.2 + 162)), (1, .int a1), (2, .int 0)]) dX12_fillsThen_1 (by decide) rfl ?_
  exact sl_X12_fillsThen_2 hE jfu _ _ _ _ hf
def f_X12_has (a1 : Int32) (a2 : Int32) (w : jw) : Option (Int32 × jw) := jbd2 (f_X12_isKey a1 w) fun x2 w3 => (if (jb x2) = 0 then some ((-1), w3) else jbd2 (f_X12_isTime a2 w3) fun x6 w7 => (if (jb x6) = 0 then some ((-1), w7) else jbd2 (f_X12_versionAt a1 a2 w7) fun x10 w11 => (if 0 ≤ x10 then some (1, w11) else some (0, w11))))
set_option maxRecDepth 20000 in
set_option maxHeartbeats 2000000 in
theorem s_X12_has {E : jE} (hE : jfull E) {a1 : Int32} {a2 : Int32} {w w' : jw} {v : Int32} (hf : f_X12_has a1 a2 w = some (v, w')) : jC E m_X12_has 2 [.ref (E.2.2.2 + 162), .int a1, .int a2] w (some (.int v)) w' := by
  refine jC_of (ls := [(0, .ref (E.2.2.2 + 162)), (1, .int a1), (2, .int a2)]) (by decide) rfl (fun _ => trivial) (Nat.le_of_ble_eq_true rfl) rfl ⟨.int, rfl, rfl⟩ ?_
  unfold f_X12_has at hf
  refine jx_iload_n dX12_has_0 rfl ?_
  obtain ⟨x2, w3, hq1, hf⟩ := jbd2_inv hf
  refine jx_cSi (As := [.int a1]) (rest := []) dX12_has_1 ml_X12_328 ms_X12_isKey (s_X12_isKey hE hq1) rfl rfl rfl (by decide) (Nat.le_of_ble_eq_true rfl) ?_
  refine jx_if_eq (tgt := 15) dX12_has_4 (by decide) (fun c4 => ?_) (fun c4 => ?_)
  · rw [if_pos c4] at hf
    refine jx_iconst (v := (-1)) dX12_has_15 (by decide) ?_
    refine jx_goto (tgt := 33) dX12_has_16 (by decide) ?_
    cases hf
    exact jx_iret dX12_has_33 rfl rfl
  · rw [if_neg c4] at hf
    refine jx_aload_n dX12_has_7 rfl ?_
    refine jx_iload_n dX12_has_8 rfl ?_
    obtain ⟨x6, w7, hq5, hf⟩ := jbd2_inv hf
    refine jx_cVi (a := 162) (As := [.int a2]) (rest := []) dX12_has_9 ml_X12_334 mv_X12_isTime (s_X12_isTime hE hq5) rfl rfl (jc_162 hE) (by decide) (Nat.le_of_ble_eq_true rfl) ?_
    refine jx_if_ne (tgt := 19) dX12_has_12 (by decide) (fun c8 => ?_) (fun c8 => ?_)
    · rw [if_neg c8] at hf
      refine jx_aload_n dX12_has_19 rfl ?_
      refine jx_iload_n dX12_has_20 rfl ?_
      refine jx_iload_n dX12_has_21 rfl ?_
      obtain ⟨x10, w11, hq9, hf⟩ := jbd2_inv hf
      refine jx_cVi (a := 162) (As := [.int a1, .int a2]) (rest := []) dX12_has_22 ml_X12_337 mv_X12_versionAt (s_X12_versionAt hE hq9) rfl rfl (jc_162 hE) (by decide) (Nat.le_of_ble_eq_true rfl) ?_
      refine jx_if_ge (tgt := 32) dX12_has_25 (by decide) (fun c12 => ?_) (fun c12 => ?_)
      · rw [if_pos c12] at hf
        refine jx_iconst (v := 1) dX12_has_32 (by decide) ?_
        cases hf
        exact jx_iret dX12_has_33 rfl rfl
      · rw [if_neg c12] at hf
        refine jx_iconst (v := 0) dX12_has_28 (by decide) ?_
        refine jx_goto (tgt := 33) dX12_has_29 (by decide) ?_
        cases hf
        exact jx_iret dX12_has_33 rfl rfl
    · rw [if_pos c8] at hf
      refine jx_iconst (v := (-1)) dX12_has_15 (by decide) ?_
      refine jx_goto (tgt := 33) dX12_has_16 (by decide) ?_
      cases hf
      exact jx_iret dX12_has_33 rfl rfl
def f_X12_value (a1 : Int32) (a2 : Int32) (w : jw) : Option (Int32 × jw) := jbd2 (f_X12_isKey a1 w) fun x2 w3 => (if (jb x2) = 0 then some (0, w3) else jbd2 (f_X12_isTime a2 w3) fun x6 w7 => (if (jb x6) = 0 then some (0, w7) else jbd2 (f_X12_versionAt a1 a2 w7) fun x10 w11 => (if 0 ≤ x10 then jg (jin (x10 + 3) 34700) (some (w11.2.1 182 (Int32.toNatClampNeg (x10 + 3)), w11)) else some (0, w11))))
set_option maxRecDepth 20000 in
set_option maxHeartbeats 2000000 in
theorem s_X12_value {E : jE} (hE : jfull E) {a1 : Int32} {a2 : Int32} {w w' : jw} {v : Int32} (hf : f_X12_value a1 a2 w = some (v, w')) : jC E m_X12_value 2 [.ref (E.2.2.2 + 162), .int a1, .int a2] w (some (.int v)) w' := by
  refine jC_of (ls := [(0, .ref (E.2.2.2 + 162)), (1, .int a1), (2, .int a2)]) (by decide) rfl (fun _ => trivial) (Nat.le_of_ble_eq_true rfl) rfl ⟨.int, rfl, rfl⟩ ?_
  unfold f_X12_value at hf
  refine jx_iload_n dX12_value_0 rfl ?_
  obtain ⟨x2, w3, hq1, hf⟩ := jbd2_inv hf
  refine jx_cSi (As := [.int a1]) (rest := []) dX12_value_1 ml_X12_328 ms_X12_isKey (s_X12_isKey hE hq1) rfl rfl rfl (by decide) (Nat.le_of_ble_eq_true rfl) ?_
  refine jx_if_eq (tgt := 15) dX12_value_4 (by decide) (fun c4 => ?_) (fun c4 => ?_)
  · rw [if_pos c4] at hf
    refine jx_iconst (v := 0) dX12_value_15 (by decide) ?_
    cases hf
    exact jx_iret dX12_value_16 rfl rfl
  · rw [if_neg c4] at hf
    refine jx_aload_n dX12_value_7 rfl ?_
    refine jx_iload_n dX12_value_8 rfl ?_
    obtain ⟨x6, w7, hq5, hf⟩ := jbd2_inv hf
    refine jx_cVi (a := 162) (As := [.int a2]) (rest := []) dX12_value_9 ml_X12_334 mv_X12_isTime (s_X12_isTime hE hq5) rfl rfl (jc_162 hE) (by decide) (Nat.le_of_ble_eq_true rfl) ?_
    refine jx_if_ne (tgt := 17) dX12_value_12 (by decide) (fun c8 => ?_) (fun c8 => ?_)
    · rw [if_neg c8] at hf
      refine jx_aload_n dX12_value_17 rfl ?_
      refine jx_iload_n dX12_value_18 rfl ?_
      refine jx_iload_n dX12_value_19 rfl ?_
      obtain ⟨x10, w11, hq9, hf⟩ := jbd2_inv hf
      refine jx_cVi (a := 162) (As := [.int a1, .int a2]) (rest := []) dX12_value_20 ml_X12_337 mv_X12_versionAt (s_X12_versionAt hE hq9) rfl rfl (jc_162 hE) (by decide) (Nat.le_of_ble_eq_true rfl) ?_
      refine jx_istore_n (ls' := [(0, .ref (E.2.2.2 + 162)), (1, .int a1), (2, .int a2), (3, .int x10)]) dX12_value_23 (by decide) rfl ?_
      refine jx_iload_n dX12_value_24 rfl ?_
      refine jx_if_ge (tgt := 32) dX12_value_25 (by decide) (fun c12 => ?_) (fun c12 => ?_)
      · rw [if_pos c12] at hf
        refine jx_aload_n dX12_value_32 rfl ?_
        refine jx_getr dX12_value_33 fl_X12_77 (kj_162 hE) sr_162_34 ?_
        refine jx_iload_n dX12_value_36 rfl ?_
        refine jx_iconst (v := 3) dX12_value_37 (by decide) ?_
        refine jx_iadd dX12_value_38 ?_
        obtain ⟨c13, hf⟩ := jg_inv hf
        refine jx_iald dX12_value_39 (kj_182 hE) (jin_vp c13) ?_
        cases hf
        exact jx_iret dX12_value_40 rfl rfl
      · rw [if_neg c12] at hf
        refine jx_iconst (v := 0) dX12_value_28 (by decide) ?_
        refine jx_goto (tgt := 40) dX12_value_29 (by decide) ?_
        cases hf
        exact jx_iret dX12_value_40 rfl rfl
    · rw [if_pos c8] at hf
      refine jx_iconst (v := 0) dX12_value_15 (by decide) ?_
      cases hf
      exact jx_iret dX12_value_16 rfl rfl
def f_X12_since (a1 : Int32) (a2 : Int32) (w : jw) : Option (Int32 × jw) := jbd2 (f_X12_isKey a1 w) fun x2 w3 => (if (jb x2) = 0 then some ((-1), w3) else jbd2 (f_X12_isTime a2 w3) fun x6 w7 => (if (jb x6) = 0 then some ((-1), w7) else jbd2 (f_X12_versionAt a1 a2 w7) fun x10 w11 => (if 0 ≤ x10 then jg (jin (x10 + 1) 34700) (some (w11.2.1 182 (Int32.toNatClampNeg (x10 + 1)), w11)) else some ((-2), w11))))
set_option maxRecDepth 20000 in
set_option maxHeartbeats 2000000 in
theorem s_X12_since {E : jE} (hE : jfull E) {a1 : Int32} {a2 : Int32} {w w' : jw} {v : Int32} (hf : f_X12_since a1 a2 w = some (v, w')) : jC E m_X12_since 2 [.ref (E.2.2.2 + 162), .int a1, .int a2] w (some (.int v)) w' := by
  refine jC_of (ls := [(0, .ref (E.2.2.2 + 162)), (1, .int a1), (2, .int a2)]) (by decide) rfl (fun _ => trivial) (Nat.le_of_ble_eq_true rfl) rfl ⟨.int, rfl, rfl⟩ ?_
  unfold f_X12_since at hf
  refine jx_iload_n dX12_since_0 rfl ?_
  obtain ⟨x2, w3, hq1, hf⟩ := jbd2_inv hf
  refine jx_cSi (As := [.int a1]) (rest := []) dX12_since_1 ml_X12_328 ms_X12_isKey (s_X12_isKey hE hq1) rfl rfl rfl (by decide) (Nat.le_of_ble_eq_true rfl) ?_
  refine jx_if_eq (tgt := 15) dX12_since_4 (by decide) (fun c4 => ?_) (fun c4 => ?_)
  · rw [if_pos c4] at hf
    refine jx_iconst (v := (-1)) dX12_since_15 (by decide) ?_
    cases hf
    exact jx_iret dX12_since_16 rfl rfl
  · rw [if_neg c4] at hf
    refine jx_aload_n dX12_since_7 rfl ?_
    refine jx_iload_n dX12_since_8 rfl ?_
    obtain ⟨x6, w7, hq5, hf⟩ := jbd2_inv hf
    refine jx_cVi (a := 162) (As := [.int a2]) (rest := []) dX12_since_9 ml_X12_334 mv_X12_isTime (s_X12_isTime hE hq5) rfl rfl (jc_162 hE) (by decide) (Nat.le_of_ble_eq_true rfl) ?_
    refine jx_if_ne (tgt := 17) dX12_since_12 (by decide) (fun c8 => ?_) (fun c8 => ?_)
    · rw [if_neg c8] at hf
      refine jx_aload_n dX12_since_17 rfl ?_
      refine jx_iload_n dX12_since_18 rfl ?_
      refine jx_iload_n dX12_since_19 rfl ?_
      obtain ⟨x10, w11, hq9, hf⟩ := jbd2_inv hf
      refine jx_cVi (a := 162) (As := [.int a1, .int a2]) (rest := []) dX12_since_20 ml_X12_337 mv_X12_versionAt (s_X12_versionAt hE hq9) rfl rfl (jc_162 hE) (by decide) (Nat.le_of_ble_eq_true rfl) ?_
      refine jx_istore_n (ls' := [(0, .ref (E.2.2.2 + 162)), (1, .int a1), (2, .int a2), (3, .int x10)]) dX12_since_23 (by decide) rfl ?_
      refine jx_iload_n dX12_since_24 rfl ?_
      refine jx_if_ge (tgt := 33) dX12_since_25 (by decide) (fun c12 => ?_) (fun c12 => ?_)
      · rw [if_pos c12] at hf
        refine jx_aload_n dX12_since_33 rfl ?_
        refine jx_getr dX12_since_34 fl_X12_77 (kj_162 hE) sr_162_34 ?_
        refine jx_iload_n dX12_since_37 rfl ?_
        refine jx_iconst (v := 1) dX12_since_38 (by decide) ?_
        refine jx_iadd dX12_since_39 ?_
        obtain ⟨c13, hf⟩ := jg_inv hf
        refine jx_iald dX12_since_40 (kj_182 hE) (jin_vp c13) ?_
        cases hf
        exact jx_iret dX12_since_41 rfl rfl
      · rw [if_neg c12] at hf
        refine jx_bipush (v := (-2)) dX12_since_28 (by decide) ?_
        refine jx_goto (tgt := 41) dX12_since_30 (by decide) ?_
        cases hf
        exact jx_iret dX12_since_41 rfl rfl
    · rw [if_pos c8] at hf
      refine jx_iconst (v := (-1)) dX12_since_15 (by decide) ?_
      cases hf
      exact jx_iret dX12_since_16 rfl rfl
def l_X12_many : Nat → Int32 → Int32 → Int32 → Int32 → Int32 → jw → Option (Int32 × jw)
  | 0, _, _, _, _, _, _ => none
  | n + 1, b1, b2, b3, b4, b5, w => (if b2 < b5 then some (b4, w) else jg (jin b5 1000) ((if (w.2.1 187 (Int32.toNatClampNeg b5)) < 0 then jl (b5 + 1) fun x4 => (l_X12_many n b1 b2 b3 b4 x4 w) else jl (b4 + 1) fun x5 => jl (b5 + 1) fun x6 => (l_X12_many n b1 b2 b3 x5 x6 w))))
set_option maxRecDepth 20000 in
set_option maxHeartbeats 2000000 in
theorem sl_X12_many {E : jE} (hE : jfull E) : ∀ (n : Nat) (b1 : Int32) (b2 : Int32) (b3 : Int32) (b4 : Int32) (b5 : Int32) (w : jw) (v : Int32) (w' : jw), l_X12_many n b1 b2 b3 b4 b5 w = some (v, w') → jX E m_X12_many 3 30 [(0, .ref (E.2.2.2 + 162)), (1, .int b1), (2, .int b2), (3, .int b3), (4, .int b4), (5, .int b5)] [] w (some (.int v)) w' := by
  intro n
  induction n with
  | zero => intro b1 b2 b3 b4 b5 w v w' hf; cases hf
  | succ n ih =>
    intro b1 b2 b3 b4 b5 w v w' hf
    unfold l_X12_many at hf
    refine jx_iload dX12_many_30 rfl ?_
    refine jx_iload_n dX12_many_32 rfl ?_
    refine jx_icmp_gt (tgt := 55) dX12_many_33 (by decide) (fun c1 => ?_) (fun c1 => ?_)
    · rw [if_pos c1] at hf
      refine jx_iload dX12_many_55 rfl ?_
      cases hf
      exact jx_iret dX12_many_57 rfl rfl
    · rw [if_neg c1] at hf
      refine jx_aload_n dX12_many_36 rfl ?_
      refine jx_getr dX12_many_37 fl_X12_92 (kj_162 hE) sr_162_41 ?_
      refine jx_iload dX12_many_40 rfl ?_
      obtain ⟨c2, hf⟩ := jg_inv hf
      refine jx_iald dX12_many_42 (kj_187 hE) (jin_vp c2) ?_
      refine jx_if_lt (tgt := 49) dX12_many_43 (by decide) (fun c3 => ?_) (fun c3 => ?_)
      · rw [if_pos c3] at hf
        obtain ⟨x4, hx4, hf⟩ := jl_inv hf
        refine jx_iinc (v := x4) (ls' := [(0, .ref (E.2.2.2 + 162)), (1, .int b1), (2, .int b2), (3, .int b3), (4, .int b4), (5, .int x4)]) dX12_many_49 rfl (by rw [hx4]; rfl) (by decide) rfl ?_
        refine jx_goto (tgt := 30) dX12_many_52 (by decide) ?_
        exact ih _ _ _ _ _ _ _ _ hf
      · rw [if_neg c3] at hf
        obtain ⟨x5, hx5, hf⟩ := jl_inv hf
        refine jx_iinc (v := x5) (ls' := [(0, .ref (E.2.2.2 + 162)), (1, .int b1), (2, .int b2), (3, .int b3), (4, .int x5), (5, .int b5)]) dX12_many_46 rfl (by rw [hx5]; rfl) (by decide) rfl ?_
        obtain ⟨x6, hx6, hf⟩ := jl_inv hf
        refine jx_iinc (v := x6) (ls' := [(0, .ref (E.2.2.2 + 162)), (1, .int b1), (2, .int b2), (3, .int b3), (4, .int x5), (5, .int x6)]) dX12_many_49 rfl (by rw [hx6]; rfl) (by decide) rfl ?_
        refine jx_goto (tgt := 30) dX12_many_52 (by decide) ?_
        exact ih _ _ _ _ _ _ _ _ hf
def f_X12_many (a1 : Int32) (a2 : Int32) (a3 : Int32) (w : jw) : Option (Int32 × jw) := jbd2 (f_X12_isRange a1 a2 w) fun x8 w9 => (if (jb x8) = 0 then some ((-1), w9) else jbd2 (f_X12_isTime a3 w9) fun x12 w13 => (if (jb x12) = 0 then some ((-1), w13) else jbd (f_X12_fillsThen a3 w13) fun q15 => (l_X12_many jfu a1 a2 a3 0 a1 q15)))
set_option maxRecDepth 20000 in
set_option maxHeartbeats 2000000 in
theorem s_X12_many {E : jE} (hE : jfull E) {a1 : Int32} {a2 : Int32} {a3 : Int32} {w w' : jw} {v : Int32} (hf : f_X12_many a1 a2 a3 w = some (v, w')) : jC E m_X12_many 3 [.ref (E.2.2.2 + 162), .int a1, .int a2, .int a3] w (some (.int v)) w' := by
  refine jC_of (ls := [(0, .ref (E.2.2.2 + 162)), (1, .int a1), (2, .int a2), (3, .int a3)]) (by decide) rfl (fun _ => trivial) (Nat.le_of_ble_eq_true rfl) rfl ⟨.int, rfl, rfl⟩ ?_
  unfold f_X12_many at hf
  refine jx_aload_n dX12_many_0 rfl ?_
  refine jx_iload_n dX12_many_1 rfl ?_
  refine jx_iload_n dX12_many_2 rfl ?_
  obtain ⟨x8, w9, hq7, hf⟩ := jbd2_inv hf
  refine jx_cVi (a := 162) (As := [.int a1, .int a2]) (rest := []) dX12_many_3 ml_X12_340 mv_X12_isRange (s_X12_isRange hE hq7) rfl rfl (jc_162 hE) (by decide) (Nat.le_of_ble_eq_true rfl) ?_
  refine jx_if_eq (tgt := 17) dX12_many_6 (by decide) (fun c10 => ?_) (fun c10 => ?_)
  · rw [if_pos c10] at hf
    refine jx_iconst (v := (-1)) dX12_many_17 (by decide) ?_
    cases hf
    exact jx_iret dX12_many_18 rfl rfl
  · rw [if_neg c10] at hf
    refine jx_aload_n dX12_many_9 rfl ?_
    refine jx_iload_n dX12_many_10 rfl ?_
    obtain ⟨x12, w13, hq11, hf⟩ := jbd2_inv hf
    refine jx_cVi (a := 162) (As := [.int a3]) (rest := []) dX12_many_11 ml_X12_334 mv_X12_isTime (s_X12_isTime hE hq11) rfl rfl (jc_162 hE) (by decide) (Nat.le_of_ble_eq_true rfl) ?_
    refine jx_if_ne (tgt := 19) dX12_many_14 (by decide) (fun c14 => ?_) (fun c14 => ?_)
    · rw [if_neg c14] at hf
      refine jx_aload_n dX12_many_19 rfl ?_
      refine jx_iload_n dX12_many_20 rfl ?_
      obtain ⟨q15, hq15, hf⟩ := jbd_inv hf
      refine jx_cVv (a := 162) (As := [.int a3]) (rest := []) dX12_many_21 ml_X12_343 mv_X12_fillsThen (s_X12_fillsThen hE hq15) rfl rfl (jc_162 hE) (by decide) (Nat.le_of_ble_eq_true rfl) ?_
      refine jx_iconst (v := 0) dX12_many_24 (by decide) ?_
      refine jx_istore (ls' := [(0, .ref (E.2.2.2 + 162)), (1, .int a1), (2, .int a2), (3, .int a3), (4, .int 0)]) dX12_many_25 (by decide) rfl ?_
      refine jx_iload_n dX12_many_27 rfl ?_
      refine jx_istore (ls' := [(0, .ref (E.2.2.2 + 162)), (1, .int a1), (2, .int a2), (3, .int a3), (4, .int 0), (5, .int a1)]) dX12_many_28 (by decide) rfl ?_
      exact sl_X12_many hE jfu _ _ _ _ _ _ _ _ hf
    · rw [if_pos c14] at hf
      refine jx_iconst (v := (-1)) dX12_many_17 (by decide) ?_
      cases hf
      exact jx_iret dX12_many_18 rfl rfl
def l_X12_sum : Nat → Int32 → Int32 → Int32 → Int32 → Int32 → jw → Option (Int32 × jw)
  | 0, _, _, _, _, _, _ => none
  | n + 1, b1, b2, b3, b4, b5, w => (if b2 < b5 then some (b4, w) else jg (jin b5 1000) ((if (w.2.1 187 (Int32.toNatClampNeg b5)) < 0 then jl (b5 + 1) fun x4 => (l_X12_sum n b1 b2 b3 b4 x4 w) else jg (jin b5 1000) (jg (jin ((w.2.1 187 (Int32.toNatClampNeg b5)) + 3) 34700) (jl (b4 + (w.2.1 182 (Int32.toNatClampNeg ((w.2.1 187 (Int32.toNatClampNeg b5)) + 3))) : Int32) fun x7 => jl (b5 + 1) fun x8 => (l_X12_sum n b1 b2 b3 x7 x8 w))))))
set_option maxRecDepth 20000 in
set_option maxHeartbeats 2000000 in
theorem sl_X12_sum {E : jE} (hE : jfull E) : ∀ (n : Nat) (b1 : Int32) (b2 : Int32) (b3 : Int32) (b4 : Int32) (b5 : Int32) (w : jw) (v : Int32) (w' : jw), l_X12_sum n b1 b2 b3 b4 b5 w = some (v, w') → jX E m_X12_sum 3 30 [(0, .ref (E.2.2.2 + 162)), (1, .int b1), (2, .int b2), (3, .int b3), (4, .int b4), (5, .int b5)] [] w (some (.int v)) w' := by
  intro n
  induction n with
  | zero => intro b1 b2 b3 b4 b5 w v w' hf; cases hf
  | succ n ih =>
    intro b1 b2 b3 b4 b5 w v w' hf
    unfold l_X12_sum at hf
    refine jx_iload dX12_sum_30 rfl ?_
    refine jx_iload_n dX12_sum_32 rfl ?_
    refine jx_icmp_gt (tgt := 71) dX12_sum_33 (by decide) (fun c1 => ?_) (fun c1 => ?_)
    · rw [if_pos c1] at hf
      refine jx_iload dX12_sum_71 rfl ?_
      cases hf
      exact jx_iret dX12_sum_73 rfl rfl
    · rw [if_neg c1] at hf
      refine jx_aload_n dX12_sum_36 rfl ?_
      refine jx_getr dX12_sum_37 fl_X12_92 (kj_162 hE) sr_162_41 ?_
      refine jx_iload dX12_sum_40 rfl ?_
      obtain ⟨c2, hf⟩ := jg_inv hf
      refine jx_iald dX12_sum_42 (kj_187 hE) (jin_vp c2) ?_
      refine jx_if_lt (tgt := 65) dX12_sum_43 (by decide) (fun c3 => ?_) (fun c3 => ?_)
      · rw [if_pos c3] at hf
        obtain ⟨x4, hx4, hf⟩ := jl_inv hf
        refine jx_iinc (v := x4) (ls' := [(0, .ref (E.2.2.2 + 162)), (1, .int b1), (2, .int b2), (3, .int b3), (4, .int b4), (5, .int x4)]) dX12_sum_65 rfl (by rw [hx4]; rfl) (by decide) rfl ?_
        refine jx_goto (tgt := 30) dX12_sum_68 (by decide) ?_
        exact ih _ _ _ _ _ _ _ _ hf
      · rw [if_neg c3] at hf
        refine jx_iload dX12_sum_46 rfl ?_
        refine jx_aload_n dX12_sum_48 rfl ?_
        refine jx_getr dX12_sum_49 fl_X12_77 (kj_162 hE) sr_162_34 ?_
        refine jx_aload_n dX12_sum_52 rfl ?_
        refine jx_getr dX12_sum_53 fl_X12_92 (kj_162 hE) sr_162_41 ?_
        refine jx_iload dX12_sum_56 rfl ?_
        obtain ⟨c5, hf⟩ := jg_inv hf
        refine jx_iald dX12_sum_58 (kj_187 hE) (jin_vp c5) ?_
        refine jx_iconst (v := 3) dX12_sum_59 (by decide) ?_
        refine jx_iadd dX12_sum_60 ?_
        obtain ⟨c6, hf⟩ := jg_inv hf
        refine jx_iald dX12_sum_61 (kj_182 hE) (jin_vp c6) ?_
        refine jx_iadd dX12_sum_62 ?_
        obtain ⟨x7, hx7, hf⟩ := jl_inv hf
        refine jx_nm hx7 ?_
        refine jx_istore (ls' := [(0, .ref (E.2.2.2 + 162)), (1, .int b1), (2, .int b2), (3, .int b3), (4, .int x7), (5, .int b5)]) dX12_sum_63 (by decide) rfl ?_
        obtain ⟨x8, hx8, hf⟩ := jl_inv hf
        refine jx_iinc (v := x8) (ls' := [(0, .ref (E.2.2.2 + 162)), (1, .int b1), (2, .int b2), (3, .int b3), (4, .int x7), (5, .int x8)]) dX12_sum_65 rfl (by rw [hx8]; rfl) (by decide) rfl ?_
        refine jx_goto (tgt := 30) dX12_sum_68 (by decide) ?_
        exact ih _ _ _ _ _ _ _ _ hf
def f_X12_sum (a1 : Int32) (a2 : Int32) (a3 : Int32) (w : jw) : Option (Int32 × jw) := jbd2 (f_X12_isRange a1 a2 w) fun x10 w11 => (if (jb x10) = 0 then some (0, w11) else jbd2 (f_X12_isTime a3 w11) fun x14 w15 => (if (jb x14) = 0 then some (0, w15) else jbd (f_X12_fillsThen a3 w15) fun q17 => (l_X12_sum jfu a1 a2 a3 0 a1 q17)))
set_option maxRecDepth 20000 in
set_option maxHeartbeats 2000000 in
theorem s_X12_sum {E : jE} (hE : jfull E) {a1 : Int32} {a2 : Int32} {a3 : Int32} {w w' : jw} {v : Int32} (hf : f_X12_sum a1 a2 a3 w = some (v, w')) : jC E m_X12_sum 3 [.ref (E.2.2.2 + 162), .int a1, .int a2, .int a3] w (some (.int v)) w' := by
  refine jC_of (ls := [(0, .ref (E.2.2.2 + 162)), (1, .int a1), (2, .int a2), (3, .int a3)]) (by decide) rfl (fun _ => trivial) (Nat.le_of_ble_eq_true rfl) rfl ⟨.int, rfl, rfl⟩ ?_
  unfold f_X12_sum at hf
  refine jx_aload_n dX12_sum_0 rfl ?_
  refine jx_iload_n dX12_sum_1 rfl ?_
  refine jx_iload_n dX12_sum_2 rfl ?_
  obtain ⟨x10, w11, hq9, hf⟩ := jbd2_inv hf
  refine jx_cVi (a := 162) (As := [.int a1, .int a2]) (rest := []) dX12_sum_3 ml_X12_340 mv_X12_isRange (s_X12_isRange hE hq9) rfl rfl (jc_162 hE) (by decide) (Nat.le_of_ble_eq_true rfl) ?_
  refine jx_if_eq (tgt := 17) dX12_sum_6 (by decide) (fun c12 => ?_) (fun c12 => ?_)
  · rw [if_pos c12] at hf
    refine jx_iconst (v := 0) dX12_sum_17 (by decide) ?_
    cases hf
    exact jx_iret dX12_sum_18 rfl rfl
  · rw [if_neg c12] at hf
    refine jx_aload_n dX12_sum_9 rfl ?_
    refine jx_iload_n dX12_sum_10 rfl ?_
    obtain ⟨x14, w15, hq13, hf⟩ := jbd2_inv hf
    refine jx_cVi (a := 162) (As := [.int a3]) (rest := []) dX12_sum_11 ml_X12_334 mv_X12_isTime (s_X12_isTime hE hq13) rfl rfl (jc_162 hE) (by decide) (Nat.le_of_ble_eq_true rfl) ?_
    refine jx_if_ne (tgt := 19) dX12_sum_14 (by decide) (fun c16 => ?_) (fun c16 => ?_)
    · rw [if_neg c16] at hf
      refine jx_aload_n dX12_sum_19 rfl ?_
      refine jx_iload_n dX12_sum_20 rfl ?_
      obtain ⟨q17, hq17, hf⟩ := jbd_inv hf
      refine jx_cVv (a := 162) (As := [.int a3]) (rest := []) dX12_sum_21 ml_X12_343 mv_X12_fillsThen (s_X12_fillsThen hE hq17) rfl rfl (jc_162 hE) (by decide) (Nat.le_of_ble_eq_true rfl) ?_
      refine jx_iconst (v := 0) dX12_sum_24 (by decide) ?_
      refine jx_istore (ls' := [(0, .ref (E.2.2.2 + 162)), (1, .int a1), (2, .int a2), (3, .int a3), (4, .int 0)]) dX12_sum_25 (by decide) rfl ?_
      refine jx_iload_n dX12_sum_27 rfl ?_
      refine jx_istore (ls' := [(0, .ref (E.2.2.2 + 162)), (1, .int a1), (2, .int a2), (3, .int a3), (4, .int 0), (5, .int a1)]) dX12_sum_28 (by decide) rfl ?_
      exact sl_X12_sum hE jfu _ _ _ _ _ _ _ _ hf
    · rw [if_pos c16] at hf
      refine jx_iconst (v := 0) dX12_sum_17 (by decide) ?_
      cases hf
      exact jx_iret dX12_sum_18 rfl rfl
def l_X12_nth : Nat → Int32 → Int32 → Int32 → Int32 → jw → Option (Int32 × jw)
  | 0, _, _, _, _, _ => none
  | n + 1, b1, b2, b3, b4, w => (if 1000 ≤ b4 then some ((-2), w) else jg (jin b4 1000) ((if 0 ≤ (w.2.1 187 (Int32.toNatClampNeg b4)) then (if b3 = 0 then some (b4, w) else jl (b3 + (-1)) fun x5 => jl (b4 + 1) fun x6 => (l_X12_nth n b1 b2 x5 x6 w)) else jl (b4 + 1) fun x7 => (l_X12_nth n b1 b2 b3 x7 w))))
set_option maxRecDepth 20000 in
set_option maxHeartbeats 2000000 in
theorem sl_X12_nth {E : jE} (hE : jfull E) : ∀ (n : Nat) (b1 : Int32) (b2 : Int32) (b3 : Int32) (b4 : Int32) (w : jw) (v : Int32) (w' : jw), l_X12_nth n b1 b2 b3 b4 w = some (v, w') → jX E m_X12_nth 2 24 [(0, .ref (E.2.2.2 + 162)), (1, .int b1), (2, .int b2), (3, .int b3), (4, .int b4)] [] w (some (.int v)) w' := by
  intro n
  induction n with
  | zero => intro b1 b2 b3 b4 w v w' hf; cases hf
  | succ n ih =>
    intro b1 b2 b3 b4 w v w' hf
    unfold l_X12_nth at hf
    refine jx_iload dX12_nth_24 rfl ?_
    refine jx_sipush (v := 1000) dX12_nth_26 (by decide) ?_
    refine jx_icmp_ge (tgt := 61) dX12_nth_29 (by decide) (fun c1 => ?_) (fun c1 => ?_)
    · rw [if_pos c1] at hf
      refine jx_bipush (v := (-2)) dX12_nth_61 (by decide) ?_
      cases hf
      exact jx_iret dX12_nth_63 rfl rfl
    · rw [if_neg c1] at hf
      refine jx_aload_n dX12_nth_32 rfl ?_
      refine jx_getr dX12_nth_33 fl_X12_92 (kj_162 hE) sr_162_41 ?_
      refine jx_iload dX12_nth_36 rfl ?_
      obtain ⟨c2, hf⟩ := jg_inv hf
      refine jx_iald dX12_nth_38 (kj_187 hE) (jin_vp c2) ?_
      refine jx_if_ge (tgt := 45) dX12_nth_39 (by decide) (fun c3 => ?_) (fun c3 => ?_)
      · rw [if_pos c3] at hf
        refine jx_iload_n dX12_nth_45 rfl ?_
        refine jx_if_ne (tgt := 52) dX12_nth_46 (by decide) (fun c4 => ?_) (fun c4 => ?_)
        · rw [if_neg c4] at hf
          obtain ⟨x5, hx5, hf⟩ := jl_inv hf
          refine jx_iinc (v := x5) (ls' := [(0, .ref (E.2.2.2 + 162)), (1, .int b1), (2, .int b2), (3, .int x5), (4, .int b4)]) dX12_nth_52 rfl (by rw [hx5]; rfl) (by decide) rfl ?_
          obtain ⟨x6, hx6, hf⟩ := jl_inv hf
          refine jx_iinc (v := x6) (ls' := [(0, .ref (E.2.2.2 + 162)), (1, .int b1), (2, .int b2), (3, .int x5), (4, .int x6)]) dX12_nth_55 rfl (by rw [hx6]; rfl) (by decide) rfl ?_
          refine jx_goto (tgt := 24) dX12_nth_58 (by decide) ?_
          exact ih _ _ _ _ _ _ _ hf
        · rw [if_pos c4] at hf
          refine jx_iload dX12_nth_49 rfl ?_
          cases hf
          exact jx_iret dX12_nth_51 rfl rfl
      · rw [if_neg c3] at hf
        refine jx_goto (tgt := 55) dX12_nth_42 (by decide) ?_
        obtain ⟨x7, hx7, hf⟩ := jl_inv hf
        refine jx_iinc (v := x7) (ls' := [(0, .ref (E.2.2.2 + 162)), (1, .int b1), (2, .int b2), (3, .int b3), (4, .int x7)]) dX12_nth_55 rfl (by rw [hx7]; rfl) (by decide) rfl ?_
        refine jx_goto (tgt := 24) dX12_nth_58 (by decide) ?_
        exact ih _ _ _ _ _ _ _ hf
def f_X12_nth (a1 : Int32) (a2 : Int32) (w : jw) : Option (Int32 × jw) := (if a1 < 0 then some ((-1), w) else jbd2 (f_X12_isTime a2 w) fun x10 w11 => (if (jb x10) = 0 then some ((-1), w11) else jbd (f_X12_fillsThen a2 w11) fun q13 => (l_X12_nth jfu a1 a2 a1 0 q13)))
set_option maxRecDepth 20000 in
set_option maxHeartbeats 2000000 in
theorem s_X12_nth {E : jE} (hE : jfull E) {a1 : Int32} {a2 : Int32} {w w' : jw} {v : Int32} (hf : f_X12_nth a1 a2 w = some (v, w')) : jC E m_X12_nth 2 [.ref (E.2.2.2 + 162), .int a1, .int a2] w (some (.int v)) w' := by
  refine jC_of (ls := [(0, .ref (E.2.2.2 + 162)), (1, .int a1), (2, .int a2)]) (by decide) rfl (fun _ => trivial) (Nat.le_of_ble_eq_true rfl) rfl ⟨.int, rfl, rfl⟩ ?_
  unfold f_X12_nth at hf
  refine jx_iload_n dX12_nth_0 rfl ?_
  refine jx_if_lt (tgt := 12) dX12_nth_1 (by decide) (fun c8 => ?_) (fun c8 => ?_)
  · rw [if_pos c8] at hf
    refine jx_iconst (v := (-1)) dX12_nth_12 (by decide) ?_
    cases hf
    exact jx_iret dX12_nth_13 rfl rfl
  · rw [if_neg c8] at hf
    refine jx_aload_n dX12_nth_4 rfl ?_
    refine jx_iload_n dX12_nth_5 rfl ?_
    obtain ⟨x10, w11, hq9, hf⟩ := jbd2_inv hf
    refine jx_cVi (a := 162) (As := [.int a2]) (rest := []) dX12_nth_6 ml_X12_334 mv_X12_isTime (s_X12_isTime hE hq9) rfl rfl (jc_162 hE) (by decide) (Nat.le_of_ble_eq_true rfl) ?_
    refine jx_if_ne (tgt := 14) dX12_nth_9 (by decide) (fun c12 => ?_) (fun c12 => ?_)
    · rw [if_neg c12] at hf
      refine jx_aload_n dX12_nth_14 rfl ?_
      refine jx_iload_n dX12_nth_15 rfl ?_
      obtain ⟨q13, hq13, hf⟩ := jbd_inv hf
      refine jx_cVv (a := 162) (As := [.int a2]) (rest := []) dX12_nth_16 ml_X12_343 mv_X12_fillsThen (s_X12_fillsThen hE hq13) rfl rfl (jc_162 hE) (by decide) (Nat.le_of_ble_eq_true rfl) ?_
      refine jx_iload_n dX12_nth_19 rfl ?_
      refine jx_istore_n (ls' := [(0, .ref (E.2.2.2 + 162)), (1, .int a1), (2, .int a2), (3, .int a1)]) dX12_nth_20 (by decide) rfl ?_
      refine jx_iconst (v := 0) dX12_nth_21 (by decide) ?_
      refine jx_istore (ls' := [(0, .ref (E.2.2.2 + 162)), (1, .int a1), (2, .int a2), (3, .int a1), (4, .int 0)]) dX12_nth_22 (by decide) rfl ?_
      exact sl_X12_nth hE jfu _ _ _ _ _ _ _ hf
    · rw [if_pos c12] at hf
      refine jx_iconst (v := (-1)) dX12_nth_12 (by decide) ?_
      cases hf
      exact jx_iret dX12_nth_13 rfl rfl
def l_X12_next : Nat → Int32 → Int32 → Int32 → jw → Option (Int32 × jw)
  | 0, _, _, _, _ => none
  | n + 1, b1, b2, b3, w => (if 1000 ≤ b3 then some ((-2), w) else jg (jin b3 1000) ((if (w.2.1 187 (Int32.toNatClampNeg b3)) < 0 then jl (b3 + 1) fun x4 => (l_X12_next n b1 b2 x4 w) else some (b3, w))))
set_option maxRecDepth 20000 in
set_option maxHeartbeats 2000000 in
theorem sl_X12_next {E : jE} (hE : jfull E) : ∀ (n : Nat) (b1 : Int32) (b2 : Int32) (b3 : Int32) (w : jw) (v : Int32) (w' : jw), l_X12_next n b1 b2 b3 w = some (v, w') → jX E m_X12_next 2 24 [(0, .ref (E.2.2.2 + 162)), (1, .int b1), (2, .int b2), (3, .int b3)] [] w (some (.int v)) w' := by
  intro n
  induction n with
  | zero => intro b1 b2 b3 w v w' hf; cases hf
  | succ n ih =>
    intro b1 b2 b3 w v w' hf
    unfold l_X12_next at hf
    refine jx_iload_n dX12_next_24 rfl ?_
    refine jx_sipush (v := 1000) dX12_next_25 (by decide) ?_
    refine jx_icmp_ge (tgt := 48) dX12_next_28 (by decide) (fun c1 => ?_) (fun c1 => ?_)
    · rw [if_pos c1] at hf
      refine jx_bipush (v := (-2)) dX12_next_48 (by decide) ?_
      cases hf
      exact jx_iret dX12_next_50 rfl rfl
    · rw [if_neg c1] at hf
      refine jx_aload_n dX12_next_31 rfl ?_
      refine jx_getr dX12_next_32 fl_X12_92 (kj_162 hE) sr_162_41 ?_
      refine jx_iload_n dX12_next_35 rfl ?_
      obtain ⟨c2, hf⟩ := jg_inv hf
      refine jx_iald dX12_next_36 (kj_187 hE) (jin_vp c2) ?_
      refine jx_if_lt (tgt := 42) dX12_next_37 (by decide) (fun c3 => ?_) (fun c3 => ?_)
      · rw [if_pos c3] at hf
        obtain ⟨x4, hx4, hf⟩ := jl_inv hf
        refine jx_iinc (v := x4) (ls' := [(0, .ref (E.2.2.2 + 162)), (1, .int b1), (2, .int b2), (3, .int x4)]) dX12_next_42 rfl (by rw [hx4]; rfl) (by decide) rfl ?_
        refine jx_goto (tgt := 24) dX12_next_45 (by decide) ?_
        exact ih _ _ _ _ _ _ hf
      · rw [if_neg c3] at hf
        refine jx_iload_n dX12_next_40 rfl ?_
        cases hf
        exact jx_iret dX12_next_41 rfl rfl
def f_X12_next (a1 : Int32) (a2 : Int32) (w : jw) : Option (Int32 × jw) := jbd2 (f_X12_isKey a1 w) fun x6 w7 => (if (jb x6) = 0 then some ((-1), w7) else jbd2 (f_X12_isTime a2 w7) fun x10 w11 => (if (jb x10) = 0 then some ((-1), w11) else jbd (f_X12_fillsThen a2 w11) fun q13 => (l_X12_next jfu a1 a2 a1 q13)))
set_option maxRecDepth 20000 in
set_option maxHeartbeats 2000000 in
theorem s_X12_next {E : jE} (hE : jfull E) {a1 : Int32} {a2 : Int32} {w w' : jw} {v : Int32} (hf : f_X12_next a1 a2 w = some (v, w')) : jC E m_X12_next 2 [.ref (E.2.2.2 + 162), .int a1, .int a2] w (some (.int v)) w' := by
  refine jC_of (ls := [(0, .ref (E.2.2.2 + 162)), (1, .int a1), (2, .int a2)]) (by decide) rfl (fun _ => trivial) (Nat.le_of_ble_eq_true rfl) rfl ⟨.int, rfl, rfl⟩ ?_
  unfold f_X12_next at hf
  refine jx_iload_n dX12_next_0 rfl ?_
  obtain ⟨x6, w7, hq5, hf⟩ := jbd2_inv hf
  refine jx_cSi (As := [.int a1]) (rest := []) dX12_next_1 ml_X12_328 ms_X12_isKey (s_X12_isKey hE hq5) rfl rfl rfl (by decide) (Nat.le_of_ble_eq_true rfl) ?_
  refine jx_if_eq (tgt := 15) dX12_next_4 (by decide) (fun c8 => ?_) (fun c8 => ?_)
  · rw [if_pos c8] at hf
    refine jx_iconst (v := (-1)) dX12_next_15 (by decide) ?_
    cases hf
    exact jx_iret dX12_next_16 rfl rfl
  · rw [if_neg c8] at hf
    refine jx_aload_n dX12_next_7 rfl ?_
    refine jx_iload_n dX12_next_8 rfl ?_
    obtain ⟨x10, w11, hq9, hf⟩ := jbd2_inv hf
    refine jx_cVi (a := 162) (As := [.int a2]) (rest := []) dX12_next_9 ml_X12_334 mv_X12_isTime (s_X12_isTime hE hq9) rfl rfl (jc_162 hE) (by decide) (Nat.le_of_ble_eq_true rfl) ?_
    refine jx_if_ne (tgt := 17) dX12_next_12 (by decide) (fun c12 => ?_) (fun c12 => ?_)
    · rw [if_neg c12] at hf
      refine jx_aload_n dX12_next_17 rfl ?_
      refine jx_iload_n dX12_next_18 rfl ?_
      obtain ⟨q13, hq13, hf⟩ := jbd_inv hf
      refine jx_cVv (a := 162) (As := [.int a2]) (rest := []) dX12_next_19 ml_X12_343 mv_X12_fillsThen (s_X12_fillsThen hE hq13) rfl rfl (jc_162 hE) (by decide) (Nat.le_of_ble_eq_true rfl) ?_
      refine jx_iload_n dX12_next_22 rfl ?_
      refine jx_istore_n (ls' := [(0, .ref (E.2.2.2 + 162)), (1, .int a1), (2, .int a2), (3, .int a1)]) dX12_next_23 (by decide) rfl ?_
      exact sl_X12_next hE jfu _ _ _ _ _ _ hf
    · rw [if_pos c12] at hf
      refine jx_iconst (v := (-1)) dX12_next_15 (by decide) ?_
      cases hf
      exact jx_iret dX12_next_16 rfl rfl
def l_X12_prior : Nat → Int32 → Int32 → Int32 → jw → Option (Int32 × jw)
  | 0, _, _, _, _ => none
  | n + 1, b1, b2, b3, w => (if b3 < 0 then some ((-2), w) else jg (jin b3 1000) ((if (w.2.1 187 (Int32.toNatClampNeg b3)) < 0 then jl (b3 + (-1)) fun x4 => (l_X12_prior n b1 b2 x4 w) else some (b3, w))))
set_option maxRecDepth 20000 in
set_option maxHeartbeats 2000000 in
theorem sl_X12_prior {E : jE} (hE : jfull E) : ∀ (n : Nat) (b1 : Int32) (b2 : Int32) (b3 : Int32) (w : jw) (v : Int32) (w' : jw), l_X12_prior n b1 b2 b3 w = some (v, w') → jX E m_X12_prior 2 24 [(0, .ref (E.2.2.2 + 162)), (1, .int b1), (2, .int b2), (3, .int b3)] [] w (some (.int v)) w' := by
  intro n
  induction n with
  | zero => intro b1 b2 b3 w v w' hf; cases hf
  | succ n ih =>
    intro b1 b2 b3 w v w' hf
    unfold l_X12_prior at hf
    refine jx_iload_n dX12_prior_24 rfl ?_
    refine jx_if_lt (tgt := 45) dX12_prior_25 (by decide) (fun c1 => ?_) (fun c1 => ?_)
    · rw [if_pos c1] at hf
      refine jx_bipush (v := (-2)) dX12_prior_45 (by decide) ?_
      cases hf
      exact jx_iret dX12_prior_47 rfl rfl
    · rw [if_neg c1] at hf
      refine jx_aload_n dX12_prior_28 rfl ?_
      refine jx_getr dX12_prior_29 fl_X12_92 (kj_162 hE) sr_162_41 ?_
      refine jx_iload_n dX12_prior_32 rfl ?_
      obtain ⟨c2, hf⟩ := jg_inv hf
      refine jx_iald dX12_prior_33 (kj_187 hE) (jin_vp c2) ?_
      refine jx_if_lt (tgt := 39) dX12_prior_34 (by decide) (fun c3 => ?_) (fun c3 => ?_)
      · rw [if_pos c3] at hf
        obtain ⟨x4, hx4, hf⟩ := jl_inv hf
        refine jx_iinc (v := x4) (ls' := [(0, .ref (E.2.2.2 + 162)), (1, .int b1), (2, .int b2), (3, .int x4)]) dX12_prior_39 rfl (by rw [hx4]; rfl) (by decide) rfl ?_
        refine jx_goto (tgt := 24) dX12_prior_42 (by decide) ?_
        exact ih _ _ _ _ _ _ hf
      · rw [if_neg c3] at hf
        refine jx_iload_n dX12_prior_37 rfl ?_
        cases hf
        exact jx_iret dX12_prior_38 rfl rfl
def f_X12_prior (a1 : Int32) (a2 : Int32) (w : jw) : Option (Int32 × jw) := jbd2 (f_X12_isKey a1 w) fun x6 w7 => (if (jb x6) = 0 then some ((-1), w7) else jbd2 (f_X12_isTime a2 w7) fun x10 w11 => (if (jb x10) = 0 then some ((-1), w11) else jbd (f_X12_fillsThen a2 w11) fun q13 => (l_X12_prior jfu a1 a2 a1 q13)))
set_option maxRecDepth 20000 in
set_option maxHeartbeats 2000000 in
theorem s_X12_prior {E : jE} (hE : jfull E) {a1 : Int32} {a2 : Int32} {w w' : jw} {v : Int32} (hf : f_X12_prior a1 a2 w = some (v, w')) : jC E m_X12_prior 2 [.ref (E.2.2.2 + 162), .int a1, .int a2] w (some (.int v)) w' := by
  refine jC_of (ls := [(0, .ref (E.2.2.2 + 162)), (1, .int a1), (2, .int a2)]) (by decide) rfl (fun _ => trivial) (Nat.le_of_ble_eq_true rfl) rfl ⟨.int, rfl, rfl⟩ ?_
  unfold f_X12_prior at hf
  refine jx_iload_n dX12_prior_0 rfl ?_
  obtain ⟨x6, w7, hq5, hf⟩ := jbd2_inv hf
  refine jx_cSi (As := [.int a1]) (rest := []) dX12_prior_1 ml_X12_328 ms_X12_isKey (s_X12_isKey hE hq5) rfl rfl rfl (by decide) (Nat.le_of_ble_eq_true rfl) ?_
  refine jx_if_eq (tgt := 15) dX12_prior_4 (by decide) (fun c8 => ?_) (fun c8 => ?_)
  · rw [if_pos c8] at hf
    refine jx_iconst (v := (-1)) dX12_prior_15 (by decide) ?_
    cases hf
    exact jx_iret dX12_prior_16 rfl rfl
  · rw [if_neg c8] at hf
    refine jx_aload_n dX12_prior_7 rfl ?_
    refine jx_iload_n dX12_prior_8 rfl ?_
    obtain ⟨x10, w11, hq9, hf⟩ := jbd2_inv hf
    refine jx_cVi (a := 162) (As := [.int a2]) (rest := []) dX12_prior_9 ml_X12_334 mv_X12_isTime (s_X12_isTime hE hq9) rfl rfl (jc_162 hE) (by decide) (Nat.le_of_ble_eq_true rfl) ?_
    refine jx_if_ne (tgt := 17) dX12_prior_12 (by decide) (fun c12 => ?_) (fun c12 => ?_)
    · rw [if_neg c12] at hf
      refine jx_aload_n dX12_prior_17 rfl ?_
      refine jx_iload_n dX12_prior_18 rfl ?_
      obtain ⟨q13, hq13, hf⟩ := jbd_inv hf
      refine jx_cVv (a := 162) (As := [.int a2]) (rest := []) dX12_prior_19 ml_X12_343 mv_X12_fillsThen (s_X12_fillsThen hE hq13) rfl rfl (jc_162 hE) (by decide) (Nat.le_of_ble_eq_true rfl) ?_
      refine jx_iload_n dX12_prior_22 rfl ?_
      refine jx_istore_n (ls' := [(0, .ref (E.2.2.2 + 162)), (1, .int a1), (2, .int a2), (3, .int a1)]) dX12_prior_23 (by decide) rfl ?_
      exact sl_X12_prior hE jfu _ _ _ _ _ _ hf
    · rw [if_pos c12] at hf
      refine jx_iconst (v := (-1)) dX12_prior_15 (by decide) ?_
      cases hf
      exact jx_iret dX12_prior_16 rfl rfl
def l_X12_differ_76 : Nat → Int32 → Int32 → Int32 → Int32 → Int32 → Int32 → jw → Option (Int32 × jw)
  | 0, _, _, _, _, _, _, _ => none
  | n + 1, b1, b2, b3, b4, b5, b6, w => (if b2 < b6 then some (b5, w) else jg (jin b6 1000) (jl (w.2.1 187 (Int32.toNatClampNeg b6) : Int32) fun x3 => jg (jin b6 1000) (jl (w.2.1 188 (Int32.toNatClampNeg b6) : Int32) fun x5 => jbd (if 0 ≤ x3 then some (0 : Int32) else some (1 : Int32)) fun x7 => jbd (if 0 ≤ x5 then some (0 : Int32) else some (1 : Int32)) fun x10 => jbd (if x7 = x10 then (if x3 < 0 then some b5 else jg (jin (x3 + 3) 34700) (jg (jin (x5 + 3) 34700) ((if (w.2.1 182 (Int32.toNatClampNeg (x3 + 3))) = (w.2.1 182 (Int32.toNatClampNeg (x5 + 3))) then some b5 else jl (b5 + 1) fun x21 => some x21)))) else jl (b5 + 1) fun x16 => some x16) fun x13 => jl (b6 + 1) fun x15 => (l_X12_differ_76 n b1 b2 b3 b4 x13 x15 w))))
set_option maxRecDepth 20000 in
set_option maxHeartbeats 2000000 in
theorem sl_X12_differ_76 {E : jE} (hE : jfull E) : ∀ (n : Nat) (b1 : Int32) (b2 : Int32) (b3 : Int32) (b4 : Int32) (b5 : Int32) (b6 : Int32) (w : jw) (v : Int32) (w' : jw), l_X12_differ_76 n b1 b2 b3 b4 b5 b6 w = some (v, w') → jX E m_X12_differ 3 76 [(0, .ref (E.2.2.2 + 162)), (1, .int b1), (2, .int b2), (3, .int b3), (4, .int b4), (5, .int b5), (6, .int b6)] [] w (some (.int v)) w' := by
  intro n
  induction n with
  | zero => intro b1 b2 b3 b4 b5 b6 w v w' hf; cases hf
  | succ n ih =>
    intro b1 b2 b3 b4 b5 b6 w v w' hf
    unfold l_X12_differ_76 at hf
    refine jx_iload dX12_differ_76 rfl ?_
    refine jx_iload_n dX12_differ_78 rfl ?_
    refine jx_icmp_gt (tgt := 158) dX12_differ_79 (by decide) (fun c1 => ?_) (fun c1 => ?_)
    · rw [if_pos c1] at hf
      refine jx_iload dX12_differ_158 rfl ?_
      cases hf
      exact jx_iret dX12_differ_160 rfl rfl
    · rw [if_neg c1] at hf
      refine jx_aload_n dX12_differ_82 rfl ?_
      refine jx_getr dX12_differ_83 fl_X12_92 (kj_162 hE) sr_162_41 ?_
      refine jx_iload dX12_differ_86 rfl ?_
      obtain ⟨c2, hf⟩ := jg_inv hf
      refine jx_iald dX12_differ_88 (kj_187 hE) (jin_vp c2) ?_
      obtain ⟨x3, hx3, hf⟩ := jl_inv hf
      refine jx_nm hx3 ?_
      refine jx_istore (ls' := [(0, .ref (E.2.2.2 + 162)), (1, .int b1), (2, .int b2), (3, .int b3), (4, .int b4), (5, .int b5), (6, .int b6), (7, .int x3)]) dX12_differ_89 (by decide) rfl ?_
      refine jx_aload_n dX12_differ_91 rfl ?_
      refine jx_getr dX12_differ_92 fl_X12_95 (kj_162 hE) sr_162_42 ?_
      refine jx_iload dX12_differ_95 rfl ?_
      obtain ⟨c4, hf⟩ := jg_inv hf
      refine jx_iald dX12_differ_97 (kj_188 hE) (jin_vp c4) ?_
      obtain ⟨x5, hx5, hf⟩ := jl_inv hf
      refine jx_nm hx5 ?_
      refine jx_istore (ls' := [(0, .ref (E.2.2.2 + 162)), (1, .int b1), (2, .int b2), (3, .int b3), (4, .int b4), (5, .int b5), (6, .int b6), (7, .int x3), (8, .int x5)]) dX12_differ_98 (by decide) rfl ?_
      refine jx_iload dX12_differ_100 rfl ?_
      obtain ⟨x7, hqhJ8, hf⟩ := jbd_inv hf
      have hJ8 : jX E m_X12_differ 3 110 [(0, .ref (E.2.2.2 + 162)), (1, .int b1), (2, .int b2), (3, .int b3), (4, .int b4), (5, .int b5), (6, .int b6), (7, .int x3), (8, .int x5)] [.int x7] w (some (.int v)) w' := by
        refine jx_iload dX12_differ_110 rfl ?_
        obtain ⟨x10, hqhJ11, hf⟩ := jbd_inv hf
        have hJ11 : jX E m_X12_differ 3 120 [(0, .ref (E.2.2.2 + 162)), (1, .int b1), (2, .int b2), (3, .int b3), (4, .int b4), (5, .int b5), (6, .int b6), (7, .int x3), (8, .int x5)] [.int x10, .int x7] w (some (.int v)) w' := by
          obtain ⟨x13, hqhJ14, hf⟩ := jbd_inv hf
          have hJ14 : jX E m_X12_differ 3 152 [(0, .ref (E.2.2.2 + 162)), (1, .int b1), (2, .int b2), (3, .int b3), (4, .int b4), (5, .int x13), (6, .int b6), (7, .int x3), (8, .int x5)] [] w (some (.int v)) w' := by
            obtain ⟨x15, hx15, hf⟩ := jl_inv hf
            refine jx_iinc (v := x15) (ls' := [(0, .ref (E.2.2.2 + 162)), (1, .int b1), (2, .int b2), (3, .int b3), (4, .int b4), (5, .int x13), (6, .int x15), (7, .int x3), (8, .int x5)]) dX12_differ_152 rfl (by rw [hx15]; rfl) (by decide) rfl ?_
            refine jx_goto (tgt := 76) dX12_differ_155 (by decide) ?_
            refine jx_pick [0, 1, 2, 3, 4, 5, 6] rfl ?_
            exact ih _ _ _ _ _ _ _ _ _ hf
          clear hf
          have hf := hqhJ14
          clear hqhJ14
          refine jx_icmp_ne (tgt := 149) dX12_differ_120 (by decide) (fun c12 => ?_) (fun c12 => ?_)
          · rw [if_neg c12] at hf
            obtain ⟨x16, hx16, hf⟩ := jl_inv hf
            refine jx_iinc (v := x16) (ls' := [(0, .ref (E.2.2.2 + 162)), (1, .int b1), (2, .int b2), (3, .int b3), (4, .int b4), (5, .int x16), (6, .int b6), (7, .int x3), (8, .int x5)]) dX12_differ_149 rfl (by rw [hx16]; rfl) (by decide) rfl ?_
            cases hf
            exact hJ14
          · rw [if_pos c12] at hf
            refine jx_iload dX12_differ_123 rfl ?_
            refine jx_if_lt (tgt := 152) dX12_differ_125 (by decide) (fun c17 => ?_) (fun c17 => ?_)
            · rw [if_pos c17] at hf
              cases hf
              exact hJ14
            · rw [if_neg c17] at hf
              refine jx_aload_n dX12_differ_128 rfl ?_
              refine jx_getr dX12_differ_129 fl_X12_77 (kj_162 hE) sr_162_34 ?_
              refine jx_iload dX12_differ_132 rfl ?_
              refine jx_iconst (v := 3) dX12_differ_134 (by decide) ?_
              refine jx_iadd dX12_differ_135 ?_
              obtain ⟨c18, hf⟩ := jg_inv hf
              refine jx_iald dX12_differ_136 (kj_182 hE) (jin_vp c18) ?_
              refine jx_aload_n dX12_differ_137 rfl ?_
              refine jx_getr dX12_differ_138 fl_X12_77 (kj_162 hE) sr_162_34 ?_
              refine jx_iload dX12_differ_141 rfl ?_
              refine jx_iconst (v := 3) dX12_differ_143 (by decide) ?_
              refine jx_iadd dX12_differ_144 ?_
              obtain ⟨c19, hf⟩ := jg_inv hf
              refine jx_iald dX12_differ_145 (kj_182 hE) (jin_vp c19) ?_
              refine jx_icmp_eq (tgt := 152) dX12_differ_146 (by decide) (fun c20 => ?_) (fun c20 => ?_)
              · rw [if_pos c20] at hf
                cases hf
                exact hJ14
              · rw [if_neg c20] at hf
                obtain ⟨x21, hx21, hf⟩ := jl_inv hf
                refine jx_iinc (v := x21) (ls' := [(0, .ref (E.2.2.2 + 162)), (1, .int b1), (2, .int b2), (3, .int b3), (4, .int b4), (5, .int x21), (6, .int b6), (7, .int x3), (8, .int x5)]) dX12_differ_149 rfl (by rw [hx21]; rfl) (by decide) rfl ?_
                cases hf
                exact hJ14
        clear hf
        have hf := hqhJ11
        clear hqhJ11
        refine jx_if_ge (tgt := 119) dX12_differ_112 (by decide) (fun c9 => ?_) (fun c9 => ?_)
        · rw [if_pos c9] at hf
          refine jx_iconst (v := 0) dX12_differ_119 (by decide) ?_
          cases hf
          exact hJ11
        · rw [if_neg c9] at hf
          refine jx_iconst (v := 1) dX12_differ_115 (by decide) ?_
          refine jx_goto (tgt := 120) dX12_differ_116 (by decide) ?_
          cases hf
          exact hJ11
      clear hf
      have hf := hqhJ8
      clear hqhJ8
      refine jx_if_ge (tgt := 109) dX12_differ_102 (by decide) (fun c6 => ?_) (fun c6 => ?_)
      · rw [if_pos c6] at hf
        refine jx_iconst (v := 0) dX12_differ_109 (by decide) ?_
        cases hf
        exact hJ8
      · rw [if_neg c6] at hf
        refine jx_iconst (v := 1) dX12_differ_105 (by decide) ?_
        refine jx_goto (tgt := 110) dX12_differ_106 (by decide) ?_
        cases hf
        exact hJ8
def l_X12_differ_36 : Nat → Int32 → Int32 → Int32 → Int32 → Int32 → jw → Option (Int32 × jw)
  | 0, _, _, _, _, _, _ => none
  | n + 1, b1, b2, b3, b4, b5, w => (if 1000 ≤ b5 then jbd (f_X12_fillsThen b4 w) fun q23 => (l_X12_differ_76 jfu b1 b2 b3 b4 0 b1 q23) else jg (jin b5 1000) (jg (jin b5 1000) (jl (jsetX w 188 (Int32.toNatClampNeg b5) (w.2.1 187 (Int32.toNatClampNeg b5))) fun w26 => jl (b5 + 1) fun x27 => (l_X12_differ_36 n b1 b2 b3 b4 x27 w26))))
set_option maxRecDepth 20000 in
set_option maxHeartbeats 2000000 in
theorem sl_X12_differ_36 {E : jE} (hE : jfull E) : ∀ (n : Nat) (b1 : Int32) (b2 : Int32) (b3 : Int32) (b4 : Int32) (b5 : Int32) (w : jw) (v : Int32) (w' : jw), l_X12_differ_36 n b1 b2 b3 b4 b5 w = some (v, w') → jX E m_X12_differ 3 36 [(0, .ref (E.2.2.2 + 162)), (1, .int b1), (2, .int b2), (3, .int b3), (4, .int b4), (5, .int b5)] [] w (some (.int v)) w' := by
  intro n
  induction n with
  | zero => intro b1 b2 b3 b4 b5 w v w' hf; cases hf
  | succ n ih =>
    intro b1 b2 b3 b4 b5 w v w' hf
    unfold l_X12_differ_36 at hf
    refine jx_iload dX12_differ_36 rfl ?_
    refine jx_sipush (v := 1000) dX12_differ_38 (by decide) ?_
    refine jx_icmp_ge (tgt := 64) dX12_differ_41 (by decide) (fun c22 => ?_) (fun c22 => ?_)
    · rw [if_pos c22] at hf
      refine jx_aload_n dX12_differ_64 rfl ?_
      refine jx_iload dX12_differ_65 rfl ?_
      obtain ⟨q23, hq23, hf⟩ := jbd_inv hf
      refine jx_cVv (a := 162) (As := [.int b4]) (rest := []) dX12_differ_67 ml_X12_343 mv_X12_fillsThen (s_X12_fillsThen hE hq23) rfl rfl (jc_162 hE) (by decide) (Nat.le_of_ble_eq_true rfl) ?_
      refine jx_iconst (v := 0) dX12_differ_70 (by decide) ?_
      refine jx_istore (ls' := [(0, .ref (E.2.2.2 + 162)), (1, .int b1), (2, .int b2), (3, .int b3), (4, .int b4), (5, .int 0)]) dX12_differ_71 (by decide) rfl ?_
      refine jx_iload_n dX12_differ_73 rfl ?_
      refine jx_istore (ls' := [(0, .ref (E.2.2.2 + 162)), (1, .int b1), (2, .int b2), (3, .int b3), (4, .int b4), (5, .int 0), (6, .int b1)]) dX12_differ_74 (by decide) rfl ?_
      exact sl_X12_differ_76 hE jfu _ _ _ _ _ _ _ _ _ hf
    · rw [if_neg c22] at hf
      refine jx_aload_n dX12_differ_44 rfl ?_
      refine jx_getr dX12_differ_45 fl_X12_95 (kj_162 hE) sr_162_42 ?_
      refine jx_iload dX12_differ_48 rfl ?_
      refine jx_aload_n dX12_differ_50 rfl ?_
      refine jx_getr dX12_differ_51 fl_X12_92 (kj_162 hE) sr_162_41 ?_
      refine jx_iload dX12_differ_54 rfl ?_
      obtain ⟨c24, hf⟩ := jg_inv hf
      refine jx_iald dX12_differ_56 (kj_187 hE) (jin_vp c24) ?_
      obtain ⟨c25, hf⟩ := jg_inv hf
      refine jx_iast dX12_differ_57 (kj_188 hE) (jin_vp c25) ?_
      obtain ⟨w26, hw26, hf⟩ := jl_inv hf
      refine jx_nw hw26 ?_
      obtain ⟨x27, hx27, hf⟩ := jl_inv hf
      refine jx_iinc (v := x27) (ls' := [(0, .ref (E.2.2.2 + 162)), (1, .int b1), (2, .int b2), (3, .int b3), (4, .int b4), (5, .int x27)]) dX12_differ_58 rfl (by rw [hx27]; rfl) (by decide) rfl ?_
      refine jx_goto (tgt := 36) dX12_differ_61 (by decide) ?_
      exact ih _ _ _ _ _ _ _ _ hf
def f_X12_differ (a1 : Int32) (a2 : Int32) (a3 : Int32) (a4 : Int32) (w : jw) : Option (Int32 × jw) := jbd2 (f_X12_isRange a1 a2 w) fun x29 w30 => (if (jb x29) = 0 then some ((-1), w30) else jbd2 (f_X12_isTime a3 w30) fun x33 w34 => (if (jb x33) = 0 then some ((-1), w34) else jbd2 (f_X12_isTime a4 w34) fun x37 w38 => (if (jb x37) = 0 then some ((-1), w38) else jbd (f_X12_fillsThen a3 w38) fun q40 => (l_X12_differ_36 jfu a1 a2 a3 a4 0 q40))))
set_option maxRecDepth 20000 in
set_option maxHeartbeats 2000000 in
theorem s_X12_differ {E : jE} (hE : jfull E) {a1 : Int32} {a2 : Int32} {a3 : Int32} {a4 : Int32} {w w' : jw} {v : Int32} (hf : f_X12_differ a1 a2 a3 a4 w = some (v, w')) : jC E m_X12_differ 3 [.ref (E.2.2.2 + 162), .int a1, .int a2, .int a3, .int a4] w (some (.int v)) w' := by
  refine jC_of (ls := [(0, .ref (E.2.2.2 + 162)), (1, .int a1), (2, .int a2), (3, .int a3), (4, .int a4)]) (by decide) rfl (fun _ => trivial) (Nat.le_of_ble_eq_true rfl) rfl ⟨.int, rfl, rfl⟩ ?_
  unfold f_X12_differ at hf
  refine jx_aload_n dX12_differ_0 rfl ?_
  refine jx_iload_n dX12_differ_1 rfl ?_
  refine jx_iload_n dX12_differ_2 rfl ?_
  obtain ⟨x29, w30, hq28, hf⟩ := jbd2_inv hf
  refine jx_cVi (a := 162) (As := [.int a1, .int a2]) (rest := []) dX12_differ_3 ml_X12_340 mv_X12_isRange (s_X12_isRange hE hq28) rfl rfl (jc_162 hE) (by decide) (Nat.le_of_ble_eq_true rfl) ?_
  refine jx_if_eq (tgt := 26) dX12_differ_6 (by decide) (fun c31 => ?_) (fun c31 => ?_)
  · rw [if_pos c31] at hf
    refine jx_iconst (v := (-1)) dX12_differ_26 (by decide) ?_
    cases hf
    exact jx_iret dX12_differ_27 rfl rfl
  · rw [if_neg c31] at hf
    refine jx_aload_n dX12_differ_9 rfl ?_
    refine jx_iload_n dX12_differ_10 rfl ?_
    obtain ⟨x33, w34, hq32, hf⟩ := jbd2_inv hf
    refine jx_cVi (a := 162) (As := [.int a3]) (rest := []) dX12_differ_11 ml_X12_334 mv_X12_isTime (s_X12_isTime hE hq32) rfl rfl (jc_162 hE) (by decide) (Nat.le_of_ble_eq_true rfl) ?_
    refine jx_if_eq (tgt := 26) dX12_differ_14 (by decide) (fun c35 => ?_) (fun c35 => ?_)
    · rw [if_pos c35] at hf
      refine jx_iconst (v := (-1)) dX12_differ_26 (by decide) ?_
      cases hf
      exact jx_iret dX12_differ_27 rfl rfl
    · rw [if_neg c35] at hf
      refine jx_aload_n dX12_differ_17 rfl ?_
      refine jx_iload dX12_differ_18 rfl ?_
      obtain ⟨x37, w38, hq36, hf⟩ := jbd2_inv hf
      refine jx_cVi (a := 162) (As := [.int a4]) (rest := []) dX12_differ_20 ml_X12_334 mv_X12_isTime (s_X12_isTime hE hq36) rfl rfl (jc_162 hE) (by decide) (Nat.le_of_ble_eq_true rfl) ?_
      refine jx_if_ne (tgt := 28) dX12_differ_23 (by decide) (fun c39 => ?_) (fun c39 => ?_)
      · rw [if_neg c39] at hf
        refine jx_aload_n dX12_differ_28 rfl ?_
        refine jx_iload_n dX12_differ_29 rfl ?_
        obtain ⟨q40, hq40, hf⟩ := jbd_inv hf
        refine jx_cVv (a := 162) (As := [.int a3]) (rest := []) dX12_differ_30 ml_X12_343 mv_X12_fillsThen (s_X12_fillsThen hE hq40) rfl rfl (jc_162 hE) (by decide) (Nat.le_of_ble_eq_true rfl) ?_
        refine jx_iconst (v := 0) dX12_differ_33 (by decide) ?_
        refine jx_istore (ls' := [(0, .ref (E.2.2.2 + 162)), (1, .int a1), (2, .int a2), (3, .int a3), (4, .int a4), (5, .int 0)]) dX12_differ_34 (by decide) rfl ?_
        exact sl_X12_differ_36 hE jfu _ _ _ _ _ _ _ _ hf
      · rw [if_pos c39] at hf
        refine jx_iconst (v := (-1)) dX12_differ_26 (by decide) ?_
        cases hf
        exact jx_iret dX12_differ_27 rfl rfl
def f_X12_areTimes (a1 : Int32) (a2 : Int32) (w : jw) : Option (Bool × jw) := jbd2 (f_X12_isTime a1 w) fun x2 w3 => (if (jb x2) = 0 then some (false, w3) else jbd2 (f_X12_isTime a2 w3) fun x6 w7 => (if (jb x6) = 0 then some (false, w7) else (if a2 < a1 then some (false, w7) else some (true, w7))))
set_option maxRecDepth 20000 in
set_option maxHeartbeats 2000000 in
theorem s_X12_areTimes {E : jE} (hE : jfull E) {a1 : Int32} {a2 : Int32} {w w' : jw} {v : Bool} (hf : f_X12_areTimes a1 a2 w = some (v, w')) : jC E m_X12_areTimes 2 [.ref (E.2.2.2 + 162), .int a1, .int a2] w (some (.int (jb v))) w' := by
  refine jC_of (ls := [(0, .ref (E.2.2.2 + 162)), (1, .int a1), (2, .int a2)]) (by decide) rfl (fun _ => trivial) (Nat.le_of_ble_eq_true rfl) rfl jb_ans ?_
  unfold f_X12_areTimes at hf
  refine jx_aload_n dX12_areTimes_0 rfl ?_
  refine jx_iload_n dX12_areTimes_1 rfl ?_
  obtain ⟨x2, w3, hq1, hf⟩ := jbd2_inv hf
  refine jx_cVi (a := 162) (As := [.int a1]) (rest := []) dX12_areTimes_2 ml_X12_334 mv_X12_isTime (s_X12_isTime hE hq1) rfl rfl (jc_162 hE) (by decide) (Nat.le_of_ble_eq_true rfl) ?_
  refine jx_if_eq (tgt := 25) dX12_areTimes_5 (by decide) (fun c4 => ?_) (fun c4 => ?_)
  · rw [if_pos c4] at hf
    refine jx_iconst (v := 0) dX12_areTimes_25 (by decide) ?_
    cases hf
    exact jx_iret dX12_areTimes_26 rfl rfl
  · rw [if_neg c4] at hf
    refine jx_aload_n dX12_areTimes_8 rfl ?_
    refine jx_iload_n dX12_areTimes_9 rfl ?_
    obtain ⟨x6, w7, hq5, hf⟩ := jbd2_inv hf
    refine jx_cVi (a := 162) (As := [.int a2]) (rest := []) dX12_areTimes_10 ml_X12_334 mv_X12_isTime (s_X12_isTime hE hq5) rfl rfl (jc_162 hE) (by decide) (Nat.le_of_ble_eq_true rfl) ?_
    refine jx_if_eq (tgt := 25) dX12_areTimes_13 (by decide) (fun c8 => ?_) (fun c8 => ?_)
    · rw [if_pos c8] at hf
      refine jx_iconst (v := 0) dX12_areTimes_25 (by decide) ?_
      cases hf
      exact jx_iret dX12_areTimes_26 rfl rfl
    · rw [if_neg c8] at hf
      refine jx_iload_n dX12_areTimes_16 rfl ?_
      refine jx_iload_n dX12_areTimes_17 rfl ?_
      refine jx_icmp_lt (tgt := 25) dX12_areTimes_18 (by decide) (fun c9 => ?_) (fun c9 => ?_)
      · rw [if_pos c9] at hf
        refine jx_iconst (v := 0) dX12_areTimes_25 (by decide) ?_
        cases hf
        exact jx_iret dX12_areTimes_26 rfl rfl
      · rw [if_neg c9] at hf
        refine jx_iconst (v := 1) dX12_areTimes_21 (by decide) ?_
        refine jx_goto (tgt := 26) dX12_areTimes_22 (by decide) ?_
        cases hf
        exact jx_iret dX12_areTimes_26 rfl rfl
def l_X12_ever_135 : Nat → Int32 → Int32 → Int32 → Int32 → Int32 → Int32 → jw → Option (Int32 × jw)
  | 0, _, _, _, _, _, _, _ => none
  | n + 1, b1, b2, b3, b4, b5, b6, w => (if b2 < b6 then some (b5, w) else jg (jin b6 1000) ((if (w.2.1 187 (Int32.toNatClampNeg b6)) < 0 then jl (b6 + 1) fun x4 => (l_X12_ever_135 n b1 b2 b3 b4 b5 x4 w) else jl (b5 + 1) fun x5 => jl (b6 + 1) fun x6 => (l_X12_ever_135 n b1 b2 b3 b4 x5 x6 w))))
set_option maxRecDepth 20000 in
set_option maxHeartbeats 2000000 in
theorem sl_X12_ever_135 {E : jE} (hE : jfull E) : ∀ (n : Nat) (b1 : Int32) (b2 : Int32) (b3 : Int32) (b4 : Int32) (b5 : Int32) (b6 : Int32) (w : jw) (v : Int32) (w' : jw), l_X12_ever_135 n b1 b2 b3 b4 b5 b6 w = some (v, w') → jX E m_X12_ever 3 135 [(0, .ref (E.2.2.2 + 162)), (1, .int b1), (2, .int b2), (3, .int b3), (4, .int b4), (5, .int b5), (6, .int b6)] [] w (some (.int v)) w' := by
  intro n
  induction n with
  | zero => intro b1 b2 b3 b4 b5 b6 w v w' hf; cases hf
  | succ n ih =>
    intro b1 b2 b3 b4 b5 b6 w v w' hf
    unfold l_X12_ever_135 at hf
    refine jx_iload dX12_ever_135 rfl ?_
    refine jx_iload_n dX12_ever_137 rfl ?_
    refine jx_icmp_gt (tgt := 160) dX12_ever_138 (by decide) (fun c1 => ?_) (fun c1 => ?_)
    · rw [if_pos c1] at hf
      refine jx_iload dX12_ever_160 rfl ?_
      cases hf
      exact jx_iret dX12_ever_162 rfl rfl
    · rw [if_neg c1] at hf
      refine jx_aload_n dX12_ever_141 rfl ?_
      refine jx_getr dX12_ever_142 fl_X12_92 (kj_162 hE) sr_162_41 ?_
      refine jx_iload dX12_ever_145 rfl ?_
      obtain ⟨c2, hf⟩ := jg_inv hf
      refine jx_iald dX12_ever_147 (kj_187 hE) (jin_vp c2) ?_
      refine jx_if_lt (tgt := 154) dX12_ever_148 (by decide) (fun c3 => ?_) (fun c3 => ?_)
      · rw [if_pos c3] at hf
        obtain ⟨x4, hx4, hf⟩ := jl_inv hf
        refine jx_iinc (v := x4) (ls' := [(0, .ref (E.2.2.2 + 162)), (1, .int b1), (2, .int b2), (3, .int b3), (4, .int b4), (5, .int b5), (6, .int x4)]) dX12_ever_154 rfl (by rw [hx4]; rfl) (by decide) rfl ?_
        refine jx_goto (tgt := 135) dX12_ever_157 (by decide) ?_
        exact ih _ _ _ _ _ _ _ _ _ hf
      · rw [if_neg c3] at hf
        obtain ⟨x5, hx5, hf⟩ := jl_inv hf
        refine jx_iinc (v := x5) (ls' := [(0, .ref (E.2.2.2 + 162)), (1, .int b1), (2, .int b2), (3, .int b3), (4, .int b4), (5, .int x5), (6, .int b6)]) dX12_ever_151 rfl (by rw [hx5]; rfl) (by decide) rfl ?_
        obtain ⟨x6, hx6, hf⟩ := jl_inv hf
        refine jx_iinc (v := x6) (ls' := [(0, .ref (E.2.2.2 + 162)), (1, .int b1), (2, .int b2), (3, .int b3), (4, .int b4), (5, .int x5), (6, .int x6)]) dX12_ever_154 rfl (by rw [hx6]; rfl) (by decide) rfl ?_
        refine jx_goto (tgt := 135) dX12_ever_157 (by decide) ?_
        exact ih _ _ _ _ _ _ _ _ _ hf
def l_X12_ever_51 : Nat → Int32 → Int32 → Int32 → Int32 → Int32 → jw → Option (Int32 × jw)
  | 0, _, _, _, _, _, _ => none
  | n + 1, b1, b2, b3, b4, b5, w => jg (jin 4 34700) ((if (18100 + (4 * (w.2.1 182 (Int32.toNatClampNeg 4)))) ≤ b5 then (l_X12_ever_135 jfu b1 b2 b3 b4 0 b1 w) else jg (jin (b5 + 1) 34700) ((if b4 < (w.2.1 182 (Int32.toNatClampNeg (b5 + 1))) then jl (b5 + 4) fun x11 => (l_X12_ever_51 n b1 b2 b3 b4 x11 w) else jg (jin (b5 + 2) 34700) ((if (w.2.1 182 (Int32.toNatClampNeg (b5 + 2))) = (-2) then jg (jin b5 34700) (jg (jin (w.2.1 182 (Int32.toNatClampNeg b5)) 1000) (jl (jsetX w 187 (Int32.toNatClampNeg (w.2.1 182 (Int32.toNatClampNeg b5))) b5) fun w16 => jl (b5 + 4) fun x17 => (l_X12_ever_51 n b1 b2 b3 b4 x17 w16))) else jg (jin (b5 + 2) 34700) ((if (w.2.1 182 (Int32.toNatClampNeg (b5 + 2))) ≤ b3 then jl (b5 + 4) fun x20 => (l_X12_ever_51 n b1 b2 b3 b4 x20 w) else jg (jin b5 34700) (jg (jin (w.2.1 182 (Int32.toNatClampNeg b5)) 1000) (jl (jsetX w 187 (Int32.toNatClampNeg (w.2.1 182 (Int32.toNatClampNeg b5))) b5) fun w23 => jl (b5 + 4) fun x24 => (l_X12_ever_51 n b1 b2 b3 b4 x24 w23)))))))))))
set_option maxRecDepth 20000 in
set_option maxHeartbeats 2000000 in
theorem sl_X12_ever_51 {E : jE} (hE : jfull E) : ∀ (n : Nat) (b1 : Int32) (b2 : Int32) (b3 : Int32) (b4 : Int32) (b5 : Int32) (w : jw) (v : Int32) (w' : jw), l_X12_ever_51 n b1 b2 b3 b4 b5 w = some (v, w') → jX E m_X12_ever 3 51 [(0, .ref (E.2.2.2 + 162)), (1, .int b1), (2, .int b2), (3, .int b3), (4, .int b4), (5, .int b5)] [] w (some (.int v)) w' := by
  intro n
  induction n with
  | zero => intro b1 b2 b3 b4 b5 w v w' hf; cases hf
  | succ n ih =>
    intro b1 b2 b3 b4 b5 w v w' hf
    unfold l_X12_ever_51 at hf
    refine jx_iload dX12_ever_51 rfl ?_
    refine jx_sipush (v := 18100) dX12_ever_53 (by decide) ?_
    refine jx_iconst (v := 4) dX12_ever_56 (by decide) ?_
    refine jx_aload_n dX12_ever_57 rfl ?_
    refine jx_getr dX12_ever_58 fl_X12_77 (kj_162 hE) sr_162_34 ?_
    refine jx_iconst (v := 4) dX12_ever_61 (by decide) ?_
    obtain ⟨c7, hf⟩ := jg_inv hf
    refine jx_iald dX12_ever_62 (kj_182 hE) (jin_vp c7) ?_
    refine jx_imul dX12_ever_63 ?_
    refine jx_iadd dX12_ever_64 ?_
    refine jx_icmp_ge (tgt := 129) dX12_ever_65 (by decide) (fun c8 => ?_) (fun c8 => ?_)
    · rw [if_pos c8] at hf
      refine jx_iconst (v := 0) dX12_ever_129 (by decide) ?_
      refine jx_istore (ls' := [(0, .ref (E.2.2.2 + 162)), (1, .int b1), (2, .int b2), (3, .int b3), (4, .int b4), (5, .int 0)]) dX12_ever_130 (by decide) rfl ?_
      refine jx_iload_n dX12_ever_132 rfl ?_
      refine jx_istore (ls' := [(0, .ref (E.2.2.2 + 162)), (1, .int b1), (2, .int b2), (3, .int b3), (4, .int b4), (5, .int 0), (6, .int b1)]) dX12_ever_133 (by decide) rfl ?_
      exact sl_X12_ever_135 hE jfu _ _ _ _ _ _ _ _ _ hf
    · rw [if_neg c8] at hf
      refine jx_aload_n dX12_ever_68 rfl ?_
      refine jx_getr dX12_ever_69 fl_X12_77 (kj_162 hE) sr_162_34 ?_
      refine jx_iload dX12_ever_72 rfl ?_
      refine jx_iconst (v := 1) dX12_ever_74 (by decide) ?_
      refine jx_iadd dX12_ever_75 ?_
      obtain ⟨c9, hf⟩ := jg_inv hf
      refine jx_iald dX12_ever_76 (kj_182 hE) (jin_vp c9) ?_
      refine jx_iload dX12_ever_77 rfl ?_
      refine jx_icmp_gt (tgt := 123) dX12_ever_79 (by decide) (fun c10 => ?_) (fun c10 => ?_)
      · rw [if_pos c10] at hf
        obtain ⟨x11, hx11, hf⟩ := jl_inv hf
        refine jx_iinc (v := x11) (ls' := [(0, .ref (E.2.2.2 + 162)), (1, .int b1), (2, .int b2), (3, .int b3), (4, .int b4), (5, .int x11)]) dX12_ever_123 rfl (by rw [hx11]; rfl) (by decide) rfl ?_
        refine jx_goto (tgt := 51) dX12_ever_126 (by decide) ?_
        exact ih _ _ _ _ _ _ _ _ hf
      · rw [if_neg c10] at hf
        refine jx_aload_n dX12_ever_82 rfl ?_
        refine jx_getr dX12_ever_83 fl_X12_77 (kj_162 hE) sr_162_34 ?_
        refine jx_iload dX12_ever_86 rfl ?_
        refine jx_iconst (v := 2) dX12_ever_88 (by decide) ?_
        refine jx_iadd dX12_ever_89 ?_
        obtain ⟨c12, hf⟩ := jg_inv hf
        refine jx_iald dX12_ever_90 (kj_182 hE) (jin_vp c12) ?_
        refine jx_bipush (v := (-2)) dX12_ever_91 (by decide) ?_
        refine jx_icmp_eq (tgt := 109) dX12_ever_93 (by decide) (fun c13 => ?_) (fun c13 => ?_)
        · rw [if_pos c13] at hf
          refine jx_aload_n dX12_ever_109 rfl ?_
          refine jx_getr dX12_ever_110 fl_X12_92 (kj_162 hE) sr_162_41 ?_
          refine jx_aload_n dX12_ever_113 rfl ?_
          refine jx_getr dX12_ever_114 fl_X12_77 (kj_162 hE) sr_162_34 ?_
          refine jx_iload dX12_ever_117 rfl ?_
          obtain ⟨c14, hf⟩ := jg_inv hf
          refine jx_iald dX12_ever_119 (kj_182 hE) (jin_vp c14) ?_
          refine jx_iload dX12_ever_120 rfl ?_
          obtain ⟨c15, hf⟩ := jg_inv hf
          refine jx_iast dX12_ever_122 (kj_187 hE) (jin_vp c15) ?_
          obtain ⟨w16, hw16, hf⟩ := jl_inv hf
          refine jx_nw hw16 ?_
          obtain ⟨x17, hx17, hf⟩ := jl_inv hf
          refine jx_iinc (v := x17) (ls' := [(0, .ref (E.2.2.2 + 162)), (1, .int b1), (2, .int b2), (3, .int b3), (4, .int b4), (5, .int x17)]) dX12_ever_123 rfl (by rw [hx17]; rfl) (by decide) rfl ?_
          refine jx_goto (tgt := 51) dX12_ever_126 (by decide) ?_
          exact ih _ _ _ _ _ _ _ _ hf
        · rw [if_neg c13] at hf
          refine jx_aload_n dX12_ever_96 rfl ?_
          refine jx_getr dX12_ever_97 fl_X12_77 (kj_162 hE) sr_162_34 ?_
          refine jx_iload dX12_ever_100 rfl ?_
          refine jx_iconst (v := 2) dX12_ever_102 (by decide) ?_
          refine jx_iadd dX12_ever_103 ?_
          obtain ⟨c18, hf⟩ := jg_inv hf
          refine jx_iald dX12_ever_104 (kj_182 hE) (jin_vp c18) ?_
          refine jx_iload_n dX12_ever_105 rfl ?_
          refine jx_icmp_le (tgt := 123) dX12_ever_106 (by decide) (fun c19 => ?_) (fun c19 => ?_)
          · rw [if_pos c19] at hf
            obtain ⟨x20, hx20, hf⟩ := jl_inv hf
            refine jx_iinc (v := x20) (ls' := [(0, .ref (E.2.2.2 + 162)), (1, .int b1), (2, .int b2), (3, .int b3), (4, .int b4), (5, .int x20)]) dX12_ever_123 rfl (by rw [hx20]; rfl) (by decide) rfl ?_
            refine jx_goto (tgt := 51) dX12_ever_126 (by decide) ?_
            exact ih _ _ _ _ _ _ _ _ hf
          · rw [if_neg c19] at hf
            refine jx_aload_n dX12_ever_109 rfl ?_
            refine jx_getr dX12_ever_110 fl_X12_92 (kj_162 hE) sr_162_41 ?_
            refine jx_aload_n dX12_ever_113 rfl ?_
            refine jx_getr dX12_ever_114 fl_X12_77 (kj_162 hE) sr_162_34 ?_
            refine jx_iload dX12_ever_117 rfl ?_
            obtain ⟨c21, hf⟩ := jg_inv hf
            refine jx_iald dX12_ever_119 (kj_182 hE) (jin_vp c21) ?_
            refine jx_iload dX12_ever_120 rfl ?_
            obtain ⟨c22, hf⟩ := jg_inv hf
            refine jx_iast dX12_ever_122 (kj_187 hE) (jin_vp c22) ?_
            obtain ⟨w23, hw23, hf⟩ := jl_inv hf
            refine jx_nw hw23 ?_
            obtain ⟨x24, hx24, hf⟩ := jl_inv hf
            refine jx_iinc (v := x24) (ls' := [(0, .ref (E.2.2.2 + 162)), (1, .int b1), (2, .int b2), (3, .int b3), (4, .int b4), (5, .int x24)]) dX12_ever_123 rfl (by rw [hx24]; rfl) (by decide) rfl ?_
            refine jx_goto (tgt := 51) dX12_ever_126 (by decide) ?_
            exact ih _ _ _ _ _ _ _ _ hf
def l_X12_ever_24 : Nat → Int32 → Int32 → Int32 → Int32 → Int32 → jw → Option (Int32 × jw)
  | 0, _, _, _, _, _, _ => none
  | n + 1, b1, b2, b3, b4, b5, w => (if 1000 ≤ b5 then (l_X12_ever_51 jfu b1 b2 b3 b4 18100 w) else jg (jin b5 1000) (jl (jsetX w 187 (Int32.toNatClampNeg b5) (-1)) fun w27 => jl (b5 + 1) fun x28 => (l_X12_ever_24 n b1 b2 b3 b4 x28 w27)))
set_option maxRecDepth 20000 in
set_option maxHeartbeats 2000000 in
theorem sl_X12_ever_24 {E : jE} (hE : jfull E) : ∀ (n : Nat) (b1 : Int32) (b2 : Int32) (b3 : Int32) (b4 : Int32) (b5 : Int32) (w : jw) (v : Int32) (w' : jw), l_X12_ever_24 n b1 b2 b3 b4 b5 w = some (v, w') → jX E m_X12_ever 3 24 [(0, .ref (E.2.2.2 + 162)), (1, .int b1), (2, .int b2), (3, .int b3), (4, .int b4), (5, .int b5)] [] w (some (.int v)) w' := by
  intro n
  induction n with
  | zero => intro b1 b2 b3 b4 b5 w v w' hf; cases hf
  | succ n ih =>
    intro b1 b2 b3 b4 b5 w v w' hf
    unfold l_X12_ever_24 at hf
    refine jx_iload dX12_ever_24 rfl ?_
    refine jx_sipush (v := 1000) dX12_ever_26 (by decide) ?_
    refine jx_icmp_ge (tgt := 46) dX12_ever_29 (by decide) (fun c25 => ?_) (fun c25 => ?_)
    · rw [if_pos c25] at hf
      refine jx_sipush (v := 18100) dX12_ever_46 (by decide) ?_
      refine jx_istore (ls' := [(0, .ref (E.2.2.2 + 162)), (1, .int b1), (2, .int b2), (3, .int b3), (4, .int b4), (5, .int 18100)]) dX12_ever_49 (by decide) rfl ?_
      exact sl_X12_ever_51 hE jfu _ _ _ _ _ _ _ _ hf
    · rw [if_neg c25] at hf
      refine jx_aload_n dX12_ever_32 rfl ?_
      refine jx_getr dX12_ever_33 fl_X12_92 (kj_162 hE) sr_162_41 ?_
      refine jx_iload dX12_ever_36 rfl ?_
      refine jx_iconst (v := (-1)) dX12_ever_38 (by decide) ?_
      obtain ⟨c26, hf⟩ := jg_inv hf
      refine jx_iast dX12_ever_39 (kj_187 hE) (jin_vp c26) ?_
      obtain ⟨w27, hw27, hf⟩ := jl_inv hf
      refine jx_nw hw27 ?_
      obtain ⟨x28, hx28, hf⟩ := jl_inv hf
      refine jx_iinc (v := x28) (ls' := [(0, .ref (E.2.2.2 + 162)), (1, .int b1), (2, .int b2), (3, .int b3), (4, .int b4), (5, .int x28)]) dX12_ever_40 rfl (by rw [hx28]; rfl) (by decide) rfl ?_
      refine jx_goto (tgt := 24) dX12_ever_43 (by decide) ?_
      exact ih _ _ _ _ _ _ _ _ hf
def f_X12_ever (a1 : Int32) (a2 : Int32) (a3 : Int32) (a4 : Int32) (w : jw) : Option (Int32 × jw) := jbd2 (f_X12_isRange a1 a2 w) fun x30 w31 => (if (jb x30) = 0 then some ((-1), w31) else jbd2 (f_X12_areTimes a3 a4 w31) fun x34 w35 => (if (jb x34) = 0 then some ((-1), w35) else (l_X12_ever_24 jfu a1 a2 a3 a4 0 w35)))
set_option maxRecDepth 20000 in
set_option maxHeartbeats 2000000 in
theorem s_X12_ever {E : jE} (hE : jfull E) {a1 : Int32} {a2 : Int32} {a3 : Int32} {a4 : Int32} {w w' : jw} {v : Int32} (hf : f_X12_ever a1 a2 a3 a4 w = some (v, w')) : jC E m_X12_ever 3 [.ref (E.2.2.2 + 162), .int a1, .int a2, .int a3, .int a4] w (some (.int v)) w' := by
  refine jC_of (ls := [(0, .ref (E.2.2.2 + 162)), (1, .int a1), (2, .int a2), (3, .int a3), (4, .int a4)]) (by decide) rfl (fun _ => trivial) (Nat.le_of_ble_eq_true rfl) rfl ⟨.int, rfl, rfl⟩ ?_
  unfold f_X12_ever at hf
  refine jx_aload_n dX12_ever_0 rfl ?_
  refine jx_iload_n dX12_ever_1 rfl ?_
  refine jx_iload_n dX12_ever_2 rfl ?_
  obtain ⟨x30, w31, hq29, hf⟩ := jbd2_inv hf
  refine jx_cVi (a := 162) (As := [.int a1, .int a2]) (rest := []) dX12_ever_3 ml_X12_340 mv_X12_isRange (s_X12_isRange hE hq29) rfl rfl (jc_162 hE) (by decide) (Nat.le_of_ble_eq_true rfl) ?_
  refine jx_if_eq (tgt := 19) dX12_ever_6 (by decide) (fun c32 => ?_) (fun c32 => ?_)
  · rw [if_pos c32] at hf
    refine jx_iconst (v := (-1)) dX12_ever_19 (by decide) ?_
    cases hf
    exact jx_iret dX12_ever_20 rfl rfl
  · rw [if_neg c32] at hf
    refine jx_aload_n dX12_ever_9 rfl ?_
    refine jx_iload_n dX12_ever_10 rfl ?_
    refine jx_iload dX12_ever_11 rfl ?_
    obtain ⟨x34, w35, hq33, hf⟩ := jbd2_inv hf
    refine jx_cVi (a := 162) (As := [.int a3, .int a4]) (rest := []) dX12_ever_13 ml_X12_346 mv_X12_areTimes (s_X12_areTimes hE hq33) rfl rfl (jc_162 hE) (by decide) (Nat.le_of_ble_eq_true rfl) ?_
    refine jx_if_ne (tgt := 21) dX12_ever_16 (by decide) (fun c36 => ?_) (fun c36 => ?_)
    · rw [if_neg c36] at hf
      refine jx_iconst (v := 0) dX12_ever_21 (by decide) ?_
      refine jx_istore (ls' := [(0, .ref (E.2.2.2 + 162)), (1, .int a1), (2, .int a2), (3, .int a3), (4, .int a4), (5, .int 0)]) dX12_ever_22 (by decide) rfl ?_
      exact sl_X12_ever_24 hE jfu _ _ _ _ _ _ _ _ hf
    · rw [if_pos c36] at hf
      refine jx_iconst (v := (-1)) dX12_ever_19 (by decide) ?_
      cases hf
      exact jx_iret dX12_ever_20 rfl rfl
def l_X12_stay : Nat → Int32 → Int32 → Int32 → Int32 → Int32 → jw → Option (Int32 × jw)
  | 0, _, _, _, _, _, _ => none
  | n + 1, b1, b2, b3, b4, b5, w => jg (jin 4 34700) ((if (18100 + (4 * (w.2.1 182 (Int32.toNatClampNeg 4)))) ≤ b5 then some (b4, w) else jg (jin b5 34700) (jbd (if (w.2.1 182 (Int32.toNatClampNeg b5)) = b1 then jg (jin (b5 + 1) 34700) (jbd (if (w.2.1 182 (Int32.toNatClampNeg (b5 + 1))) ≤ b2 then some b2 else jg (jin (b5 + 1) 34700) (some (w.2.1 182 (Int32.toNatClampNeg (b5 + 1))))) fun x10 => jg (jin (b5 + 2) 34700) (jbd (if (w.2.1 182 (Int32.toNatClampNeg (b5 + 2))) = (-2) then some (b3 + 1) else jg (jin (b5 + 2) 34700) ((if (w.2.1 182 (Int32.toNatClampNeg (b5 + 2))) ≤ b3 then jg (jin (b5 + 2) 34700) (some (w.2.1 182 (Int32.toNatClampNeg (b5 + 2)))) else some (b3 + 1)))) fun x14 => (if x14 ≤ x10 then some b4 else jl (b4 + (x14 - x10) : Int32) fun x17 => some x17))) else some b4) fun x5 => jl (b5 + 4) fun x7 => (l_X12_stay n b1 b2 b3 x5 x7 w))))
set_option maxRecDepth 20000 in
set_option maxHeartbeats 2000000 in
theorem sl_X12_stay {E : jE} (hE : jfull E) : ∀ (n : Nat) (b1 : Int32) (b2 : Int32) (b3 : Int32) (b4 : Int32) (b5 : Int32) (w : jw) (v : Int32) (w' : jw), l_X12_stay n b1 b2 b3 b4 b5 w = some (v, w') → jX E m_X12_stay 3 26 [(0, .ref (E.2.2.2 + 162)), (1, .int b1), (2, .int b2), (3, .int b3), (4, .int b4), (5, .int b5)] [] w (some (.int v)) w' := by
  intro n
  induction n with
  | zero => intro b1 b2 b3 b4 b5 w v w' hf; cases hf
  | succ n ih =>
    intro b1 b2 b3 b4 b5 w v w' hf
    unfold l_X12_stay at hf
    refine jx_iload dX12_stay_26 rfl ?_
    refine jx_sipush (v := 18100) dX12_stay_28 (by decide) ?_
    refine jx_iconst (v := 4) dX12_stay_31 (by decide) ?_
    refine jx_aload_n dX12_stay_32 rfl ?_
    refine jx_getr dX12_stay_33 fl_X12_77 (kj_162 hE) sr_162_34 ?_
    refine jx_iconst (v := 4) dX12_stay_36 (by decide) ?_
    obtain ⟨c1, hf⟩ := jg_inv hf
    refine jx_iald dX12_stay_37 (kj_182 hE) (jin_vp c1) ?_
    refine jx_imul dX12_stay_38 ?_
    refine jx_iadd dX12_stay_39 ?_
    refine jx_icmp_ge (tgt := 152) dX12_stay_40 (by decide) (fun c2 => ?_) (fun c2 => ?_)
    · rw [if_pos c2] at hf
      refine jx_iload dX12_stay_152 rfl ?_
      cases hf
      exact jx_iret dX12_stay_154 rfl rfl
    · rw [if_neg c2] at hf
      refine jx_aload_n dX12_stay_43 rfl ?_
      refine jx_getr dX12_stay_44 fl_X12_77 (kj_162 hE) sr_162_34 ?_
      refine jx_iload dX12_stay_47 rfl ?_
      obtain ⟨c3, hf⟩ := jg_inv hf
      refine jx_iald dX12_stay_49 (kj_182 hE) (jin_vp c3) ?_
      refine jx_iload_n dX12_stay_50 rfl ?_
      obtain ⟨x5, hqhJ6, hf⟩ := jbd_inv hf
      have hJ6 : jX E m_X12_stay 3 146 [(0, .ref (E.2.2.2 + 162)), (1, .int b1), (2, .int b2), (3, .int b3), (4, .int x5), (5, .int b5)] [] w (some (.int v)) w' := by
        obtain ⟨x7, hx7, hf⟩ := jl_inv hf
        refine jx_iinc (v := x7) (ls' := [(0, .ref (E.2.2.2 + 162)), (1, .int b1), (2, .int b2), (3, .int b3), (4, .int x5), (5, .int x7)]) dX12_stay_146 rfl (by rw [hx7]; rfl) (by decide) rfl ?_
        refine jx_goto (tgt := 26) dX12_stay_149 (by decide) ?_
        exact ih _ _ _ _ _ _ _ _ hf
      clear hf
      have hf := hqhJ6
      clear hqhJ6
      refine jx_icmp_eq (tgt := 57) dX12_stay_51 (by decide) (fun c4 => ?_) (fun c4 => ?_)
      · rw [if_pos c4] at hf
        refine jx_aload_n dX12_stay_57 rfl ?_
        refine jx_getr dX12_stay_58 fl_X12_77 (kj_162 hE) sr_162_34 ?_
        refine jx_iload dX12_stay_61 rfl ?_
        refine jx_iconst (v := 1) dX12_stay_63 (by decide) ?_
        refine jx_iadd dX12_stay_64 ?_
        obtain ⟨c8, hf⟩ := jg_inv hf
        refine jx_iald dX12_stay_65 (kj_182 hE) (jin_vp c8) ?_
        refine jx_iload_n dX12_stay_66 rfl ?_
        obtain ⟨x10, hqhJ11, hf⟩ := jbd_inv hf
        have hJ11 : jX E m_X12_stay 3 83 [(0, .ref (E.2.2.2 + 162)), (1, .int b1), (2, .int b2), (3, .int b3), (4, .int b4), (5, .int b5)] [.int x10] w (some (.int v)) w' := by
          refine jx_istore (ls' := [(0, .ref (E.2.2.2 + 162)), (1, .int b1), (2, .int b2), (3, .int b3), (4, .int b4), (5, .int b5), (6, .int x10)]) dX12_stay_83 (by decide) rfl ?_
          refine jx_aload_n dX12_stay_85 rfl ?_
          refine jx_getr dX12_stay_86 fl_X12_77 (kj_162 hE) sr_162_34 ?_
          refine jx_iload dX12_stay_89 rfl ?_
          refine jx_iconst (v := 2) dX12_stay_91 (by decide) ?_
          refine jx_iadd dX12_stay_92 ?_
          obtain ⟨c12, hf⟩ := jg_inv hf
          refine jx_iald dX12_stay_93 (kj_182 hE) (jin_vp c12) ?_
          refine jx_bipush (v := (-2)) dX12_stay_94 (by decide) ?_
          obtain ⟨x14, hqhJ15, hf⟩ := jbd_inv hf
          have hJ15 : jX E m_X12_stay 3 127 [(0, .ref (E.2.2.2 + 162)), (1, .int b1), (2, .int b2), (3, .int b3), (4, .int b4), (5, .int b5), (6, .int x10)] [.int x14] w (some (.int v)) w' := by
            refine jx_istore (ls' := [(0, .ref (E.2.2.2 + 162)), (1, .int b1), (2, .int b2), (3, .int b3), (4, .int b4), (5, .int b5), (6, .int x10), (7, .int x14)]) dX12_stay_127 (by decide) rfl ?_
            refine jx_iload dX12_stay_129 rfl ?_
            refine jx_iload dX12_stay_131 rfl ?_
            refine jx_icmp_le (tgt := 146) dX12_stay_133 (by decide) (fun c16 => ?_) (fun c16 => ?_)
            · rw [if_pos c16] at hf
              refine jx_pick [0, 1, 2, 3, 4, 5] rfl ?_
              cases hf
              exact hJ6
            · rw [if_neg c16] at hf
              refine jx_iload dX12_stay_136 rfl ?_
              refine jx_iload dX12_stay_138 rfl ?_
              refine jx_iload dX12_stay_140 rfl ?_
              refine jx_isub dX12_stay_142 ?_
              refine jx_iadd dX12_stay_143 ?_
              obtain ⟨x17, hx17, hf⟩ := jl_inv hf
              refine jx_nm hx17 ?_
              refine jx_istore (ls' := [(0, .ref (E.2.2.2 + 162)), (1, .int b1), (2, .int b2), (3, .int b3), (4, .int x17), (5, .int b5), (6, .int x10), (7, .int x14)]) dX12_stay_144 (by decide) rfl ?_
              refine jx_pick [0, 1, 2, 3, 4, 5] rfl ?_
              cases hf
              exact hJ6
          clear hf
          have hf := hqhJ15
          clear hqhJ15
          refine jx_icmp_eq (tgt := 112) dX12_stay_96 (by decide) (fun c13 => ?_) (fun c13 => ?_)
          · rw [if_pos c13] at hf
            refine jx_iload_n dX12_stay_112 rfl ?_
            refine jx_iconst (v := 1) dX12_stay_113 (by decide) ?_
            refine jx_iadd dX12_stay_114 ?_
            refine jx_goto (tgt := 127) dX12_stay_115 (by decide) ?_
            cases hf
            exact hJ15
          · rw [if_neg c13] at hf
            refine jx_aload_n dX12_stay_99 rfl ?_
            refine jx_getr dX12_stay_100 fl_X12_77 (kj_162 hE) sr_162_34 ?_
            refine jx_iload dX12_stay_103 rfl ?_
            refine jx_iconst (v := 2) dX12_stay_105 (by decide) ?_
            refine jx_iadd dX12_stay_106 ?_
            obtain ⟨c18, hf⟩ := jg_inv hf
            refine jx_iald dX12_stay_107 (kj_182 hE) (jin_vp c18) ?_
            refine jx_iload_n dX12_stay_108 rfl ?_
            refine jx_icmp_le (tgt := 118) dX12_stay_109 (by decide) (fun c19 => ?_) (fun c19 => ?_)
            · rw [if_pos c19] at hf
              refine jx_aload_n dX12_stay_118 rfl ?_
              refine jx_getr dX12_stay_119 fl_X12_77 (kj_162 hE) sr_162_34 ?_
              refine jx_iload dX12_stay_122 rfl ?_
              refine jx_iconst (v := 2) dX12_stay_124 (by decide) ?_
              refine jx_iadd dX12_stay_125 ?_
              obtain ⟨c20, hf⟩ := jg_inv hf
              refine jx_iald dX12_stay_126 (kj_182 hE) (jin_vp c20) ?_
              cases hf
              exact hJ15
            · rw [if_neg c19] at hf
              refine jx_iload_n dX12_stay_112 rfl ?_
              refine jx_iconst (v := 1) dX12_stay_113 (by decide) ?_
              refine jx_iadd dX12_stay_114 ?_
              refine jx_goto (tgt := 127) dX12_stay_115 (by decide) ?_
              cases hf
              exact hJ15
        clear hf
        have hf := hqhJ11
        clear hqhJ11
        refine jx_icmp_le (tgt := 82) dX12_stay_67 (by decide) (fun c9 => ?_) (fun c9 => ?_)
        · rw [if_pos c9] at hf
          refine jx_iload_n dX12_stay_82 rfl ?_
          cases hf
          exact hJ11
        · rw [if_neg c9] at hf
          refine jx_aload_n dX12_stay_70 rfl ?_
          refine jx_getr dX12_stay_71 fl_X12_77 (kj_162 hE) sr_162_34 ?_
          refine jx_iload dX12_stay_74 rfl ?_
          refine jx_iconst (v := 1) dX12_stay_76 (by decide) ?_
          refine jx_iadd dX12_stay_77 ?_
          obtain ⟨c21, hf⟩ := jg_inv hf
          refine jx_iald dX12_stay_78 (kj_182 hE) (jin_vp c21) ?_
          refine jx_goto (tgt := 83) dX12_stay_79 (by decide) ?_
          cases hf
          exact hJ11
      · rw [if_neg c4] at hf
        refine jx_goto (tgt := 146) dX12_stay_54 (by decide) ?_
        cases hf
        exact hJ6
def f_X12_stay (a1 : Int32) (a2 : Int32) (a3 : Int32) (w : jw) : Option (Int32 × jw) := jbd2 (f_X12_isKey a1 w) fun x23 w24 => (if (jb x23) = 0 then some ((-1), w24) else jbd2 (f_X12_areTimes a2 a3 w24) fun x27 w28 => (if (jb x27) = 0 then some ((-1), w28) else (l_X12_stay jfu a1 a2 a3 0 18100 w28)))
set_option maxRecDepth 20000 in
set_option maxHeartbeats 2000000 in
theorem s_X12_stay {E : jE} (hE : jfull E) {a1 : Int32} {a2 : Int32} {a3 : Int32} {w w' : jw} {v : Int32} (hf : f_X12_stay a1 a2 a3 w = some (v, w')) : jC E m_X12_stay 3 [.ref (E.2.2.2 + 162), .int a1, .int a2, .int a3] w (some (.int v)) w' := by
  refine jC_of (ls := [(0, .ref (E.2.2.2 + 162)), (1, .int a1), (2, .int a2), (3, .int a3)]) (by decide) rfl (fun _ => trivial) (Nat.le_of_ble_eq_true rfl) rfl ⟨.int, rfl, rfl⟩ ?_
  unfold f_X12_stay at hf
  refine jx_iload_n dX12_stay_0 rfl ?_
  obtain ⟨x23, w24, hq22, hf⟩ := jbd2_inv hf
  refine jx_cSi (As := [.int a1]) (rest := []) dX12_stay_1 ml_X12_328 ms_X12_isKey (s_X12_isKey hE hq22) rfl rfl rfl (by decide) (Nat.le_of_ble_eq_true rfl) ?_
  refine jx_if_eq (tgt := 16) dX12_stay_4 (by decide) (fun c25 => ?_) (fun c25 => ?_)
  · rw [if_pos c25] at hf
    refine jx_iconst (v := (-1)) dX12_stay_16 (by decide) ?_
    cases hf
    exact jx_iret dX12_stay_17 rfl rfl
  · rw [if_neg c25] at hf
    refine jx_aload_n dX12_stay_7 rfl ?_
    refine jx_iload_n dX12_stay_8 rfl ?_
    refine jx_iload_n dX12_stay_9 rfl ?_
    obtain ⟨x27, w28, hq26, hf⟩ := jbd2_inv hf
    refine jx_cVi (a := 162) (As := [.int a2, .int a3]) (rest := []) dX12_stay_10 ml_X12_346 mv_X12_areTimes (s_X12_areTimes hE hq26) rfl rfl (jc_162 hE) (by decide) (Nat.le_of_ble_eq_true rfl) ?_
    refine jx_if_ne (tgt := 18) dX12_stay_13 (by decide) (fun c29 => ?_) (fun c29 => ?_)
    · rw [if_neg c29] at hf
      refine jx_iconst (v := 0) dX12_stay_18 (by decide) ?_
      refine jx_istore (ls' := [(0, .ref (E.2.2.2 + 162)), (1, .int a1), (2, .int a2), (3, .int a3), (4, .int 0)]) dX12_stay_19 (by decide) rfl ?_
      refine jx_sipush (v := 18100) dX12_stay_21 (by decide) ?_
      refine jx_istore (ls' := [(0, .ref (E.2.2.2 + 162)), (1, .int a1), (2, .int a2), (3, .int a3), (4, .int 0), (5, .int 18100)]) dX12_stay_24 (by decide) rfl ?_
      exact sl_X12_stay hE jfu _ _ _ _ _ _ _ _ hf
    · rw [if_pos c29] at hf
      refine jx_iconst (v := (-1)) dX12_stay_16 (by decide) ?_
      cases hf
      exact jx_iret dX12_stay_17 rfl rfl
def l_X12_versionsOf : Nat → Int32 → Int32 → Int32 → jw → Option (Int32 × jw)
  | 0, _, _, _, _ => none
  | n + 1, b1, b2, b3, w => jg (jin 4 34700) ((if (18100 + (4 * (w.2.1 182 (Int32.toNatClampNeg 4)))) ≤ b3 then some (b2, w) else jg (jin b3 34700) ((if (w.2.1 182 (Int32.toNatClampNeg b3)) = b1 then jl (b2 + 1) fun x6 => jl (b3 + 4) fun x7 => (l_X12_versionsOf n b1 x6 x7 w) else jl (b3 + 4) fun x5 => (l_X12_versionsOf n b1 b2 x5 w)))))
set_option maxRecDepth 20000 in
set_option maxHeartbeats 2000000 in
theorem sl_X12_versionsOf {E : jE} (hE : jfull E) : ∀ (n : Nat) (b1 : Int32) (b2 : Int32) (b3 : Int32) (w : jw) (v : Int32) (w' : jw), l_X12_versionsOf n b1 b2 b3 w = some (v, w') → jX E m_X12_versionsOf 0 6 [(0, .ref (E.2.2.2 + 162)), (1, .int b1), (2, .int b2), (3, .int b3)] [] w (some (.int v)) w' := by
  intro n
  induction n with
  | zero => intro b1 b2 b3 w v w' hf; cases hf
  | succ n ih =>
    intro b1 b2 b3 w v w' hf
    unfold l_X12_versionsOf at hf
    refine jx_iload_n dX12_versionsOf_6 rfl ?_
    refine jx_sipush (v := 18100) dX12_versionsOf_7 (by decide) ?_
    refine jx_iconst (v := 4) dX12_versionsOf_10 (by decide) ?_
    refine jx_aload_n dX12_versionsOf_11 rfl ?_
    refine jx_getr dX12_versionsOf_12 fl_X12_77 (kj_162 hE) sr_162_34 ?_
    refine jx_iconst (v := 4) dX12_versionsOf_15 (by decide) ?_
    obtain ⟨c1, hf⟩ := jg_inv hf
    refine jx_iald dX12_versionsOf_16 (kj_182 hE) (jin_vp c1) ?_
    refine jx_imul dX12_versionsOf_17 ?_
    refine jx_iadd dX12_versionsOf_18 ?_
    refine jx_icmp_ge (tgt := 41) dX12_versionsOf_19 (by decide) (fun c2 => ?_) (fun c2 => ?_)
    · rw [if_pos c2] at hf
      refine jx_iload_n dX12_versionsOf_41 rfl ?_
      cases hf
      exact jx_iret dX12_versionsOf_42 rfl rfl
    · rw [if_neg c2] at hf
      refine jx_aload_n dX12_versionsOf_22 rfl ?_
      refine jx_getr dX12_versionsOf_23 fl_X12_77 (kj_162 hE) sr_162_34 ?_
      refine jx_iload_n dX12_versionsOf_26 rfl ?_
      obtain ⟨c3, hf⟩ := jg_inv hf
      refine jx_iald dX12_versionsOf_27 (kj_182 hE) (jin_vp c3) ?_
      refine jx_iload_n dX12_versionsOf_28 rfl ?_
      refine jx_icmp_ne (tgt := 35) dX12_versionsOf_29 (by decide) (fun c4 => ?_) (fun c4 => ?_)
      · rw [if_neg c4] at hf
        obtain ⟨x5, hx5, hf⟩ := jl_inv hf
        refine jx_iinc (v := x5) (ls' := [(0, .ref (E.2.2.2 + 162)), (1, .int b1), (2, .int b2), (3, .int x5)]) dX12_versionsOf_35 rfl (by rw [hx5]; rfl) (by decide) rfl ?_
        refine jx_goto (tgt := 6) dX12_versionsOf_38 (by decide) ?_
        exact ih _ _ _ _ _ _ hf
      · rw [if_pos c4] at hf
        obtain ⟨x6, hx6, hf⟩ := jl_inv hf
        refine jx_iinc (v := x6) (ls' := [(0, .ref (E.2.2.2 + 162)), (1, .int b1), (2, .int x6), (3, .int b3)]) dX12_versionsOf_32 rfl (by rw [hx6]; rfl) (by decide) rfl ?_
        obtain ⟨x7, hx7, hf⟩ := jl_inv hf
        refine jx_iinc (v := x7) (ls' := [(0, .ref (E.2.2.2 + 162)), (1, .int b1), (2, .int x6), (3, .int x7)]) dX12_versionsOf_35 rfl (by rw [hx7]; rfl) (by decide) rfl ?_
        refine jx_goto (tgt := 6) dX12_versionsOf_38 (by decide) ?_
        exact ih _ _ _ _ _ _ hf
def f_X12_versionsOf (a1 : Int32) (w : jw) : Option (Int32 × jw) := (l_X12_versionsOf jfu a1 0 18100 w)
set_option maxRecDepth 20000 in
set_option maxHeartbeats 2000000 in
theorem s_X12_versionsOf {E : jE} (hE : jfull E) {a1 : Int32} {w w' : jw} {v : Int32} (hf : f_X12_versionsOf a1 w = some (v, w')) : jC E m_X12_versionsOf 0 [.ref (E.2.2.2 + 162), .int a1] w (some (.int v)) w' := by
  refine jC_of (ls := [(0, .ref (E.2.2.2 + 162)), (1, .int a1)]) (by decide) rfl (fun _ => trivial) (Nat.le_of_ble_eq_true rfl) rfl ⟨.int, rfl, rfl⟩ ?_
  unfold f_X12_versionsOf at hf
  refine jx_iconst (v := 0) dX12_versionsOf_0 (by decide) ?_
  refine jx_istore_n (ls' := [(0, .ref (E.2.2.2 + 162)), (1, .int a1), (2, .int 0)]) dX12_versionsOf_1 (by decide) rfl ?_
  refine jx_sipush (v := 18100) dX12_versionsOf_2 (by decide) ?_
  refine jx_istore_n (ls' := [(0, .ref (E.2.2.2 + 162)), (1, .int a1), (2, .int 0), (3, .int 18100)]) dX12_versionsOf_5 (by decide) rfl ?_
  exact sl_X12_versionsOf hE jfu _ _ _ _ _ _ hf
def f_X12_versions (a1 : Int32) (w : jw) : Option (Int32 × jw) := jbd2 (f_X12_isKey a1 w) fun x2 w3 => (if (jb x2) = 0 then some ((-1), w3) else jbd2 (f_X12_versionsOf a1 w3) fun x6 w7 => some (x6, w7))
set_option maxRecDepth 20000 in
set_option maxHeartbeats 2000000 in
theorem s_X12_versions {E : jE} (hE : jfull E) {a1 : Int32} {w w' : jw} {v : Int32} (hf : f_X12_versions a1 w = some (v, w')) : jC E m_X12_versions 2 [.ref (E.2.2.2 + 162), .int a1] w (some (.int v)) w' := by
  refine jC_of (ls := [(0, .ref (E.2.2.2 + 162)), (1, .int a1)]) (by decide) rfl (fun _ => trivial) (Nat.le_of_ble_eq_true rfl) rfl ⟨.int, rfl, rfl⟩ ?_
  unfold f_X12_versions at hf
  refine jx_iload_n dX12_versions_0 rfl ?_
  obtain ⟨x2, w3, hq1, hf⟩ := jbd2_inv hf
  refine jx_cSi (As := [.int a1]) (rest := []) dX12_versions_1 ml_X12_328 ms_X12_isKey (s_X12_isKey hE hq1) rfl rfl rfl (by decide) (Nat.le_of_ble_eq_true rfl) ?_
  refine jx_if_eq (tgt := 15) dX12_versions_4 (by decide) (fun c4 => ?_) (fun c4 => ?_)
  · rw [if_pos c4] at hf
    refine jx_iconst (v := (-1)) dX12_versions_15 (by decide) ?_
    cases hf
    exact jx_iret dX12_versions_16 rfl rfl
  · rw [if_neg c4] at hf
    refine jx_aload_n dX12_versions_7 rfl ?_
    refine jx_iload_n dX12_versions_8 rfl ?_
    obtain ⟨x6, w7, hq5, hf⟩ := jbd2_inv hf
    refine jx_cVi (a := 162) (As := [.int a1]) (rest := []) dX12_versions_9 ml_X12_349 mv_X12_versionsOf (s_X12_versionsOf hE hq5) rfl rfl (jc_162 hE) (by decide) (Nat.le_of_ble_eq_true rfl) ?_
    refine jx_goto (tgt := 16) dX12_versions_12 (by decide) ?_
    cases hf
    exact jx_iret dX12_versions_16 rfl rfl
def l_X12_version : Nat → Int32 → Int32 → Int32 → Int32 → Int32 → jw → Option (Int32 × jw)
  | 0, _, _, _, _, _, _ => none
  | n + 1, b1, b2, b3, b4, b5, w => jg (jin 4 34700) ((if (18100 + (4 * (w.2.1 182 (Int32.toNatClampNeg 4)))) ≤ b5 then some ((-1000), w) else jg (jin b5 34700) ((if (w.2.1 182 (Int32.toNatClampNeg b5)) = b1 then (if b4 = 0 then jg (jin ((b5 + 1) + b3) 34700) (some (w.2.1 182 (Int32.toNatClampNeg ((b5 + 1) + b3)), w)) else jl (b4 + (-1)) fun x6 => jl (b5 + 4) fun x7 => (l_X12_version n b1 b2 b3 x6 x7 w)) else jl (b5 + 4) fun x9 => (l_X12_version n b1 b2 b3 b4 x9 w)))))
set_option maxRecDepth 20000 in
set_option maxHeartbeats 2000000 in
theorem sl_X12_version {E : jE} (hE : jfull E) : ∀ (n : Nat) (b1 : Int32) (b2 : Int32) (b3 : Int32) (b4 : Int32) (b5 : Int32) (w : jw) (v : Int32) (w' : jw), l_X12_version n b1 b2 b3 b4 b5 w = some (v, w') → jX E m_X12_version 2 32 [(0, .ref (E.2.2.2 + 162)), (1, .int b1), (2, .int b2), (3, .int b3), (4, .int b4), (5, .int b5)] [] w (some (.int v)) w' := by
  intro n
  induction n with
  | zero => intro b1 b2 b3 b4 b5 w v w' hf; cases hf
  | succ n ih =>
    intro b1 b2 b3 b4 b5 w v w' hf
    unfold l_X12_version at hf
    refine jx_iload dX12_version_32 rfl ?_
    refine jx_sipush (v := 18100) dX12_version_34 (by decide) ?_
    refine jx_iconst (v := 4) dX12_version_37 (by decide) ?_
    refine jx_aload_n dX12_version_38 rfl ?_
    refine jx_getr dX12_version_39 fl_X12_77 (kj_162 hE) sr_162_34 ?_
    refine jx_iconst (v := 4) dX12_version_42 (by decide) ?_
    obtain ⟨c1, hf⟩ := jg_inv hf
    refine jx_iald dX12_version_43 (kj_182 hE) (jin_vp c1) ?_
    refine jx_imul dX12_version_44 ?_
    refine jx_iadd dX12_version_45 ?_
    refine jx_icmp_ge (tgt := 89) dX12_version_46 (by decide) (fun c2 => ?_) (fun c2 => ?_)
    · rw [if_pos c2] at hf
      refine jx_sipush (v := (-1000)) dX12_version_89 (by decide) ?_
      cases hf
      exact jx_iret dX12_version_92 rfl rfl
    · rw [if_neg c2] at hf
      refine jx_aload_n dX12_version_49 rfl ?_
      refine jx_getr dX12_version_50 fl_X12_77 (kj_162 hE) sr_162_34 ?_
      refine jx_iload dX12_version_53 rfl ?_
      obtain ⟨c3, hf⟩ := jg_inv hf
      refine jx_iald dX12_version_55 (kj_182 hE) (jin_vp c3) ?_
      refine jx_iload_n dX12_version_56 rfl ?_
      refine jx_icmp_eq (tgt := 63) dX12_version_57 (by decide) (fun c4 => ?_) (fun c4 => ?_)
      · rw [if_pos c4] at hf
        refine jx_iload dX12_version_63 rfl ?_
        refine jx_if_ne (tgt := 80) dX12_version_65 (by decide) (fun c5 => ?_) (fun c5 => ?_)
        · rw [if_neg c5] at hf
          obtain ⟨x6, hx6, hf⟩ := jl_inv hf
          refine jx_iinc (v := x6) (ls' := [(0, .ref (E.2.2.2 + 162)), (1, .int b1), (2, .int b2), (3, .int b3), (4, .int x6), (5, .int b5)]) dX12_version_80 rfl (by rw [hx6]; rfl) (by decide) rfl ?_
          obtain ⟨x7, hx7, hf⟩ := jl_inv hf
          refine jx_iinc (v := x7) (ls' := [(0, .ref (E.2.2.2 + 162)), (1, .int b1), (2, .int b2), (3, .int b3), (4, .int x6), (5, .int x7)]) dX12_version_83 rfl (by rw [hx7]; rfl) (by decide) rfl ?_
          refine jx_goto (tgt := 32) dX12_version_86 (by decide) ?_
          exact ih _ _ _ _ _ _ _ _ hf
        · rw [if_pos c5] at hf
          refine jx_aload_n dX12_version_68 rfl ?_
          refine jx_getr dX12_version_69 fl_X12_77 (kj_162 hE) sr_162_34 ?_
          refine jx_iload dX12_version_72 rfl ?_
          refine jx_iconst (v := 1) dX12_version_74 (by decide) ?_
          refine jx_iadd dX12_version_75 ?_
          refine jx_iload_n dX12_version_76 rfl ?_
          refine jx_iadd dX12_version_77 ?_
          obtain ⟨c8, hf⟩ := jg_inv hf
          refine jx_iald dX12_version_78 (kj_182 hE) (jin_vp c8) ?_
          cases hf
          exact jx_iret dX12_version_79 rfl rfl
      · rw [if_neg c4] at hf
        refine jx_goto (tgt := 83) dX12_version_60 (by decide) ?_
        obtain ⟨x9, hx9, hf⟩ := jl_inv hf
        refine jx_iinc (v := x9) (ls' := [(0, .ref (E.2.2.2 + 162)), (1, .int b1), (2, .int b2), (3, .int b3), (4, .int b4), (5, .int x9)]) dX12_version_83 rfl (by rw [hx9]; rfl) (by decide) rfl ?_
        refine jx_goto (tgt := 32) dX12_version_86 (by decide) ?_
        exact ih _ _ _ _ _ _ _ _ hf
def f_X12_version (a1 : Int32) (a2 : Int32) (a3 : Int32) (w : jw) : Option (Int32 × jw) := jbd2 (f_X12_isKey a1 w) fun x11 w12 => (if (jb x11) = 0 then some ((-1000), w12) else (if a2 < 0 then some ((-1000), w12) else jbd2 (f_X12_in a3 0 2 w12) fun x16 w17 => (if (jb x16) = 0 then some ((-1000), w17) else (l_X12_version jfu a1 a2 a3 a2 18100 w17))))
set_option maxRecDepth 20000 in
set_option maxHeartbeats 2000000 in
theorem s_X12_version {E : jE} (hE : jfull E) {a1 : Int32} {a2 : Int32} {a3 : Int32} {w w' : jw} {v : Int32} (hf : f_X12_version a1 a2 a3 w = some (v, w')) : jC E m_X12_version 2 [.ref (E.2.2.2 + 162), .int a1, .int a2, .int a3] w (some (.int v)) w' := by
  refine jC_of (ls := [(0, .ref (E.2.2.2 + 162)), (1, .int a1), (2, .int a2), (3, .int a3)]) (by decide) rfl (fun _ => trivial) (Nat.le_of_ble_eq_true rfl) rfl ⟨.int, rfl, rfl⟩ ?_
  unfold f_X12_version at hf
  refine jx_iload_n dX12_version_0 rfl ?_
  obtain ⟨x11, w12, hq10, hf⟩ := jbd2_inv hf
  refine jx_cSi (As := [.int a1]) (rest := []) dX12_version_1 ml_X12_328 ms_X12_isKey (s_X12_isKey hE hq10) rfl rfl rfl (by decide) (Nat.le_of_ble_eq_true rfl) ?_
  refine jx_if_eq (tgt := 20) dX12_version_4 (by decide) (fun c13 => ?_) (fun c13 => ?_)
  · rw [if_pos c13] at hf
    refine jx_sipush (v := (-1000)) dX12_version_20 (by decide) ?_
    cases hf
    exact jx_iret dX12_version_23 rfl rfl
  · rw [if_neg c13] at hf
    refine jx_iload_n dX12_version_7 rfl ?_
    refine jx_if_lt (tgt := 20) dX12_version_8 (by decide) (fun c14 => ?_) (fun c14 => ?_)
    · rw [if_pos c14] at hf
      refine jx_sipush (v := (-1000)) dX12_version_20 (by decide) ?_
      cases hf
      exact jx_iret dX12_version_23 rfl rfl
    · rw [if_neg c14] at hf
      refine jx_iload_n dX12_version_11 rfl ?_
      refine jx_iconst (v := 0) dX12_version_12 (by decide) ?_
      refine jx_iconst (v := 2) dX12_version_13 (by decide) ?_
      obtain ⟨x16, w17, hq15, hf⟩ := jbd2_inv hf
      refine jx_cSi (As := [.int a3, .int 0, .int 2]) (rest := []) dX12_version_14 ml_X12_324 ms_X12_in (s_X12_in hE hq15) rfl rfl rfl (by decide) (Nat.le_of_ble_eq_true rfl) ?_
      refine jx_if_ne (tgt := 24) dX12_version_17 (by decide) (fun c18 => ?_) (fun c18 => ?_)
      · rw [if_neg c18] at hf
        refine jx_iload_n dX12_version_24 rfl ?_
        refine jx_istore (ls' := [(0, .ref (E.2.2.2 + 162)), (1, .int a1), (2, .int a2), (3, .int a3), (4, .int a2)]) dX12_version_25 (by decide) rfl ?_
        refine jx_sipush (v := 18100) dX12_version_27 (by decide) ?_
        refine jx_istore (ls' := [(0, .ref (E.2.2.2 + 162)), (1, .int a1), (2, .int a2), (3, .int a3), (4, .int a2), (5, .int 18100)]) dX12_version_30 (by decide) rfl ?_
        exact sl_X12_version hE jfu _ _ _ _ _ _ _ _ hf
      · rw [if_pos c18] at hf
        refine jx_sipush (v := (-1000)) dX12_version_20 (by decide) ?_
        cases hf
        exact jx_iret dX12_version_23 rfl rfl
def l_X12_longest : Nat → Int32 → Int32 → Int32 → Int32 → Int32 → Int32 → jw → Option (Int32 × jw)
  | 0, _, _, _, _, _, _, _ => none
  | n + 1, b1, b2, b3, b4, b5, b6, w => jg (jin 4 34700) ((if (18100 + (4 * (w.2.1 182 (Int32.toNatClampNeg 4)))) ≤ b6 then (if b2 = 0 then some (b3, w) else some (b4, w)) else jg (jin b6 34700) ((if (w.2.1 182 (Int32.toNatClampNeg b6)) = b1 then jg (jin (b6 + 2) 34700) ((if (w.2.1 182 (Int32.toNatClampNeg (b6 + 2))) = (-2) then jg (jin 0 34700) (jg (jin (b6 + 1) 34700) (jl (((w.2.1 182 (Int32.toNatClampNeg 0)) + 1) - (w.2.1 182 (Int32.toNatClampNeg (b6 + 1))) : Int32) fun x18 => (if x18 ≤ b4 then jl (b5 + 1) fun x20 => jl (b6 + 4) fun x21 => (l_X12_longest n b1 b2 b3 b4 x20 x21 w) else jl (b5 + 1) fun x22 => jl (b6 + 4) fun x23 => (l_X12_longest n b1 b2 b5 x18 x22 x23 w)))) else jg (jin (b6 + 2) 34700) (jg (jin (b6 + 1) 34700) (jl ((w.2.1 182 (Int32.toNatClampNeg (b6 + 2))) - (w.2.1 182 (Int32.toNatClampNeg (b6 + 1))) : Int32) fun x10 => (if x10 ≤ b4 then jl (b5 + 1) fun x12 => jl (b6 + 4) fun x13 => (l_X12_longest n b1 b2 b3 b4 x12 x13 w) else jl (b5 + 1) fun x14 => jl (b6 + 4) fun x15 => (l_X12_longest n b1 b2 b5 x10 x14 x15 w)))))) else jl (b6 + 4) fun x24 => (l_X12_longest n b1 b2 b3 b4 b5 x24 w)))))
set_option maxRecDepth 20000 in
set_option maxHeartbeats 2000000 in
theorem sl_X12_longest {E : jE} (hE : jfull E) : ∀ (n : Nat) (b1 : Int32) (b2 : Int32) (b3 : Int32) (b4 : Int32) (b5 : Int32) (b6 : Int32) (w : jw) (v : Int32) (w' : jw), l_X12_longest n b1 b2 b3 b4 b5 b6 w = some (v, w') → jX E m_X12_longest 2 33 [(0, .ref (E.2.2.2 + 162)), (1, .int b1), (2, .int b2), (3, .int b3), (4, .int b4), (5, .int b5), (6, .int b6)] [] w (some (.int v)) w' := by
  intro n
  induction n with
  | zero => intro b1 b2 b3 b4 b5 b6 w v w' hf; cases hf
  | succ n ih =>
    intro b1 b2 b3 b4 b5 b6 w v w' hf
    unfold l_X12_longest at hf
    refine jx_iload dX12_longest_33 rfl ?_
    refine jx_sipush (v := 18100) dX12_longest_35 (by decide) ?_
    refine jx_iconst (v := 4) dX12_longest_38 (by decide) ?_
    refine jx_aload_n dX12_longest_39 rfl ?_
    refine jx_getr dX12_longest_40 fl_X12_77 (kj_162 hE) sr_162_34 ?_
    refine jx_iconst (v := 4) dX12_longest_43 (by decide) ?_
    obtain ⟨c1, hf⟩ := jg_inv hf
    refine jx_iald dX12_longest_44 (kj_182 hE) (jin_vp c1) ?_
    refine jx_imul dX12_longest_45 ?_
    refine jx_iadd dX12_longest_46 ?_
    refine jx_icmp_ge (tgt := 133) dX12_longest_47 (by decide) (fun c2 => ?_) (fun c2 => ?_)
    · rw [if_pos c2] at hf
      refine jx_iload_n dX12_longest_133 rfl ?_
      refine jx_if_ne (tgt := 141) dX12_longest_134 (by decide) (fun c3 => ?_) (fun c3 => ?_)
      · rw [if_neg c3] at hf
        refine jx_iload dX12_longest_141 rfl ?_
        cases hf
        exact jx_iret dX12_longest_143 rfl rfl
      · rw [if_pos c3] at hf
        refine jx_iload_n dX12_longest_137 rfl ?_
        refine jx_goto (tgt := 143) dX12_longest_138 (by decide) ?_
        cases hf
        exact jx_iret dX12_longest_143 rfl rfl
    · rw [if_neg c2] at hf
      refine jx_aload_n dX12_longest_50 rfl ?_
      refine jx_getr dX12_longest_51 fl_X12_77 (kj_162 hE) sr_162_34 ?_
      refine jx_iload dX12_longest_54 rfl ?_
      obtain ⟨c4, hf⟩ := jg_inv hf
      refine jx_iald dX12_longest_56 (kj_182 hE) (jin_vp c4) ?_
      refine jx_iload_n dX12_longest_57 rfl ?_
      refine jx_icmp_eq (tgt := 64) dX12_longest_58 (by decide) (fun c5 => ?_) (fun c5 => ?_)
      · rw [if_pos c5] at hf
        refine jx_aload_n dX12_longest_64 rfl ?_
        refine jx_getr dX12_longest_65 fl_X12_77 (kj_162 hE) sr_162_34 ?_
        refine jx_iload dX12_longest_68 rfl ?_
        refine jx_iconst (v := 2) dX12_longest_70 (by decide) ?_
        refine jx_iadd dX12_longest_71 ?_
        obtain ⟨c6, hf⟩ := jg_inv hf
        refine jx_iald dX12_longest_72 (kj_182 hE) (jin_vp c6) ?_
        refine jx_bipush (v := (-2)) dX12_longest_73 (by decide) ?_
        refine jx_icmp_ne (tgt := 89) dX12_longest_75 (by decide) (fun c7 => ?_) (fun c7 => ?_)
        · rw [if_neg c7] at hf
          refine jx_aload_n dX12_longest_89 rfl ?_
          refine jx_getr dX12_longest_90 fl_X12_77 (kj_162 hE) sr_162_34 ?_
          refine jx_iload dX12_longest_93 rfl ?_
          refine jx_iconst (v := 2) dX12_longest_95 (by decide) ?_
          refine jx_iadd dX12_longest_96 ?_
          obtain ⟨c8, hf⟩ := jg_inv hf
          refine jx_iald dX12_longest_97 (kj_182 hE) (jin_vp c8) ?_
          refine jx_aload_n dX12_longest_98 rfl ?_
          refine jx_getr dX12_longest_99 fl_X12_77 (kj_162 hE) sr_162_34 ?_
          refine jx_iload dX12_longest_102 rfl ?_
          refine jx_iconst (v := 1) dX12_longest_104 (by decide) ?_
          refine jx_iadd dX12_longest_105 ?_
          obtain ⟨c9, hf⟩ := jg_inv hf
          refine jx_iald dX12_longest_106 (kj_182 hE) (jin_vp c9) ?_
          refine jx_isub dX12_longest_107 ?_
          obtain ⟨x10, hx10, hf⟩ := jl_inv hf
          refine jx_nm hx10 ?_
          refine jx_istore (ls' := [(0, .ref (E.2.2.2 + 162)), (1, .int b1), (2, .int b2), (3, .int b3), (4, .int b4), (5, .int b5), (6, .int b6), (7, .int x10)]) dX12_longest_108 (by decide) rfl ?_
          refine jx_iload dX12_longest_110 rfl ?_
          refine jx_iload dX12_longest_112 rfl ?_
          refine jx_icmp_le (tgt := 124) dX12_longest_114 (by decide) (fun c11 => ?_) (fun c11 => ?_)
          · rw [if_pos c11] at hf
            obtain ⟨x12, hx12, hf⟩ := jl_inv hf
            refine jx_iinc (v := x12) (ls' := [(0, .ref (E.2.2.2 + 162)), (1, .int b1), (2, .int b2), (3, .int b3), (4, .int b4), (5, .int x12), (6, .int b6), (7, .int x10)]) dX12_longest_124 rfl (by rw [hx12]; rfl) (by decide) rfl ?_
            obtain ⟨x13, hx13, hf⟩ := jl_inv hf
            refine jx_iinc (v := x13) (ls' := [(0, .ref (E.2.2.2 + 162)), (1, .int b1), (2, .int b2), (3, .int b3), (4, .int b4), (5, .int x12), (6, .int x13), (7, .int x10)]) dX12_longest_127 rfl (by rw [hx13]; rfl) (by decide) rfl ?_
            refine jx_goto (tgt := 33) dX12_longest_130 (by decide) ?_
            refine jx_pick [0, 1, 2, 3, 4, 5, 6] rfl ?_
            exact ih _ _ _ _ _ _ _ _ _ hf
          · rw [if_neg c11] at hf
            refine jx_iload dX12_longest_117 rfl ?_
            refine jx_istore_n (ls' := [(0, .ref (E.2.2.2 + 162)), (1, .int b1), (2, .int b2), (3, .int b5), (4, .int b4), (5, .int b5), (6, .int b6), (7, .int x10)]) dX12_longest_119 (by decide) rfl ?_
            refine jx_iload dX12_longest_120 rfl ?_
            refine jx_istore (ls' := [(0, .ref (E.2.2.2 + 162)), (1, .int b1), (2, .int b2), (3, .int b5), (4, .int x10), (5, .int b5), (6, .int b6), (7, .int x10)]) dX12_longest_122 (by decide) rfl ?_
            obtain ⟨x14, hx14, hf⟩ := jl_inv hf
            refine jx_iinc (v := x14) (ls' := [(0, .ref (E.2.2.2 + 162)), (1, .int b1), (2, .int b2), (3, .int b5), (4, .int x10), (5, .int x14), (6, .int b6), (7, .int x10)]) dX12_longest_124 rfl (by rw [hx14]; rfl) (by decide) rfl ?_
            obtain ⟨x15, hx15, hf⟩ := jl_inv hf
            refine jx_iinc (v := x15) (ls' := [(0, .ref (E.2.2.2 + 162)), (1, .int b1), (2, .int b2), (3, .int b5), (4, .int x10), (5, .int x14), (6, .int x15), (7, .int x10)]) dX12_longest_127 rfl (by rw [hx15]; rfl) (by decide) rfl ?_
            refine jx_goto (tgt := 33) dX12_longest_130 (by decide) ?_
            refine jx_pick [0, 1, 2, 3, 4, 5, 6] rfl ?_
            exact ih _ _ _ _ _ _ _ _ _ hf
        · rw [if_pos c7] at hf
          refine jx_aload_n dX12_longest_78 rfl ?_
          refine jx_getr dX12_longest_79 fl_X12_77 (kj_162 hE) sr_162_34 ?_
          refine jx_iconst (v := 0) dX12_longest_82 (by decide) ?_
          obtain ⟨c16, hf⟩ := jg_inv hf
          refine jx_iald dX12_longest_83 (kj_182 hE) (jin_vp c16) ?_
          refine jx_iconst (v := 1) dX12_longest_84 (by decide) ?_
          refine jx_iadd dX12_longest_85 ?_
          refine jx_goto (tgt := 98) dX12_longest_86 (by decide) ?_
          refine jx_aload_n dX12_longest_98 rfl ?_
          refine jx_getr dX12_longest_99 fl_X12_77 (kj_162 hE) sr_162_34 ?_
          refine jx_iload dX12_longest_102 rfl ?_
          refine jx_iconst (v := 1) dX12_longest_104 (by decide) ?_
          refine jx_iadd dX12_longest_105 ?_
          obtain ⟨c17, hf⟩ := jg_inv hf
          refine jx_iald dX12_longest_106 (kj_182 hE) (jin_vp c17) ?_
          refine jx_isub dX12_longest_107 ?_
          obtain ⟨x18, hx18, hf⟩ := jl_inv hf
          refine jx_nm hx18 ?_
          refine jx_istore (ls' := [(0, .ref (E.2.2.2 + 162)), (1, .int b1), (2, .int b2), (3, .int b3), (4, .int b4), (5, .int b5), (6, .int b6), (7, .int x18)]) dX12_longest_108 (by decide) rfl ?_
          refine jx_iload dX12_longest_110 rfl ?_
          refine jx_iload dX12_longest_112 rfl ?_
          refine jx_icmp_le (tgt := 124) dX12_longest_114 (by decide) (fun c19 => ?_) (fun c19 => ?_)
          · rw [if_pos c19] at hf
            obtain ⟨x20, hx20, hf⟩ := jl_inv hf
            refine jx_iinc (v := x20) (ls' := [(0, .ref (E.2.2.2 + 162)), (1, .int b1), (2, .int b2), (3, .int b3), (4, .int b4), (5, .int x20), (6, .int b6), (7, .int x18)]) dX12_longest_124 rfl (by rw [hx20]; rfl) (by decide) rfl ?_
            obtain ⟨x21, hx21, hf⟩ := jl_inv hf
            refine jx_iinc (v := x21) (ls' := [(0, .ref (E.2.2.2 + 162)), (1, .int b1), (2, .int b2), (3, .int b3), (4, .int b4), (5, .int x20), (6, .int x21), (7, .int x18)]) dX12_longest_127 rfl (by rw [hx21]; rfl) (by decide) rfl ?_
            refine jx_goto (tgt := 33) dX12_longest_130 (by decide) ?_
            refine jx_pick [0, 1, 2, 3, 4, 5, 6] rfl ?_
            exact ih _ _ _ _ _ _ _ _ _ hf
          · rw [if_neg c19] at hf
            refine jx_iload dX12_longest_117 rfl ?_
            refine jx_istore_n (ls' := [(0, .ref (E.2.2.2 + 162)), (1, .int b1), (2, .int b2), (3, .int b5), (4, .int b4), (5, .int b5), (6, .int b6), (7, .int x18)]) dX12_longest_119 (by decide) rfl ?_
            refine jx_iload dX12_longest_120 rfl ?_
            refine jx_istore (ls' := [(0, .ref (E.2.2.2 + 162)), (1, .int b1), (2, .int b2), (3, .int b5), (4, .int x18), (5, .int b5), (6, .int b6), (7, .int x18)]) dX12_longest_122 (by decide) rfl ?_
            obtain ⟨x22, hx22, hf⟩ := jl_inv hf
            refine jx_iinc (v := x22) (ls' := [(0, .ref (E.2.2.2 + 162)), (1, .int b1), (2, .int b2), (3, .int b5), (4, .int x18), (5, .int x22), (6, .int b6), (7, .int x18)]) dX12_longest_124 rfl (by rw [hx22]; rfl) (by decide) rfl ?_
            obtain ⟨x23, hx23, hf⟩ := jl_inv hf
            refine jx_iinc (v := x23) (ls' := [(0, .ref (E.2.2.2 + 162)), (1, .int b1), (2, .int b2), (3, .int b5), (4, .int x18), (5, .int x22), (6, .int x23), (7, .int x18)]) dX12_longest_127 rfl (by rw [hx23]; rfl) (by decide) rfl ?_
            refine jx_goto (tgt := 33) dX12_longest_130 (by decide) ?_
            refine jx_pick [0, 1, 2, 3, 4, 5, 6] rfl ?_
            exact ih _ _ _ _ _ _ _ _ _ hf
      · rw [if_neg c5] at hf
        refine jx_goto (tgt := 127) dX12_longest_61 (by decide) ?_
        obtain ⟨x24, hx24, hf⟩ := jl_inv hf
        refine jx_iinc (v := x24) (ls' := [(0, .ref (E.2.2.2 + 162)), (1, .int b1), (2, .int b2), (3, .int b3), (4, .int b4), (5, .int b5), (6, .int x24)]) dX12_longest_127 rfl (by rw [hx24]; rfl) (by decide) rfl ?_
        refine jx_goto (tgt := 33) dX12_longest_130 (by decide) ?_
        exact ih _ _ _ _ _ _ _ _ _ hf
def f_X12_longest (a1 : Int32) (a2 : Int32) (w : jw) : Option (Int32 × jw) := jbd2 (f_X12_isKey a1 w) fun x26 w27 => (if (jb x26) = 0 then some ((-1), w27) else jbd2 (f_X12_in a2 0 1 w27) fun x30 w31 => (if (jb x30) = 0 then some ((-1), w31) else (l_X12_longest jfu a1 a2 (-2) (-2) 0 18100 w31)))
set_option maxRecDepth 20000 in
set_option maxHeartbeats 2000000 in
theorem s_X12_longest {E : jE} (hE : jfull E) {a1 : Int32} {a2 : Int32} {w w' : jw} {v : Int32} (hf : f_X12_longest a1 a2 w = some (v, w')) : jC E m_X12_longest 2 [.ref (E.2.2.2 + 162), .int a1, .int a2] w (some (.int v)) w' := by
  refine jC_of (ls := [(0, .ref (E.2.2.2 + 162)), (1, .int a1), (2, .int a2)]) (by decide) rfl (fun _ => trivial) (Nat.le_of_ble_eq_true rfl) rfl ⟨.int, rfl, rfl⟩ ?_
  unfold f_X12_longest at hf
  refine jx_iload_n dX12_longest_0 rfl ?_
  obtain ⟨x26, w27, hq25, hf⟩ := jbd2_inv hf
  refine jx_cSi (As := [.int a1]) (rest := []) dX12_longest_1 ml_X12_328 ms_X12_isKey (s_X12_isKey hE hq25) rfl rfl rfl (by decide) (Nat.le_of_ble_eq_true rfl) ?_
  refine jx_if_eq (tgt := 16) dX12_longest_4 (by decide) (fun c28 => ?_) (fun c28 => ?_)
  · rw [if_pos c28] at hf
    refine jx_iconst (v := (-1)) dX12_longest_16 (by decide) ?_
    cases hf
    exact jx_iret dX12_longest_17 rfl rfl
  · rw [if_neg c28] at hf
    refine jx_iload_n dX12_longest_7 rfl ?_
    refine jx_iconst (v := 0) dX12_longest_8 (by decide) ?_
    refine jx_iconst (v := 1) dX12_longest_9 (by decide) ?_
    obtain ⟨x30, w31, hq29, hf⟩ := jbd2_inv hf
    refine jx_cSi (As := [.int a2, .int 0, .int 1]) (rest := []) dX12_longest_10 ml_X12_324 ms_X12_in (s_X12_in hE hq29) rfl rfl rfl (by decide) (Nat.le_of_ble_eq_true rfl) ?_
    refine jx_if_ne (tgt := 18) dX12_longest_13 (by decide) (fun c32 => ?_) (fun c32 => ?_)
    · rw [if_neg c32] at hf
      refine jx_bipush (v := (-2)) dX12_longest_18 (by decide) ?_
      refine jx_istore_n (ls' := [(0, .ref (E.2.2.2 + 162)), (1, .int a1), (2, .int a2), (3, .int (-2))]) dX12_longest_20 (by decide) rfl ?_
      refine jx_bipush (v := (-2)) dX12_longest_21 (by decide) ?_
      refine jx_istore (ls' := [(0, .ref (E.2.2.2 + 162)), (1, .int a1), (2, .int a2), (3, .int (-2)), (4, .int (-2))]) dX12_longest_23 (by decide) rfl ?_
      refine jx_iconst (v := 0) dX12_longest_25 (by decide) ?_
      refine jx_istore (ls' := [(0, .ref (E.2.2.2 + 162)), (1, .int a1), (2, .int a2), (3, .int (-2)), (4, .int (-2)), (5, .int 0)]) dX12_longest_26 (by decide) rfl ?_
      refine jx_sipush (v := 18100) dX12_longest_28 (by decide) ?_
      refine jx_istore (ls' := [(0, .ref (E.2.2.2 + 162)), (1, .int a1), (2, .int a2), (3, .int (-2)), (4, .int (-2)), (5, .int 0), (6, .int 18100)]) dX12_longest_31 (by decide) rfl ?_
      exact sl_X12_longest hE jfu _ _ _ _ _ _ _ _ _ hf
    · rw [if_pos c32] at hf
      refine jx_iconst (v := (-1)) dX12_longest_16 (by decide) ?_
      cases hf
      exact jx_iret dX12_longest_17 rfl rfl
