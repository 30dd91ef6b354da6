def f_X7_isOperator (a1 : Int32) (w : jw) : Option (Bool × jw) := (if a1 = 43 then some (true, w) else (if a1 = 45 then some (true, w) else (if a1 = 42 then some (true, w) else (if a1 = 47 then some (true, w) else (if a1 = 37 then some (true, w) else some (false, w))))))
set_option maxRecDepth 20000 in
set_option maxHeartbeats 2000000 in
theorem s_X7_isOperator {E : jE} (hE : jfull E) {a1 : Int32} {w w' : jw} {v : Bool} (hf : f_X7_isOperator a1 w = some (v, w')) : jC E m_X7_isOperator 0 [.int a1] w (some (.int (jb v))) w' := by
  refine jC_of (ls := [(0, .int a1)]) (by decide) rfl (fun _ => trivial) (Nat.le_of_ble_eq_true rfl) rfl jb_ans ?_
  unfold f_X7_isOperator at hf
  refine jx_iload_n dX7_isOperator_0 rfl ?_
  refine jx_bipush (v := 43) dX7_isOperator_1 (by decide) ?_
  refine jx_icmp_eq (tgt := 30) dX7_isOperator_3 (by decide) (fun c1 => ?_) (fun c1 => ?_)
  · rw [if_pos c1] at hf
    refine jx_iconst (v := 1) dX7_isOperator_30 (by decide) ?_
    refine jx_goto (tgt := 35) dX7_isOperator_31 (by decide) ?_
    cases hf
    exact jx_iret dX7_isOperator_35 rfl rfl
  · rw [if_neg c1] at hf
    refine jx_iload_n dX7_isOperator_6 rfl ?_
    refine jx_bipush (v := 45) dX7_isOperator_7 (by decide) ?_
    refine jx_icmp_eq (tgt := 30) dX7_isOperator_9 (by decide) (fun c2 => ?_) (fun c2 => ?_)
    · rw [if_pos c2] at hf
      refine jx_iconst (v := 1) dX7_isOperator_30 (by decide) ?_
      refine jx_goto (tgt := 35) dX7_isOperator_31 (by decide) ?_
      cases hf
      exact jx_iret dX7_isOperator_35 rfl rfl
    · rw [if_neg c2] at hf
      refine jx_iload_n dX7_isOperator_12 rfl ?_
      refine jx_bipush (v := 42) dX7_isOperator_13 (by decide) ?_
      refine jx_icmp_eq (tgt := 30) dX7_isOperator_15 (by decide) (fun c3 => ?_) (fun c3 => ?_)
      · rw [if_pos c3] at hf
        refine jx_iconst (v := 1) dX7_isOperator_30 (by decide) ?_
        refine jx_goto (tgt := 35) dX7_isOperator_31 (by decide) ?_
        cases hf
        exact jx_iret dX7_isOperator_35 rfl rfl
      · rw [if_neg c3] at hf
        refine jx_iload_n dX7_isOperator_18 rfl ?_
        refine jx_bipush (v := 47) dX7_isOperator_19 (by decide) ?_
        refine jx_icmp_eq (tgt := 30) dX7_isOperator_21 (by decide) (fun c4 => ?_) (fun c4 => ?_)
        · rw [if_pos c4] at hf
          refine jx_iconst (v := 1) dX7_isOperator_30 (by decide) ?_
          refine jx_goto (tgt := 35) dX7_isOperator_31 (by decide) ?_
          cases hf
          exact jx_iret dX7_isOperator_35 rfl rfl
        · rw [if_neg c4] at hf
          refine jx_iload_n dX7_isOperator_24 rfl ?_
          refine jx_bipush (v := 37) dX7_isOperator_25 (by decide) ?_
          refine jx_icmp_ne (tgt := 34) dX7_isOperator_27 (by decide) (fun c5 => ?_) (fun c5 => ?_)
          · rw [if_neg c5] at hf
            refine jx_iconst (v := 0) dX7_isOperator_34 (by decide) ?_
            cases hf
            exact jx_iret dX7_isOperator_35 rfl rfl
          · rw [if_pos c5] at hf
            refine jx_iconst (v := 1) dX7_isOperator_30 (by decide) ?_
            refine jx_goto (tgt := 35) dX7_isOperator_31 (by decide) ?_
            cases hf
            exact jx_iret dX7_isOperator_35 rfl rfl
def f_X7_isUnit (a1 : Int32) (w : jw) : Option (Bool × jw) := (if a1 = 2 then some (true, w) else (if a1 < 8 then some (false, w) else (if 13 < a1 then some (false, w) else some (true, w))))
set_option maxRecDepth 20000 in
set_option maxHeartbeats 2000000 in
theorem s_X7_isUnit {E : jE} (hE : jfull E) {a1 : Int32} {w w' : jw} {v : Bool} (hf : f_X7_isUnit a1 w = some (v, w')) : jC E m_X7_isUnit 0 [.int a1] w (some (.int (jb v))) w' := by
  refine jC_of (ls := [(0, .int a1)]) (by decide) rfl (fun _ => trivial) (Nat.le_of_ble_eq_true rfl) rfl jb_ans ?_
  unfold f_X7_isUnit at hf
  refine jx_iload_n dX7_isUnit_0 rfl ?_
  refine jx_iconst (v := 2) dX7_isUnit_1 (by decide) ?_
  refine jx_icmp_eq (tgt := 17) dX7_isUnit_2 (by decide) (fun c1 => ?_) (fun c1 => ?_)
  · rw [if_pos c1] at hf
    refine jx_iconst (v := 1) dX7_isUnit_17 (by decide) ?_
    refine jx_goto (tgt := 22) dX7_isUnit_18 (by decide) ?_
    cases hf
    exact jx_iret dX7_isUnit_22 rfl rfl
  · rw [if_neg c1] at hf
    refine jx_iload_n dX7_isUnit_5 rfl ?_
    refine jx_bipush (v := 8) dX7_isUnit_6 (by decide) ?_
    refine jx_icmp_lt (tgt := 21) dX7_isUnit_8 (by decide) (fun c2 => ?_) (fun c2 => ?_)
    · rw [if_pos c2] at hf
      refine jx_iconst (v := 0) dX7_isUnit_21 (by decide) ?_
      cases hf
      exact jx_iret dX7_isUnit_22 rfl rfl
    · rw [if_neg c2] at hf
      refine jx_iload_n dX7_isUnit_11 rfl ?_
      refine jx_bipush (v := 13) dX7_isUnit_12 (by decide) ?_
      refine jx_icmp_gt (tgt := 21) dX7_isUnit_14 (by decide) (fun c3 => ?_) (fun c3 => ?_)
      · rw [if_pos c3] at hf
        refine jx_iconst (v := 0) dX7_isUnit_21 (by decide) ?_
        cases hf
        exact jx_iret dX7_isUnit_22 rfl rfl
      · rw [if_neg c3] at hf
        refine jx_iconst (v := 1) dX7_isUnit_17 (by decide) ?_
        refine jx_goto (tgt := 22) dX7_isUnit_18 (by decide) ?_
        cases hf
        exact jx_iret dX7_isUnit_22 rfl rfl
def l_X7_parseExpression : Nat → Int32 → Int32 → Int32 → jw → Option (jw)
  | 0, _, _, _, _ => none
  | n + 1, b1, b2, b3, w => (if 400 < b3 then some w else (if (w.1 10 6) = 0 then jbd2 (f_X7_ahead  w) fun x4 w5 => (if b2 = 0 then (if b2 = 0 then (if b2 = 0 then jbd2 (f_X7_isOperator x4 w5) fun x10 w11 => (if (jb x10) = 0 then (if b1 = 0 then some w11 else jbd2 (if x4 = 41 then jl (b1 + (-1)) fun x21 => some (x21, w11) else jbd (f_X7_fail 1 w11) fun q20 => some (b1, q20)) fun x15 w16 => jbd (f_X7_take  w16) fun q18 => jl (b3 + 1) fun x19 => (l_X7_parseExpression n x15 b2 x19 q18)) else jbd (f_X7_take  w11) fun q22 => jl (b3 + 1) fun x23 => (l_X7_parseExpression n b1 1 x23 q22)) else jbd (f_X7_fail 1 w5) fun q24 => jbd (f_X7_take  q24) fun q25 => jl (b3 + 1) fun x26 => (l_X7_parseExpression n b1 b2 x26 q25)) else jbd2 (f_X7_isUnit x4 w5) fun x28 w29 => (if (jb x28) = 0 then (if b2 = 0 then jbd2 (f_X7_isOperator x4 w29) fun x33 w34 => (if (jb x33) = 0 then (if b1 = 0 then some w34 else jbd2 (if x4 = 41 then jl (b1 + (-1)) fun x44 => some (x44, w34) else jbd (f_X7_fail 1 w34) fun q43 => some (b1, q43)) fun x38 w39 => jbd (f_X7_take  w39) fun q41 => jl (b3 + 1) fun x42 => (l_X7_parseExpression n x38 b2 x42 q41)) else jbd (f_X7_take  w34) fun q45 => jl (b3 + 1) fun x46 => (l_X7_parseExpression n b1 1 x46 q45)) else jbd (f_X7_fail 1 w29) fun q47 => jbd (f_X7_take  q47) fun q48 => jl (b3 + 1) fun x49 => (l_X7_parseExpression n b1 b2 x49 q48)) else jbd (f_X7_take  w29) fun q50 => jl (b3 + 1) fun x51 => (l_X7_parseExpression n b1 0 x51 q50))) else (if x4 = 40 then jl (b1 + 1) fun x98 => jbd (if x98 ≤ 6 then some w5 else jbd (f_X7_fail 2 w5) fun q104 => some q104) fun w100 => jbd (f_X7_take  w100) fun q102 => jl (b3 + 1) fun x103 => (l_X7_parseExpression n x98 b2 x103 q102) else (if b2 = 0 then (if b2 = 0 then jbd2 (f_X7_isOperator x4 w5) fun x56 w57 => (if (jb x56) = 0 then (if b1 = 0 then some w57 else jbd2 (if x4 = 41 then jl (b1 + (-1)) fun x67 => some (x67, w57) else jbd (f_X7_fail 1 w57) fun q66 => some (b1, q66)) fun x61 w62 => jbd (f_X7_take  w62) fun q64 => jl (b3 + 1) fun x65 => (l_X7_parseExpression n x61 b2 x65 q64)) else jbd (f_X7_take  w57) fun q68 => jl (b3 + 1) fun x69 => (l_X7_parseExpression n b1 1 x69 q68)) else jbd (f_X7_fail 1 w5) fun q70 => jbd (f_X7_take  q70) fun q71 => jl (b3 + 1) fun x72 => (l_X7_parseExpression n b1 b2 x72 q71)) else jbd2 (f_X7_isUnit x4 w5) fun x74 w75 => (if (jb x74) = 0 then (if b2 = 0 then jbd2 (f_X7_isOperator x4 w75) fun x79 w80 => (if (jb x79) = 0 then (if b1 = 0 then some w80 else jbd2 (if x4 = 41 then jl (b1 + (-1)) fun x90 => some (x90, w80) else jbd (f_X7_fail 1 w80) fun q89 => some (b1, q89)) fun x84 w85 => jbd (f_X7_take  w85) fun q87 => jl (b3 + 1) fun x88 => (l_X7_parseExpression n x84 b2 x88 q87)) else jbd (f_X7_take  w80) fun q91 => jl (b3 + 1) fun x92 => (l_X7_parseExpression n b1 1 x92 q91)) else jbd (f_X7_fail 1 w75) fun q93 => jbd (f_X7_take  q93) fun q94 => jl (b3 + 1) fun x95 => (l_X7_parseExpression n b1 b2 x95 q94)) else jbd (f_X7_take  w75) fun q96 => jl (b3 + 1) fun x97 => (l_X7_parseExpression n b1 0 x97 q96))))) else some w))
set_option maxRecDepth 20000 in
set_option maxHeartbeats 2000000 in
theorem sl_X7_parseExpression {E : jE} (hE : jfull E) : ∀ (n : Nat) (b1 : Int32) (b2 : Int32) (b3 : Int32) (w : jw) (w' : jw), l_X7_parseExpression n b1 b2 b3 w = some w' → jX E m_X7_parseExpression 2 6 [(0, .ref (E.2.2.2 + 10)), (1, .int b1), (2, .int b2), (3, .int b3)] [] w none w' := by
  intro n
  induction n with
  | zero => intro b1 b2 b3 w w' hf; cases hf
  | succ n ih =>
    intro b1 b2 b3 w w' hf
    unfold l_X7_parseExpression at hf
    refine jx_iload_n dX7_parseExpression_6 rfl ?_
    refine jx_sipush (v := 400) dX7_parseExpression_7 (by decide) ?_
    refine jx_icmp_gt (tgt := 129) dX7_parseExpression_10 (by decide) (fun c1 => ?_) (fun c1 => ?_)
    · rw [if_pos c1] at hf
      cases hf
      exact jx_vret dX7_parseExpression_129 rfl rfl
    · rw [if_neg c1] at hf
      refine jx_aload_n dX7_parseExpression_13 rfl ?_
      refine jx_geti dX7_parseExpression_14 fl_X7_34 kj_10 sr_10_6 ?_
      refine jx_if_ne (tgt := 129) dX7_parseExpression_17 (by decide) (fun c2 => ?_) (fun c2 => ?_)
      · rw [if_neg c2] at hf
        cases hf
        exact jx_vret dX7_parseExpression_129 rfl rfl
      · rw [if_pos c2] at hf
        refine jx_aload_n dX7_parseExpression_20 rfl ?_
        obtain ⟨x4, w5, hq3, hf⟩ := jbd2_inv hf
        refine jx_cVi (a := 10) (As := []) (rest := []) dX7_parseExpression_21 ml_X7_77 mv_X7_ahead (s_X7_ahead hE hq3) rfl rfl jc_10 (by decide) (Nat.le_of_ble_eq_true rfl) ?_
        refine jx_istore (ls' := [(0, .ref (E.2.2.2 + 10)), (1, .int b1), (2, .int b2), (3, .int b3), (4, .int x4)]) dX7_parseExpression_24 (by decide) rfl ?_
        refine jx_iload_n dX7_parseExpression_26 rfl ?_
        refine jx_if_eq (tgt := 54) dX7_parseExpression_27 (by decide) (fun c6 => ?_) (fun c6 => ?_)
        · rw [if_pos c6] at hf
          refine jx_iload_n dX7_parseExpression_54 rfl ?_
          refine jx_if_eq (tgt := 71) dX7_parseExpression_55 (by decide) (fun c7 => ?_) (fun c7 => ?_)
          · rw [if_pos c7] at hf
            refine jx_iload_n dX7_parseExpression_71 rfl ?_
            refine jx_if_eq (tgt := 83) dX7_parseExpression_72 (by decide) (fun c8 => ?_) (fun c8 => ?_)
            · rw [if_pos c8] at hf
              refine jx_iload dX7_parseExpression_83 rfl ?_
              obtain ⟨x10, w11, hq9, hf⟩ := jbd2_inv hf
              refine jx_cSi (As := [.int x4]) (rest := []) dX7_parseExpression_85 ml_X7_119 ms_X7_isOperator (s_X7_isOperator hE hq9) rfl rfl rfl (by decide) (Nat.le_of_ble_eq_true rfl) ?_
              refine jx_if_eq (tgt := 96) dX7_parseExpression_88 (by decide) (fun c12 => ?_) (fun c12 => ?_)
              · rw [if_pos c12] at hf
                refine jx_iload_n dX7_parseExpression_96 rfl ?_
                refine jx_if_ne (tgt := 101) dX7_parseExpression_97 (by decide) (fun c13 => ?_) (fun c13 => ?_)
                · rw [if_neg c13] at hf
                  refine jx_iload dX7_parseExpression_101 rfl ?_
                  refine jx_bipush (v := 41) dX7_parseExpression_103 (by decide) ?_
                  obtain ⟨x15, w16, hqhJ17, hf⟩ := jbd2_inv hf
                  have hJ17 : jX E m_X7_parseExpression 2 119 [(0, .ref (E.2.2.2 + 10)), (1, .int x15), (2, .int b2), (3, .int b3), (4, .int x4)] [] w16 none w' := by
                    refine jx_aload_n dX7_parseExpression_119 rfl ?_
                    obtain ⟨q18, hq18, hf⟩ := jbd_inv hf
                    refine jx_cVv (a := 10) (As := []) (rest := []) dX7_parseExpression_120 ml_X7_81 mv_X7_take (s_X7_take hE hq18) rfl rfl jc_10 (by decide) (Nat.le_of_ble_eq_true rfl) ?_
                    obtain ⟨x19, hx19, hf⟩ := jl_inv hf
                    refine jx_iinc (v := x19) (ls' := [(0, .ref (E.2.2.2 + 10)), (1, .int x15), (2, .int b2), (3, .int x19), (4, .int x4)]) dX7_parseExpression_123 rfl (by rw [hx19]; rfl) (by decide) rfl ?_
                    refine jx_goto (tgt := 6) dX7_parseExpression_126 (by decide) ?_
                    refine jx_pick [0, 1, 2, 3] rfl ?_
                    exact ih _ _ _ _ _ hf
                  clear hf
                  have hf := hqhJ17
                  clear hqhJ17
                  refine jx_icmp_ne (tgt := 114) dX7_parseExpression_105 (by decide) (fun c14 => ?_) (fun c14 => ?_)
                  · rw [if_neg c14] at hf
                    refine jx_aload_n dX7_parseExpression_114 rfl ?_
                    refine jx_iconst (v := 1) dX7_parseExpression_115 (by decide) ?_
                    obtain ⟨q20, hq20, hf⟩ := jbd_inv hf
                    refine jx_cVv (a := 10) (As := [.int 1]) (rest := []) dX7_parseExpression_116 ml_X7_103 mv_X7_fail (s_X7_fail hE hq20) rfl rfl jc_10 (by decide) (Nat.le_of_ble_eq_true rfl) ?_
                    cases hf
                    exact hJ17
                  · rw [if_pos c14] at hf
                    obtain ⟨x21, hx21, hf⟩ := jl_inv hf
                    refine jx_iinc (v := x21) (ls' := [(0, .ref (E.2.2.2 + 10)), (1, .int x21), (2, .int b2), (3, .int b3), (4, .int x4)]) dX7_parseExpression_108 rfl (by rw [hx21]; rfl) (by decide) rfl ?_
                    refine jx_goto (tgt := 119) dX7_parseExpression_111 (by decide) ?_
                    cases hf
                    exact hJ17
                · rw [if_pos c13] at hf
                  cases hf
                  exact jx_vret dX7_parseExpression_100 rfl rfl
              · rw [if_neg c12] at hf
                refine jx_iconst (v := 1) dX7_parseExpression_91 (by decide) ?_
                refine jx_istore_n (ls' := [(0, .ref (E.2.2.2 + 10)), (1, .int b1), (2, .int 1), (3, .int b3), (4, .int x4)]) dX7_parseExpression_92 (by decide) rfl ?_
                refine jx_goto (tgt := 119) dX7_parseExpression_93 (by decide) ?_
                refine jx_aload_n dX7_parseExpression_119 rfl ?_
                obtain ⟨q22, hq22, hf⟩ := jbd_inv hf
                refine jx_cVv (a := 10) (As := []) (rest := []) dX7_parseExpression_120 ml_X7_81 mv_X7_take (s_X7_take hE hq22) rfl rfl jc_10 (by decide) (Nat.le_of_ble_eq_true rfl) ?_
                obtain ⟨x23, hx23, hf⟩ := jl_inv hf
                refine jx_iinc (v := x23) (ls' := [(0, .ref (E.2.2.2 + 10)), (1, .int b1), (2, .int 1), (3, .int x23), (4, .int x4)]) dX7_parseExpression_123 rfl (by rw [hx23]; rfl) (by decide) rfl ?_
                refine jx_goto (tgt := 6) dX7_parseExpression_126 (by decide) ?_
                refine jx_pick [0, 1, 2, 3] rfl ?_
                exact ih _ _ _ _ _ hf
            · rw [if_neg c8] at hf
              refine jx_aload_n dX7_parseExpression_75 rfl ?_
              refine jx_iconst (v := 1) dX7_parseExpression_76 (by decide) ?_
              obtain ⟨q24, hq24, hf⟩ := jbd_inv hf
              refine jx_cVv (a := 10) (As := [.int 1]) (rest := []) dX7_parseExpression_77 ml_X7_103 mv_X7_fail (s_X7_fail hE hq24) rfl rfl jc_10 (by decide) (Nat.le_of_ble_eq_true rfl) ?_
              refine jx_goto (tgt := 119) dX7_parseExpression_80 (by decide) ?_
              refine jx_aload_n dX7_parseExpression_119 rfl ?_
              obtain ⟨q25, hq25, hf⟩ := jbd_inv hf
              refine jx_cVv (a := 10) (As := []) (rest := []) dX7_parseExpression_120 ml_X7_81 mv_X7_take (s_X7_take hE hq25) rfl rfl jc_10 (by decide) (Nat.le_of_ble_eq_true rfl) ?_
              obtain ⟨x26, hx26, hf⟩ := jl_inv hf
              refine jx_iinc (v := x26) (ls' := [(0, .ref (E.2.2.2 + 10)), (1, .int b1), (2, .int b2), (3, .int x26), (4, .int x4)]) dX7_parseExpression_123 rfl (by rw [hx26]; rfl) (by decide) rfl ?_
              refine jx_goto (tgt := 6) dX7_parseExpression_126 (by decide) ?_
              refine jx_pick [0, 1, 2, 3] rfl ?_
              exact ih _ _ _ _ _ hf
          · rw [if_neg c7] at hf
            refine jx_iload dX7_parseExpression_58 rfl ?_
            obtain ⟨x28, w29, hq27, hf⟩ := jbd2_inv hf
            refine jx_cSi (As := [.int x4]) (rest := []) dX7_parseExpression_60 ml_X7_115 ms_X7_isUnit (s_X7_isUnit hE hq27) rfl rfl rfl (by decide) (Nat.le_of_ble_eq_true rfl) ?_
            refine jx_if_eq (tgt := 71) dX7_parseExpression_63 (by decide) (fun c30 => ?_) (fun c30 => ?_)
            · rw [if_pos c30] at hf
              refine jx_iload_n dX7_parseExpression_71 rfl ?_
              refine jx_if_eq (tgt := 83) dX7_parseExpression_72 (by decide) (fun c31 => ?_) (fun c31 => ?_)
              · rw [if_pos c31] at hf
                refine jx_iload dX7_parseExpression_83 rfl ?_
                obtain ⟨x33, w34, hq32, hf⟩ := jbd2_inv hf
                refine jx_cSi (As := [.int x4]) (rest := []) dX7_parseExpression_85 ml_X7_119 ms_X7_isOperator (s_X7_isOperator hE hq32) rfl rfl rfl (by decide) (Nat.le_of_ble_eq_true rfl) ?_
                refine jx_if_eq (tgt := 96) dX7_parseExpression_88 (by decide) (fun c35 => ?_) (fun c35 => ?_)
                · rw [if_pos c35] at hf
                  refine jx_iload_n dX7_parseExpression_96 rfl ?_
                  refine jx_if_ne (tgt := 101) dX7_parseExpression_97 (by decide) (fun c36 => ?_) (fun c36 => ?_)
                  · rw [if_neg c36] at hf
                    refine jx_iload dX7_parseExpression_101 rfl ?_
                    refine jx_bipush (v := 41) dX7_parseExpression_103 (by decide) ?_
                    obtain ⟨x38, w39, hqhJ40, hf⟩ := jbd2_inv hf
                    have hJ40 : jX E m_X7_parseExpression 2 119 [(0, .ref (E.2.2.2 + 10)), (1, .int x38), (2, .int b2), (3, .int b3), (4, .int x4)] [] w39 none w' := by
                      refine jx_aload_n dX7_parseExpression_119 rfl ?_
                      obtain ⟨q41, hq41, hf⟩ := jbd_inv hf
                      refine jx_cVv (a := 10) (As := []) (rest := []) dX7_parseExpression_120 ml_X7_81 mv_X7_take (s_X7_take hE hq41) rfl rfl jc_10 (by decide) (Nat.le_of_ble_eq_true rfl) ?_
                      obtain ⟨x42, hx42, hf⟩ := jl_inv hf
                      refine jx_iinc (v := x42) (ls' := [(0, .ref (E.2.2.2 + 10)), (1, .int x38), (2, .int b2), (3, .int x42), (4, .int x4)]) dX7_parseExpression_123 rfl (by rw [hx42]; rfl) (by decide) rfl ?_
                      refine jx_goto (tgt := 6) dX7_parseExpression_126 (by decide) ?_
                      refine jx_pick [0, 1, 2, 3] rfl ?_
                      exact ih _ _ _ _ _ hf
                    clear hf
                    have hf := hqhJ40
                    clear hqhJ40
                    refine jx_icmp_ne (tgt := 114) dX7_parseExpression_105 (by decide) (fun c37 => ?_) (fun c37 => ?_)
                    · rw [if_neg c37] at hf
                      refine jx_aload_n dX7_parseExpression_114 rfl ?_
                      refine jx_iconst (v := 1) dX7_parseExpression_115 (by decide) ?_
                      obtain ⟨q43, hq43, hf⟩ := jbd_inv hf
                      refine jx_cVv (a := 10) (As := [.int 1]) (rest := []) dX7_parseExpression_116 ml_X7_103 mv_X7_fail (s_X7_fail hE hq43) rfl rfl jc_10 (by decide) (Nat.le_of_ble_eq_true rfl) ?_
                      cases hf
                      exact hJ40
                    · rw [if_pos c37] at hf
                      obtain ⟨x44, hx44, hf⟩ := jl_inv hf
                      refine jx_iinc (v := x44) (ls' := [(0, .ref (E.2.2.2 + 10)), (1, .int x44), (2, .int b2), (3, .int b3), (4, .int x4)]) dX7_parseExpression_108 rfl (by rw [hx44]; rfl) (by decide) rfl ?_
                      refine jx_goto (tgt := 119) dX7_parseExpression_111 (by decide) ?_
                      cases hf
                      exact hJ40
                  · rw [if_pos c36] at hf
                    cases hf
                    exact jx_vret dX7_parseExpression_100 rfl rfl
                · rw [if_neg c35] at hf
                  refine jx_iconst (v := 1) dX7_parseExpression_91 (by decide) ?_
                  refine jx_istore_n (ls' := [(0, .ref (E.2.2.2 + 10)), (1, .int b1), (2, .int 1), (3, .int b3), (4, .int x4)]) dX7_parseExpression_92 (by decide) rfl ?_
                  refine jx_goto (tgt := 119) dX7_parseExpression_93 (by decide) ?_
                  refine jx_aload_n dX7_parseExpression_119 rfl ?_
                  obtain ⟨q45, hq45, hf⟩ := jbd_inv hf
                  refine jx_cVv (a := 10) (As := []) (rest := []) dX7_parseExpression_120 ml_X7_81 mv_X7_take (s_X7_take hE hq45) rfl rfl jc_10 (by decide) (Nat.le_of_ble_eq_true rfl) ?_
                  obtain ⟨x46, hx46, hf⟩ := jl_inv hf
                  refine jx_iinc (v := x46) (ls' := [(0, .ref (E.2.2.2 + 10)), (1, .int b1), (2, .int 1), (3, .int x46), (4, .int x4)]) dX7_parseExpression_123 rfl (by rw [hx46]; rfl) (by decide) rfl ?_
                  refine jx_goto (tgt := 6) dX7_parseExpression_126 (by decide) ?_
                  refine jx_pick [0, 1, 2, 3] rfl ?_
                  exact ih _ _ _ _ _ hf
              · rw [if_neg c31] at hf
                refine jx_aload_n dX7_parseExpression_75 rfl ?_
                refine jx_iconst (v := 1) dX7_parseExpression_76 (by decide) ?_
                obtain ⟨q47, hq47, hf⟩ := jbd_inv hf
                refine jx_cVv (a := 10) (As := [.int 1]) (rest := []) dX7_parseExpression_77 ml_X7_103 mv_X7_fail (s_X7_fail hE hq47) rfl rfl jc_10 (by decide) (Nat.le_of_ble_eq_true rfl) ?_
                refine jx_goto (tgt := 119) dX7_parseExpression_80 (by decide) ?_
                refine jx_aload_n dX7_parseExpression_119 rfl ?_
                obtain ⟨q48, hq48, hf⟩ := jbd_inv hf
                refine jx_cVv (a := 10) (As := []) (rest := []) dX7_parseExpression_120 ml_X7_81 mv_X7_take (s_X7_take hE hq48) rfl rfl jc_10 (by decide) (Nat.le_of_ble_eq_true rfl) ?_
                obtain ⟨x49, hx49, hf⟩ := jl_inv hf
                refine jx_iinc (v := x49) (ls' := [(0, .ref (E.2.2.2 + 10)), (1, .int b1), (2, .int b2), (3, .int x49), (4, .int x4)]) dX7_parseExpression_123 rfl (by rw [hx49]; rfl) (by decide) rfl ?_
                refine jx_goto (tgt := 6) dX7_parseExpression_126 (by decide) ?_
                refine jx_pick [0, 1, 2, 3] rfl ?_
                exact ih _ _ _ _ _ hf
            · rw [if_neg c30] at hf
              refine jx_iconst (v := 0) dX7_parseExpression_66 (by decide) ?_
              refine jx_istore_n (ls' := [(0, .ref (E.2.2.2 + 10)), (1, .int b1), (2, .int 0), (3, .int b3), (4, .int x4)]) dX7_parseExpression_67 (by decide) rfl ?_
              refine jx_goto (tgt := 119) dX7_parseExpression_68 (by decide) ?_
              refine jx_aload_n dX7_parseExpression_119 rfl ?_
              obtain ⟨q50, hq50, hf⟩ := jbd_inv hf
              refine jx_cVv (a := 10) (As := []) (rest := []) dX7_parseExpression_120 ml_X7_81 mv_X7_take (s_X7_take hE hq50) rfl rfl jc_10 (by decide) (Nat.le_of_ble_eq_true rfl) ?_
              obtain ⟨x51, hx51, hf⟩ := jl_inv hf
              refine jx_iinc (v := x51) (ls' := [(0, .ref (E.2.2.2 + 10)), (1, .int b1), (2, .int 0), (3, .int x51), (4, .int x4)]) dX7_parseExpression_123 rfl (by rw [hx51]; rfl) (by decide) rfl ?_
              refine jx_goto (tgt := 6) dX7_parseExpression_126 (by decide) ?_
              refine jx_pick [0, 1, 2, 3] rfl ?_
              exact ih _ _ _ _ _ hf
        · rw [if_neg c6] at hf
          refine jx_iload dX7_parseExpression_30 rfl ?_
          refine jx_bipush (v := 40) dX7_parseExpression_32 (by decide) ?_
          refine jx_icmp_ne (tgt := 54) dX7_parseExpression_34 (by decide) (fun c52 => ?_) (fun c52 => ?_)
          · rw [if_neg c52] at hf
            refine jx_iload_n dX7_parseExpression_54 rfl ?_
            refine jx_if_eq (tgt := 71) dX7_parseExpression_55 (by decide) (fun c53 => ?_) (fun c53 => ?_)
            · rw [if_pos c53] at hf
              refine jx_iload_n dX7_parseExpression_71 rfl ?_
              refine jx_if_eq (tgt := 83) dX7_parseExpression_72 (by decide) (fun c54 => ?_) (fun c54 => ?_)
              · rw [if_pos c54] at hf
                refine jx_iload dX7_parseExpression_83 rfl ?_
                obtain ⟨x56, w57, hq55, hf⟩ := jbd2_inv hf
                refine jx_cSi (As := [.int x4]) (rest := []) dX7_parseExpression_85 ml_X7_119 ms_X7_isOperator (s_X7_isOperator hE hq55) rfl rfl rfl (by decide) (Nat.le_of_ble_eq_true rfl) ?_
                refine jx_if_eq (tgt := 96) dX7_parseExpression_88 (by decide) (fun c58 => ?_) (fun c58 => ?_)
                · rw [if_pos c58] at hf
                  refine jx_iload_n dX7_parseExpression_96 rfl ?_
                  refine jx_if_ne (tgt := 101) dX7_parseExpression_97 (by decide) (fun c59 => ?_) (fun c59 => ?_)
                  · rw [if_neg c59] at hf
                    refine jx_iload dX7_parseExpression_101 rfl ?_
                    refine jx_bipush (v := 41) dX7_parseExpression_103 (by decide) ?_
                    obtain ⟨x61, w62, hqhJ63, hf⟩ := jbd2_inv hf
                    have hJ63 : jX E m_X7_parseExpression 2 119 [(0, .ref (E.2.2.2 + 10)), (1, .int x61), (2, .int b2), (3, .int b3), (4, .int x4)] [] w62 none w' := by
                      refine jx_aload_n dX7_parseExpression_119 rfl ?_
                      obtain ⟨q64, hq64, hf⟩ := jbd_inv hf
                      refine jx_cVv (a := 10) (As := []) (rest := []) dX7_parseExpression_120 ml_X7_81 mv_X7_take (s_X7_take hE hq64) rfl rfl jc_10 (by decide) (Nat.le_of_ble_eq_true rfl) ?_
                      obtain ⟨x65, hx65, hf⟩ := jl_inv hf
                      refine jx_iinc (v := x65) (ls' := [(0, .ref (E.2.2.2 + 10)), (1, .int x61), (2, .int b2), (3, .int x65), (4, .int x4)]) dX7_parseExpression_123 rfl (by rw [hx65]; rfl) (by decide) rfl ?_
                      refine jx_goto (tgt := 6) dX7_parseExpression_126 (by decide) ?_
                      refine jx_pick [0, 1, 2, 3] rfl ?_
                      exact ih _ _ _ _ _ hf
                    clear hf
                    have hf := hqhJ63
                    clear hqhJ63
                    refine jx_icmp_ne (tgt := 114) dX7_parseExpression_105 (by decide) (fun c60 => ?_) (fun c60 => ?_)
                    · rw [if_neg c60] at hf
                      refine jx_aload_n dX7_parseExpression_114 rfl ?_
                      refine jx_iconst (v := 1) dX7_parseExpression_115 (by decide) ?_
                      obtain ⟨q66, hq66, hf⟩ := jbd_inv hf
                      refine jx_cVv (a := 10) (As := [.int 1]) (rest := []) dX7_parseExpression_116 ml_X7_103 mv_X7_fail (s_X7_fail hE hq66) rfl rfl jc_10 (by decide) (Nat.le_of_ble_eq_true rfl) ?_
                      cases hf
                      exact hJ63
                    · rw [if_pos c60] at hf
                      obtain ⟨x67, hx67, hf⟩ := jl_inv hf
                      refine jx_iinc (v := x67) (ls' := [(0, .ref (E.2.2.2 + 10)), (1, .int x67), (2, .int b2), (3, .int b3), (4, .int x4)]) dX7_parseExpression_108 rfl (by rw [hx67]; rfl) (by decide) rfl ?_
                      refine jx_goto (tgt := 119) dX7_parseExpression_111 (by decide) ?_
                      cases hf
                      exact hJ63
                  · rw [if_pos c59] at hf
                    cases hf
                    exact jx_vret dX7_parseExpression_100 rfl rfl
                · rw [if_neg c58] at hf
                  refine jx_iconst (v := 1) dX7_parseExpression_91 (by decide) ?_
                  refine jx_istore_n (ls' := [(0, .ref (E.2.2.2 + 10)), (1, .int b1), (2, .int 1), (3, .int b3), (4, .int x4)]) dX7_parseExpression_92 (by decide) rfl ?_
                  refine jx_goto (tgt := 119) dX7_parseExpression_93 (by decide) ?_
                  refine jx_aload_n dX7_parseExpression_119 rfl ?_
                  obtain ⟨q68, hq68, hf⟩ := jbd_inv hf
                  refine jx_cVv (a := 10) (As := []) (rest := []) dX7_parseExpression_120 ml_X7_81 mv_X7_take (s_X7_take hE hq68) rfl rfl jc_10 (by decide) (Nat.le_of_ble_eq_true rfl) ?_
                  obtain ⟨x69, hx69, hf⟩ := jl_inv hf
                  refine jx_iinc (v := x69) (ls' := [(0, .ref (E.2.2.2 + 10)), (1, .int b1), (2, .int 1), (3, .int x69), (4, .int x4)]) dX7_parseExpression_123 rfl (by rw [hx69]; rfl) (by decide) rfl ?_
                  refine jx_goto (tgt := 6) dX7_parseExpression_126 (by decide) ?_
                  refine jx_pick [0, 1, 2, 3] rfl ?_
                  exact ih _ _ _ _ _ hf
              · rw [if_neg c54] at hf
                refine jx_aload_n dX7_parseExpression_75 rfl ?_
                refine jx_iconst (v := 1) dX7_parseExpression_76 (by decide) ?_
                obtain ⟨q70, hq70, hf⟩ := jbd_inv hf
                refine jx_cVv (a := 10) (As := [.int 1]) (rest := []) dX7_parseExpression_77 ml_X7_103 mv_X7_fail (s_X7_fail hE hq70) rfl rfl jc_10 (by decide) (Nat.le_of_ble_eq_true rfl) ?_
                refine jx_goto (tgt := 119) dX7_parseExpression_80 (by decide) ?_
                refine jx_aload_n dX7_parseExpression_119 rfl ?_
                obtain ⟨q71, hq71, hf⟩ := jbd_inv hf
                refine jx_cVv (a := 10) (As := []) (rest := []) dX7_parseExpression_120 ml_X7_81 mv_X7_take (s_X7_take hE hq71) rfl rfl jc_10 (by decide) (Nat.le_of_ble_eq_true rfl) ?_
                obtain ⟨x72, hx72, hf⟩ := jl_inv hf
                refine jx_iinc (v := x72) (ls' := [(0, .ref (E.2.2.2 + 10)), (1, .int b1), (2, .int b2), (3, .int x72), (4, .int x4)]) dX7_parseExpression_123 rfl (by rw [hx72]; rfl) (by decide) rfl ?_
                refine jx_goto (tgt := 6) dX7_parseExpression_126 (by decide) ?_
                refine jx_pick [0, 1, 2, 3] rfl ?_
                exact ih _ _ _ _ _ hf
            · rw [if_neg c53] at hf
              refine jx_iload dX7_parseExpression_58 rfl ?_
              obtain ⟨x74, w75, hq73, hf⟩ := jbd2_inv hf
              refine jx_cSi (As := [.int x4]) (rest := []) dX7_parseExpression_60 ml_X7_115 ms_X7_isUnit (s_X7_isUnit hE hq73) rfl rfl rfl (by decide) (Nat.le_of_ble_eq_true rfl) ?_
              refine jx_if_eq (tgt := 71) dX7_parseExpression_63 (by decide) (fun c76 => ?_) (fun c76 => ?_)
              · rw [if_pos c76] at hf
                refine jx_iload_n dX7_parseExpression_71 rfl ?_
                refine jx_if_eq (tgt := 83) dX7_parseExpression_72 (by decide) (fun c77 => ?_) (fun c77 => ?_)
                · rw [if_pos c77] at hf
                  refine jx_iload dX7_parseExpression_83 rfl ?_
                  obtain ⟨x79, w80, hq78, hf⟩ := jbd2_inv hf
                  refine jx_cSi (As := [.int x4]) (rest := []) dX7_parseExpression_85 ml_X7_119 ms_X7_isOperator (s_X7_isOperator hE hq78) rfl rfl rfl (by decide) (Nat.le_of_ble_eq_true rfl) ?_
                  refine jx_if_eq (tgt := 96) dX7_parseExpression_88 (by decide) (fun c81 => ?_) (fun c81 => ?_)
                  · rw [if_pos c81] at hf
                    refine jx_iload_n dX7_parseExpression_96 rfl ?_
                    refine jx_if_ne (tgt := 101) dX7_parseExpression_97 (by decide) (fun c82 => ?_) (fun c82 => ?_)
                    · rw [if_neg c82] at hf
                      refine jx_iload dX7_parseExpression_101 rfl ?_
                      refine jx_bipush (v := 41) dX7_parseExpression_103 (by decide) ?_
                      obtain ⟨x84, w85, hqhJ86, hf⟩ := jbd2_inv hf
                      have hJ86 : jX E m_X7_parseExpression 2 119 [(0, .ref (E.2.2.2 + 10)), (1, .int x84), (2, .int b2), (3, .int b3), (4, .int x4)] [] w85 none w' := by
                        refine jx_aload_n dX7_parseExpression_119 rfl ?_
                        obtain ⟨q87, hq87, hf⟩ := jbd_inv hf
                        refine jx_cVv (a := 10) (As := []) (rest := []) dX7_parseExpression_120 ml_X7_81 mv_X7_take (s_X7_take hE hq87) rfl rfl jc_10 (by decide) (Nat.le_of_ble_eq_true rfl) ?_
                        obtain ⟨x88, hx88, hf⟩ := jl_inv hf
                        refine jx_iinc (v := x88) (ls' := [(0, .ref (E.2.2.2 + 10)), (1, .int x84), (2, .int b2), (3, .int x88), (4, .int x4)]) dX7_parseExpression_123 rfl (by rw [hx88]; rfl) (by decide) rfl ?_
                        refine jx_goto (tgt := 6) dX7_parseExpression_126 (by decide) ?_
                        refine jx_pick [0, 1, 2, 3] rfl ?_
                        exact ih _ _ _ _ _ hf
                      clear hf
                      have hf := hqhJ86
                      clear hqhJ86
                      refine jx_icmp_ne (tgt := 114) dX7_parseExpression_105 (by decide) (fun c83 => ?_) (fun c83 => ?_)
                      · rw [if_neg c83] at hf
                        refine jx_aload_n dX7_parseExpression_114 rfl ?_
                        refine jx_iconst (v := 1) dX7_parseExpression_115 (by decide) ?_
                        obtain ⟨q89, hq89, hf⟩ := jbd_inv hf
                        refine jx_cVv (a := 10) (As := [.int 1]) (rest := []) dX7_parseExpression_116 ml_X7_103 mv_X7_fail (s_X7_fail hE hq89) rfl rfl jc_10 (by decide) (Nat.le_of_ble_eq_true rfl) ?_
                        cases hf
                        exact hJ86
                      · rw [if_pos c83] at hf
                        obtain ⟨x90, hx90, hf⟩ := jl_inv hf
                        refine jx_iinc (v := x90) (ls' := [(0, .ref (E.2.2.2 + 10)), (1, .int x90), (2, .int b2), (3, .int b3), (4, .int x4)]) dX7_parseExpression_108 rfl (by rw [hx90]; rfl) (by decide) rfl ?_
                        refine jx_goto (tgt := 119) dX7_parseExpression_111 (by decide) ?_
                        cases hf
                        exact hJ86
                    · rw [if_pos c82] at hf
                      cases hf
                      exact jx_vret dX7_parseExpression_100 rfl rfl
                  · rw [if_neg c81] at hf
                    refine jx_iconst (v := 1) dX7_parseExpression_91 (by decide) ?_
                    refine jx_istore_n (ls' := [(0, .ref (E.2.2.2 + 10)), (1, .int b1), (2, .int 1), (3, .int b3), (4, .int x4)]) dX7_parseExpression_92 (by decide) rfl ?_
                    refine jx_goto (tgt := 119) dX7_parseExpression_93 (by decide) ?_
                    refine jx_aload_n dX7_parseExpression_119 rfl ?_
                    obtain ⟨q91, hq91, hf⟩ := jbd_inv hf
                    refine jx_cVv (a := 10) (As := []) (rest := []) dX7_parseExpression_120 ml_X7_81 mv_X7_take (s_X7_take hE hq91) rfl rfl jc_10 (by decide) (Nat.le_of_ble_eq_true rfl) ?_
                    obtain ⟨x92, hx92, hf⟩ := jl_inv hf
                    refine jx_iinc (v := x92) (ls' := [(0, .ref (E.2.2.2 + 10)), (1, .int b1), (2, .int 1), (3, .int x92), (4, .int x4)]) dX7_parseExpression_123 rfl (by rw [hx92]; rfl) (by decide) rfl ?_
                    refine jx_goto (tgt := 6) dX7_parseExpression_126 (by decide) ?_
                    refine jx_pick [0, 1, 2, 3] rfl ?_
                    exact ih _ _ _ _ _ hf
                · rw [if_neg c77] at hf
                  refine jx_aload_n dX7_parseExpression_75 rfl ?_
                  refine jx_iconst (v := 1) dX7_parseExpression_76 (by decide) ?_
                  obtain ⟨q93, hq93, hf⟩ := jbd_inv hf
                  refine jx_cVv (a := 10) (As := [.int 1]) (rest := []) dX7_parseExpression_77 ml_X7_103 mv_X7_fail (s_X7_fail hE hq93) rfl rfl jc_10 (by decide) (Nat.le_of_ble_eq_true rfl) ?_
                  refine jx_goto (tgt := 119) dX7_parseExpression_80 (by decide) ?_
                  refine jx_aload_n dX7_parseExpression_119 rfl ?_
                  obtain ⟨q94, hq94, hf⟩ := jbd_inv hf
                  refine jx_cVv (a := 10) (As := []) (rest := []) dX7_parseExpression_120 ml_X7_81 mv_X7_take (s_X7_take hE hq94) rfl rfl jc_10 (by decide) (Nat.le_of_ble_eq_true rfl) ?_
                  obtain ⟨x95, hx95, hf⟩ := jl_inv hf
                  refine jx_iinc (v := x95) (ls' := [(0, .ref (E.2.2.2 + 10)), (1, .int b1), (2, .int b2), (3, .int x95), (4, .int x4)]) dX7_parseExpression_123 rfl (by rw [hx95]; rfl) (by decide) rfl ?_
                  refine jx_goto (tgt := 6) dX7_parseExpression_126 (by decide) ?_
                  refine jx_pick [0, 1, 2, 3] rfl ?_
                  exact ih _ _ _ _ _ hf
              · rw [if_neg c76] at hf
                refine jx_iconst (v := 0) dX7_parseExpression_66 (by decide) ?_
                refine jx_istore_n (ls' := [(0, .ref (E.2.2.2 + 10)), (1, .int b1), (2, .int 0), (3, .int b3), (4, .int x4)]) dX7_parseExpression_67 (by decide) rfl ?_
                refine jx_goto (tgt := 119) dX7_parseExpression_68 (by decide) ?_
                refine jx_aload_n dX7_parseExpression_119 rfl ?_
                obtain ⟨q96, hq96, hf⟩ := jbd_inv hf
                refine jx_cVv (a := 10) (As := []) (rest := []) dX7_parseExpression_120 ml_X7_81 mv_X7_take (s_X7_take hE hq96) rfl rfl jc_10 (by decide) (Nat.le_of_ble_eq_true rfl) ?_
                obtain ⟨x97, hx97, hf⟩ := jl_inv hf
                refine jx_iinc (v := x97) (ls' := [(0, .ref (E.2.2.2 + 10)), (1, .int b1), (2, .int 0), (3, .int x97), (4, .int x4)]) dX7_parseExpression_123 rfl (by rw [hx97]; rfl) (by decide) rfl ?_
                refine jx_goto (tgt := 6) dX7_parseExpression_126 (by decide) ?_
                refine jx_pick [0, 1, 2, 3] rfl ?_
                exact ih _ _ _ _ _ hf
          · rw [if_pos c52] at hf
            obtain ⟨x98, hx98, hf⟩ := jl_inv hf
            refine jx_iinc (v := x98) (ls' := [(0, .ref (E.2.2.2 + 10)), (1, .int x98), (2, .int b2), (3, .int b3), (4, .int x4)]) dX7_parseExpression_37 rfl (by rw [hx98]; rfl) (by decide) rfl ?_
            refine jx_iload_n dX7_parseExpression_40 rfl ?_
            refine jx_bipush (v := 6) dX7_parseExpression_41 (by decide) ?_
            obtain ⟨w100, hqhJ101, hf⟩ := jbd_inv hf
            have hJ101 : jX E m_X7_parseExpression 2 119 [(0, .ref (E.2.2.2 + 10)), (1, .int x98), (2, .int b2), (3, .int b3), (4, .int x4)] [] w100 none w' := by
              refine jx_aload_n dX7_parseExpression_119 rfl ?_
              obtain ⟨q102, hq102, hf⟩ := jbd_inv hf
              refine jx_cVv (a := 10) (As := []) (rest := []) dX7_parseExpression_120 ml_X7_81 mv_X7_take (s_X7_take hE hq102) rfl rfl jc_10 (by decide) (Nat.le_of_ble_eq_true rfl) ?_
              obtain ⟨x103, hx103, hf⟩ := jl_inv hf
              refine jx_iinc (v := x103) (ls' := [(0, .ref (E.2.2.2 + 10)), (1, .int x98), (2, .int b2), (3, .int x103), (4, .int x4)]) dX7_parseExpression_123 rfl (by rw [hx103]; rfl) (by decide) rfl ?_
              refine jx_goto (tgt := 6) dX7_parseExpression_126 (by decide) ?_
              refine jx_pick [0, 1, 2, 3] rfl ?_
              exact ih _ _ _ _ _ hf
            clear hf
            have hf := hqhJ101
            clear hqhJ101
            refine jx_icmp_le (tgt := 119) dX7_parseExpression_43 (by decide) (fun c99 => ?_) (fun c99 => ?_)
            · rw [if_pos c99] at hf
              cases hf
              exact hJ101
            · rw [if_neg c99] at hf
              refine jx_aload_n dX7_parseExpression_46 rfl ?_
              refine jx_iconst (v := 2) dX7_parseExpression_47 (by decide) ?_
              obtain ⟨q104, hq104, hf⟩ := jbd_inv hf
              refine jx_cVv (a := 10) (As := [.int 2]) (rest := []) dX7_parseExpression_48 ml_X7_103 mv_X7_fail (s_X7_fail hE hq104) rfl rfl jc_10 (by decide) (Nat.le_of_ble_eq_true rfl) ?_
              refine jx_goto (tgt := 119) dX7_parseExpression_51 (by decide) ?_
              cases hf
              exact hJ101
def f_X7_parseExpression  (w : jw) : Option (jw) := (l_X7_parseExpression jfu 0 1 0 w)
set_option maxRecDepth 20000 in
set_option maxHeartbeats 2000000 in
theorem s_X7_parseExpression {E : jE} (hE : jfull E)  {w w' : jw} (hf : f_X7_parseExpression  w = some w') : jC E m_X7_parseExpression 2 [.ref (E.2.2.2 + 10)] w none w' := by
  refine jC_of (ls := [(0, .ref (E.2.2.2 + 10))]) (by decide) rfl (fun _ => trivial) (Nat.le_of_ble_eq_true rfl) rfl rfl ?_
  unfold f_X7_parseExpression at hf
  refine jx_iconst (v := 0) dX7_parseExpression_0 (by decide) ?_
  refine jx_istore_n (ls' := [(0, .ref (E.2.2.2 + 10)), (1, .int 0)]) dX7_parseExpression_1 (by decide) rfl ?_
  refine jx_iconst (v := 1) dX7_parseExpression_2 (by decide) ?_
  refine jx_istore_n (ls' := [(0, .ref (E.2.2.2 + 10)), (1, .int 0), (2, .int 1)]) dX7_parseExpression_3 (by decide) rfl ?_
  refine jx_iconst (v := 0) dX7_parseExpression_4 (by decide) ?_
  refine jx_istore_n (ls' := [(0, .ref (E.2.2.2 + 10)), (1, .int 0), (2, .int 1), (3, .int 0)]) dX7_parseExpression_5 (by decide) rfl ?_
  exact sl_X7_parseExpression hE jfu _ _ _ _ _ hf
def f_X7_parseTell  (w : jw) : Option (jw) := jbd2 (f_X7_ahead  w) fun x2 w3 => (if x2.toInt = 4 then jbd (f_X7_markAct  w3) fun q5 => jbd (f_X7_take  q5) fun q6 => jbd (f_X7_parseExpression  q6) fun q7 => jbd (f_X7_parseExpression  q7) fun q8 => jbd (f_X7_takeKind 59 q8) fun q9 => some q9 else (if x2.toInt = 5 then jbd (f_X7_markAct  w3) fun q11 => jbd (f_X7_take  q11) fun q12 => jbd (f_X7_parseExpression  q12) fun q13 => jbd (f_X7_takeKind 59 q13) fun q14 => some q14 else (if x2.toInt = 6 then jbd (f_X7_parseDo  w3) fun q16 => some q16 else (if x2.toInt = 7 then jbd (f_X7_parseEnd  w3) fun q18 => some q18 else jbd (f_X7_fail 1 w3) fun q19 => some q19))))
set_option maxRecDepth 20000 in
set_option maxHeartbeats 2000000 in
theorem s_X7_parseTell {E : jE} (hE : jfull E)  {w w' : jw} (hf : f_X7_parseTell  w = some w') : jC E m_X7_parseTell 5 [.ref (E.2.2.2 + 10)] w none w' := by
  refine jC_of (ls := [(0, .ref (E.2.2.2 + 10))]) (by decide) rfl (fun _ => trivial) (Nat.le_of_ble_eq_true rfl) rfl rfl ?_
  unfold f_X7_parseTell at hf
  refine jx_aload_n dX7_parseTell_0 rfl ?_
  obtain ⟨x2, w3, hq1, hf⟩ := jbd2_inv hf
  refine jx_cVi (a := 10) (As := []) (rest := []) dX7_parseTell_1 ml_X7_77 mv_X7_ahead (s_X7_ahead hE hq1) rfl rfl jc_10 (by decide) (Nat.le_of_ble_eq_true rfl) ?_
  by_cases c4 : x2.toInt = 4
  · rw [if_pos c4] at hf
    refine jx_tableIn (off := 32) (tgt := 36) dX7_parseTell_4 (by omega) (by omega) (by rw [c4]; rfl) (by decide) ?_
    refine jx_aload_n dX7_parseTell_36 rfl ?_
    obtain ⟨q5, hq5, hf⟩ := jbd_inv hf
    refine jx_cVv (a := 10) (As := []) (rest := []) dX7_parseTell_37 ml_X7_91 mv_X7_markAct (s_X7_markAct hE hq5) rfl rfl jc_10 (by decide) (Nat.le_of_ble_eq_true rfl) ?_
    refine jx_aload_n dX7_parseTell_40 rfl ?_
    obtain ⟨q6, hq6, hf⟩ := jbd_inv hf
    refine jx_cVv (a := 10) (As := []) (rest := []) dX7_parseTell_41 ml_X7_81 mv_X7_take (s_X7_take hE hq6) rfl rfl jc_10 (by decide) (Nat.le_of_ble_eq_true rfl) ?_
    refine jx_aload_n dX7_parseTell_44 rfl ?_
    obtain ⟨q7, hq7, hf⟩ := jbd_inv hf
    refine jx_cVv (a := 10) (As := []) (rest := []) dX7_parseTell_45 ml_X7_94 mv_X7_parseExpression (s_X7_parseExpression hE hq7) rfl rfl jc_10 (by decide) (Nat.le_of_ble_eq_true rfl) ?_
    refine jx_aload_n dX7_parseTell_48 rfl ?_
    obtain ⟨q8, hq8, hf⟩ := jbd_inv hf
    refine jx_cVv (a := 10) (As := []) (rest := []) dX7_parseTell_49 ml_X7_94 mv_X7_parseExpression (s_X7_parseExpression hE hq8) rfl rfl jc_10 (by decide) (Nat.le_of_ble_eq_true rfl) ?_
    refine jx_aload_n dX7_parseTell_52 rfl ?_
    refine jx_bipush (v := 59) dX7_parseTell_53 (by decide) ?_
    obtain ⟨q9, hq9, hf⟩ := jbd_inv hf
    refine jx_cVv (a := 10) (As := [.int 59]) (rest := []) dX7_parseTell_55 ml_X7_88 mv_X7_takeKind (s_X7_takeKind hE hq9) rfl rfl jc_10 (by decide) (Nat.le_of_ble_eq_true rfl) ?_
    refine jx_goto (tgt := 101) dX7_parseTell_58 (by decide) ?_
    cases hf
    exact jx_vret dX7_parseTell_101 rfl rfl
  rw [if_neg c4] at hf
  by_cases c10 : x2.toInt = 5
  · rw [if_pos c10] at hf
    refine jx_tableIn (off := 57) (tgt := 61) dX7_parseTell_4 (by omega) (by omega) (by rw [c10]; rfl) (by decide) ?_
    refine jx_aload_n dX7_parseTell_61 rfl ?_
    obtain ⟨q11, hq11, hf⟩ := jbd_inv hf
    refine jx_cVv (a := 10) (As := []) (rest := []) dX7_parseTell_62 ml_X7_91 mv_X7_markAct (s_X7_markAct hE hq11) rfl rfl jc_10 (by decide) (Nat.le_of_ble_eq_true rfl) ?_
    refine jx_aload_n dX7_parseTell_65 rfl ?_
    obtain ⟨q12, hq12, hf⟩ := jbd_inv hf
    refine jx_cVv (a := 10) (As := []) (rest := []) dX7_parseTell_66 ml_X7_81 mv_X7_take (s_X7_take hE hq12) rfl rfl jc_10 (by decide) (Nat.le_of_ble_eq_true rfl) ?_
    refine jx_aload_n dX7_parseTell_69 rfl ?_
    obtain ⟨q13, hq13, hf⟩ := jbd_inv hf
    refine jx_cVv (a := 10) (As := []) (rest := []) dX7_parseTell_70 ml_X7_94 mv_X7_parseExpression (s_X7_parseExpression hE hq13) rfl rfl jc_10 (by decide) (Nat.le_of_ble_eq_true rfl) ?_
    refine jx_aload_n dX7_parseTell_73 rfl ?_
    refine jx_bipush (v := 59) dX7_parseTell_74 (by decide) ?_
    obtain ⟨q14, hq14, hf⟩ := jbd_inv hf
    refine jx_cVv (a := 10) (As := [.int 59]) (rest := []) dX7_parseTell_76 ml_X7_88 mv_X7_takeKind (s_X7_takeKind hE hq14) rfl rfl jc_10 (by decide) (Nat.le_of_ble_eq_true rfl) ?_
    refine jx_goto (tgt := 101) dX7_parseTell_79 (by decide) ?_
    cases hf
    exact jx_vret dX7_parseTell_101 rfl rfl
  rw [if_neg c10] at hf
  by_cases c15 : x2.toInt = 6
  · rw [if_pos c15] at hf
    refine jx_tableIn (off := 78) (tgt := 82) dX7_parseTell_4 (by omega) (by omega) (by rw [c15]; rfl) (by decide) ?_
    refine jx_aload_n dX7_parseTell_82 rfl ?_
    obtain ⟨q16, hq16, hf⟩ := jbd_inv hf
    refine jx_cVv (a := 10) (As := []) (rest := []) dX7_parseTell_83 ml_X7_97 mv_X7_parseDo (s_X7_parseDo hE hq16) rfl rfl jc_10 (by decide) (Nat.le_of_ble_eq_true rfl) ?_
    refine jx_goto (tgt := 101) dX7_parseTell_86 (by decide) ?_
    cases hf
    exact jx_vret dX7_parseTell_101 rfl rfl
  rw [if_neg c15] at hf
  by_cases c17 : x2.toInt = 7
  · rw [if_pos c17] at hf
    refine jx_tableIn (off := 85) (tgt := 89) dX7_parseTell_4 (by omega) (by omega) (by rw [c17]; rfl) (by decide) ?_
    refine jx_aload_n dX7_parseTell_89 rfl ?_
    obtain ⟨q18, hq18, hf⟩ := jbd_inv hf
    refine jx_cVv (a := 10) (As := []) (rest := []) dX7_parseTell_90 ml_X7_100 mv_X7_parseEnd (s_X7_parseEnd hE hq18) rfl rfl jc_10 (by decide) (Nat.le_of_ble_eq_true rfl) ?_
    refine jx_goto (tgt := 101) dX7_parseTell_93 (by decide) ?_
    cases hf
    exact jx_vret dX7_parseTell_101 rfl rfl
  rw [if_neg c17] at hf
  refine jx_tableOut (tgt := 96) dX7_parseTell_4 (by omega) (by decide) ?_
  refine jx_aload_n dX7_parseTell_96 rfl ?_
  refine jx_iconst (v := 1) dX7_parseTell_97 (by decide) ?_
  obtain ⟨q19, hq19, hf⟩ := jbd_inv hf
  refine jx_cVv (a := 10) (As := [.int 1]) (rest := []) dX7_parseTell_98 ml_X7_103 mv_X7_fail (s_X7_fail hE hq19) rfl rfl jc_10 (by decide) (Nat.le_of_ble_eq_true rfl) ?_
  cases hf
  exact jx_vret dX7_parseTell_101 rfl rfl
def l_X7_parseAll : Nat → Int32 → jw → Option (jw)
  | 0, _, _ => none
  | n + 1, b1, w => (if 400 < b1 then (if (w.1 10 6) = 0 then (if (w.1 10 5) = (-1) then some w else jl (jsetI w 10 6 5) fun w4 => jl (jsetI w4 10 7 (w4.1 10 5)) fun w5 => some w5) else jl (jsetI w 10 7 (rat (w.2.2.2 8) (w.1 10 4))) fun w6 => some w6) else (if (w.1 10 6) = 0 then jbd2 (f_X7_atEnd  w) fun x14 w15 => (if (jb x14) = 0 then jbd (f_X7_parseTell  w15) fun q22 => jl (b1 + 1) fun x23 => (l_X7_parseAll n x23 q22) else (if (w15.1 10 6) = 0 then (if (w15.1 10 5) = (-1) then some w15 else jl (jsetI w15 10 6 5) fun w19 => jl (jsetI w19 10 7 (w19.1 10 5)) fun w20 => some w20) else jl (jsetI w15 10 7 (rat (w15.2.2.2 8) (w15.1 10 4))) fun w21 => some w21)) else (if (w.1 10 6) = 0 then (if (w.1 10 5) = (-1) then some w else jl (jsetI w 10 6 5) fun w10 => jl (jsetI w10 10 7 (w10.1 10 5)) fun w11 => some w11) else jl (jsetI w 10 7 (rat (w.2.2.2 8) (w.1 10 4))) fun w12 => some w12)))
set_option maxRecDepth 20000 in
set_option maxHeartbeats 2000000 in
theorem sl_X7_parseAll {E : jE} (hE : jfull E) : ∀ (n : Nat) (b1 : Int32) (w : jw) (w' : jw), l_X7_parseAll n b1 w = some w' → jX E m_X7_parseAll 6 76 [(0, .ref (E.2.2.2 + 10)), (1, .int b1)] [] w none w' := by
  intro n
  induction n with
  | zero => intro b1 w w' hf; cases hf
  | succ n ih =>
    intro b1 w w' hf
    unfold l_X7_parseAll at hf
    refine jx_iload_n dX7_parseAll_76 rfl ?_
    refine jx_sipush (v := 400) dX7_parseAll_77 (by decide) ?_
    refine jx_icmp_gt (tgt := 107) dX7_parseAll_80 (by decide) (fun c1 => ?_) (fun c1 => ?_)
    · rw [if_pos c1] at hf
      refine jx_aload_n dX7_parseAll_107 rfl ?_
      refine jx_geti dX7_parseAll_108 fl_X7_34 kj_10 sr_10_6 ?_
      refine jx_if_eq (tgt := 135) dX7_parseAll_111 (by decide) (fun c2 => ?_) (fun c2 => ?_)
      · rw [if_pos c2] at hf
        refine jx_aload_n dX7_parseAll_135 rfl ?_
        refine jx_geti dX7_parseAll_136 fl_X7_40 kj_10 sr_10_5 ?_
        refine jx_iconst (v := (-1)) dX7_parseAll_139 (by decide) ?_
        refine jx_icmp_eq (tgt := 156) dX7_parseAll_140 (by decide) (fun c3 => ?_) (fun c3 => ?_)
        · rw [if_pos c3] at hf
          cases hf
          exact jx_vret dX7_parseAll_156 rfl rfl
        · rw [if_neg c3] at hf
          refine jx_aload_n dX7_parseAll_143 rfl ?_
          refine jx_iconst (v := 5) dX7_parseAll_144 (by decide) ?_
          refine jx_puti dX7_parseAll_145 fp_X7_34 kj_10 sr_10_6 rfl rfl ?_
          obtain ⟨w4, hw4, hf⟩ := jl_inv hf
          refine jx_nw hw4 ?_
          refine jx_aload_n dX7_parseAll_148 rfl ?_
          refine jx_aload_n dX7_parseAll_149 rfl ?_
          refine jx_geti dX7_parseAll_150 fl_X7_40 kj_10 sr_10_5 ?_
          refine jx_puti dX7_parseAll_153 fp_X7_37 kj_10 sr_10_7 rfl rfl ?_
          obtain ⟨w5, hw5, hf⟩ := jl_inv hf
          refine jx_nw hw5 ?_
          cases hf
          exact jx_vret dX7_parseAll_156 rfl rfl
      · rw [if_neg c2] at hf
        refine jx_aload_n dX7_parseAll_114 rfl ?_
        refine jx_aload_n dX7_parseAll_115 rfl ?_
        refine jx_getr dX7_parseAll_116 fl_X7_9 kj_10 sr_10_0 ?_
        refine jx_getr dX7_parseAll_119 fl_X7_71 kj_3 sr_3_3 ?_
        refine jx_aload_n dX7_parseAll_122 rfl ?_
        refine jx_geti dX7_parseAll_123 fl_X7_30 kj_10 sr_10_4 ?_
        refine jx_cVi (a := 8) (As := [.int (w.1 10 4)]) (rest := [.ref (E.2.2.2 + 10)]) dX7_parseAll_126 ml_X7_74 mv_X8_at (c_row_at (k := 0) kj_8 (by decide)) rfl rfl jc_8 (by decide) (Nat.le_of_ble_eq_true rfl) ?_
        refine jx_puti dX7_parseAll_129 fp_X7_37 kj_10 sr_10_7 rfl rfl ?_
        obtain ⟨w6, hw6, hf⟩ := jl_inv hf
        refine jx_nw hw6 ?_
        refine jx_goto (tgt := 156) dX7_parseAll_132 (by decide) ?_
        cases hf
        exact jx_vret dX7_parseAll_156 rfl rfl
    · rw [if_neg c1] at hf
      refine jx_aload_n dX7_parseAll_83 rfl ?_
      refine jx_geti dX7_parseAll_84 fl_X7_34 kj_10 sr_10_6 ?_
      refine jx_if_ne (tgt := 107) dX7_parseAll_87 (by decide) (fun c7 => ?_) (fun c7 => ?_)
      · rw [if_neg c7] at hf
        refine jx_aload_n dX7_parseAll_107 rfl ?_
        refine jx_geti dX7_parseAll_108 fl_X7_34 kj_10 sr_10_6 ?_
        refine jx_if_eq (tgt := 135) dX7_parseAll_111 (by decide) (fun c8 => ?_) (fun c8 => ?_)
        · rw [if_pos c8] at hf
          refine jx_aload_n dX7_parseAll_135 rfl ?_
          refine jx_geti dX7_parseAll_136 fl_X7_40 kj_10 sr_10_5 ?_
          refine jx_iconst (v := (-1)) dX7_parseAll_139 (by decide) ?_
          refine jx_icmp_eq (tgt := 156) dX7_parseAll_140 (by decide) (fun c9 => ?_) (fun c9 => ?_)
          · rw [if_pos c9] at hf
            cases hf
            exact jx_vret dX7_parseAll_156 rfl rfl
          · rw [if_neg c9] at hf
            refine jx_aload_n dX7_parseAll_143 rfl ?_
            refine jx_iconst (v := 5) dX7_parseAll_144 (by decide) ?_
            refine jx_puti dX7_parseAll_145 fp_X7_34 kj_10 sr_10_6 rfl rfl ?_
            obtain ⟨w10, hw10, hf⟩ := jl_inv hf
            refine jx_nw hw10 ?_
            refine jx_aload_n dX7_parseAll_148 rfl ?_
            refine jx_aload_n dX7_parseAll_149 rfl ?_
            refine jx_geti dX7_parseAll_150 fl_X7_40 kj_10 sr_10_5 ?_
            refine jx_puti dX7_parseAll_153 fp_X7_37 kj_10 sr_10_7 rfl rfl ?_
            obtain ⟨w11, hw11, hf⟩ := jl_inv hf
            refine jx_nw hw11 ?_
            cases hf
            exact jx_vret dX7_parseAll_156 rfl rfl
        · rw [if_neg c8] at hf
          refine jx_aload_n dX7_parseAll_114 rfl ?_
          refine jx_aload_n dX7_parseAll_115 rfl ?_
          refine jx_getr dX7_parseAll_116 fl_X7_9 kj_10 sr_10_0 ?_
          refine jx_getr dX7_parseAll_119 fl_X7_71 kj_3 sr_3_3 ?_
          refine jx_aload_n dX7_parseAll_122 rfl ?_
          refine jx_geti dX7_parseAll_123 fl_X7_30 kj_10 sr_10_4 ?_
          refine jx_cVi (a := 8) (As := [.int (w.1 10 4)]) (rest := [.ref (E.2.2.2 + 10)]) dX7_parseAll_126 ml_X7_74 mv_X8_at (c_row_at (k := 0) kj_8 (by decide)) rfl rfl jc_8 (by decide) (Nat.le_of_ble_eq_true rfl) ?_
          refine jx_puti dX7_parseAll_129 fp_X7_37 kj_10 sr_10_7 rfl rfl ?_
          obtain ⟨w12, hw12, hf⟩ := jl_inv hf
          refine jx_nw hw12 ?_
          refine jx_goto (tgt := 156) dX7_parseAll_132 (by decide) ?_
          cases hf
          exact jx_vret dX7_parseAll_156 rfl rfl
      · rw [if_pos c7] at hf
        refine jx_aload_n dX7_parseAll_90 rfl ?_
        obtain ⟨x14, w15, hq13, hf⟩ := jbd2_inv hf
        refine jx_cVi (a := 10) (As := []) (rest := []) dX7_parseAll_91 ml_X7_64 mv_X7_atEnd (s_X7_atEnd hE hq13) rfl rfl jc_10 (by decide) (Nat.le_of_ble_eq_true rfl) ?_
        refine jx_if_ne (tgt := 107) dX7_parseAll_94 (by decide) (fun c16 => ?_) (fun c16 => ?_)
        · rw [if_neg c16] at hf
          refine jx_aload_n dX7_parseAll_107 rfl ?_
          refine jx_geti dX7_parseAll_108 fl_X7_34 kj_10 sr_10_6 ?_
          refine jx_if_eq (tgt := 135) dX7_parseAll_111 (by decide) (fun c17 => ?_) (fun c17 => ?_)
          · rw [if_pos c17] at hf
            refine jx_aload_n dX7_parseAll_135 rfl ?_
            refine jx_geti dX7_parseAll_136 fl_X7_40 kj_10 sr_10_5 ?_
            refine jx_iconst (v := (-1)) dX7_parseAll_139 (by decide) ?_
            refine jx_icmp_eq (tgt := 156) dX7_parseAll_140 (by decide) (fun c18 => ?_) (fun c18 => ?_)
            · rw [if_pos c18] at hf
              cases hf
              exact jx_vret dX7_parseAll_156 rfl rfl
            · rw [if_neg c18] at hf
              refine jx_aload_n dX7_parseAll_143 rfl ?_
              refine jx_iconst (v := 5) dX7_parseAll_144 (by decide) ?_
              refine jx_puti dX7_parseAll_145 fp_X7_34 kj_10 sr_10_6 rfl rfl ?_
              obtain ⟨w19, hw19, hf⟩ := jl_inv hf
              refine jx_nw hw19 ?_
              refine jx_aload_n dX7_parseAll_148 rfl ?_
              refine jx_aload_n dX7_parseAll_149 rfl ?_
              refine jx_geti dX7_parseAll_150 fl_X7_40 kj_10 sr_10_5 ?_
              refine jx_puti dX7_parseAll_153 fp_X7_37 kj_10 sr_10_7 rfl rfl ?_
              obtain ⟨w20, hw20, hf⟩ := jl_inv hf
              refine jx_nw hw20 ?_
              cases hf
              exact jx_vret dX7_parseAll_156 rfl rfl
          · rw [if_neg c17] at hf
            refine jx_aload_n dX7_parseAll_114 rfl ?_
            refine jx_aload_n dX7_parseAll_115 rfl ?_
            refine jx_getr dX7_parseAll_116 fl_X7_9 kj_10 sr_10_0 ?_
            refine jx_getr dX7_parseAll_119 fl_X7_71 kj_3 sr_3_3 ?_
            refine jx_aload_n dX7_parseAll_122 rfl ?_
            refine jx_geti dX7_parseAll_123 fl_X7_30 kj_10 sr_10_4 ?_
            refine jx_cVi (a := 8) (As := [.int (w15.1 10 4)]) (rest := [.ref (E.2.2.2 + 10)]) dX7_parseAll_126 ml_X7_74 mv_X8_at (c_row_at (k := 0) kj_8 (by decide)) rfl rfl jc_8 (by decide) (Nat.le_of_ble_eq_true rfl) ?_
            refine jx_puti dX7_parseAll_129 fp_X7_37 kj_10 sr_10_7 rfl rfl ?_
            obtain ⟨w21, hw21, hf⟩ := jl_inv hf
            refine jx_nw hw21 ?_
            refine jx_goto (tgt := 156) dX7_parseAll_132 (by decide) ?_
            cases hf
            exact jx_vret dX7_parseAll_156 rfl rfl
        · rw [if_pos c16] at hf
          refine jx_aload_n dX7_parseAll_97 rfl ?_
          obtain ⟨q22, hq22, hf⟩ := jbd_inv hf
          refine jx_cVv (a := 10) (As := []) (rest := []) dX7_parseAll_98 ml_X7_68 mv_X7_parseTell (s_X7_parseTell hE hq22) rfl rfl jc_10 (by decide) (Nat.le_of_ble_eq_true rfl) ?_
          obtain ⟨x23, hx23, hf⟩ := jl_inv hf
          refine jx_iinc (v := x23) (ls' := [(0, .ref (E.2.2.2 + 10)), (1, .int x23)]) dX7_parseAll_101 rfl (by rw [hx23]; rfl) (by decide) rfl ?_
          refine jx_goto (tgt := 76) dX7_parseAll_104 (by decide) ?_
          exact ih _ _ _ hf
def f_X7_parseAll  (w : jw) : Option (jw) := jl (jsetI w 10 4 0) fun w24 => jl (jsetI w24 10 6 0) fun w25 => jl (jsetI w25 10 7 (-1)) fun w26 => jl (jsetI w26 10 5 (-1)) fun w27 => jl (jsetI w27 10 8 8) fun w28 => jl (jsetR w28 11 (rcut (w28.2.2.2 11) 0)) fun w29 => jg (decide ((w29.2.2.2 4).length ≤ 1024)) (jl (jsetR w29 13 (List.replicate ((w29.2.2.2 4).length) (-1))) fun w30 => jg (decide ((w30.2.2.2 4).length ≤ 1024)) (jl (jsetR w30 15 (List.replicate ((w30.2.2.2 4).length) 0)) fun w32 => jbd (f_X7_parsePage  w32) fun q34 => (l_X7_parseAll jfu 0 q34)))
set_option maxRecDepth 20000 in
set_option maxHeartbeats 2000000 in
theorem s_X7_parseAll {E : jE} (hE : jfull E)  {w w' : jw} (hf : f_X7_parseAll  w = some w') : jC E m_X7_parseAll 6 [.ref (E.2.2.2 + 10)] w none w' := by
  refine jC_of (ls := [(0, .ref (E.2.2.2 + 10))]) (by decide) rfl (fun _ => trivial) (Nat.le_of_ble_eq_true rfl) rfl rfl ?_
  unfold f_X7_parseAll at hf
  refine jx_aload_n dX7_parseAll_0 rfl ?_
  refine jx_iconst (v := 0) dX7_parseAll_1 (by decide) ?_
  refine jx_puti dX7_parseAll_2 fp_X7_30 kj_10 sr_10_4 rfl rfl ?_
  obtain ⟨w24, hw24, hf⟩ := jl_inv hf
  refine jx_nw hw24 ?_
  refine jx_aload_n dX7_parseAll_5 rfl ?_
  refine jx_iconst (v := 0) dX7_parseAll_6 (by decide) ?_
  refine jx_puti dX7_parseAll_7 fp_X7_34 kj_10 sr_10_6 rfl rfl ?_
  obtain ⟨w25, hw25, hf⟩ := jl_inv hf
  refine jx_nw hw25 ?_
  refine jx_aload_n dX7_parseAll_10 rfl ?_
  refine jx_iconst (v := (-1)) dX7_parseAll_11 (by decide) ?_
  refine jx_puti dX7_parseAll_12 fp_X7_37 kj_10 sr_10_7 rfl rfl ?_
  obtain ⟨w26, hw26, hf⟩ := jl_inv hf
  refine jx_nw hw26 ?_
  refine jx_aload_n dX7_parseAll_15 rfl ?_
  refine jx_iconst (v := (-1)) dX7_parseAll_16 (by decide) ?_
  refine jx_puti dX7_parseAll_17 fp_X7_40 kj_10 sr_10_5 rfl rfl ?_
  obtain ⟨w27, hw27, hf⟩ := jl_inv hf
  refine jx_nw hw27 ?_
  refine jx_aload_n dX7_parseAll_20 rfl ?_
  refine jx_bipush (v := 8) dX7_parseAll_21 (by decide) ?_
  refine jx_puti dX7_parseAll_23 fp_X7_43 kj_10 sr_10_8 rfl rfl ?_
  obtain ⟨w28, hw28, hf⟩ := jl_inv hf
  refine jx_nw hw28 ?_
  refine jx_aload_n dX7_parseAll_26 rfl ?_
  refine jx_getr dX7_parseAll_27 fl_X7_20 kj_10 sr_10_1 ?_
  refine jx_iconst (v := 0) dX7_parseAll_30 (by decide) ?_
  refine jx_cVv (a := 11) (As := [.int 0]) (rest := []) dX7_parseAll_31 ml_X7_46 mv_X8_shorten (c_row_shorten (k := 0) kj_11 (by decide)) rfl rfl jc_11 (by decide) (Nat.le_of_ble_eq_true rfl) ?_
  obtain ⟨w29, hw29, hf⟩ := jl_inv hf
  refine jx_nw hw29 ?_
  refine jx_aload_n dX7_parseAll_34 rfl ?_
  refine jx_getr dX7_parseAll_35 fl_X7_24 kj_10 sr_10_2 ?_
  refine jx_aload_n dX7_parseAll_38 rfl ?_
  refine jx_getr dX7_parseAll_39 fl_X7_9 kj_10 sr_10_0 ?_
  refine jx_getr dX7_parseAll_42 fl_X7_49 kj_3 sr_3_1 ?_
  refine jx_getn dX7_parseAll_45 fl_X7_54 kj_4 (by decide) ?_
  refine jx_iconst (v := (-1)) dX7_parseAll_48 (by decide) ?_
  obtain ⟨c31, hf⟩ := jg_inv hf
  refine jx_cVv (a := 13) (As := [.int (nI (w29.2.2.2 4).length), .int (-1)]) (rest := []) dX7_parseAll_49 ml_X7_57 mv_X8_fill (c_row_fill (k := 0) (N := (w29.2.2.2 4).length) kj_13 (by decide) (Or.inl ⟨hE, rfl, of_decide_eq_true c31⟩)) rfl rfl jc_13 (by decide) (Nat.le_of_ble_eq_true rfl) ?_
  obtain ⟨w30, hw30, hf⟩ := jl_inv hf
  refine jx_nw hw30 ?_
  refine jx_aload_n dX7_parseAll_52 rfl ?_
  refine jx_getr dX7_parseAll_53 fl_X7_27 kj_10 sr_10_3 ?_
  refine jx_aload_n dX7_parseAll_56 rfl ?_
  refine jx_getr dX7_parseAll_57 fl_X7_9 kj_10 sr_10_0 ?_
  refine jx_getr dX7_parseAll_60 fl_X7_49 kj_3 sr_3_1 ?_
  refine jx_getn dX7_parseAll_63 fl_X7_54 kj_4 (by decide) ?_
  refine jx_iconst (v := 0) dX7_parseAll_66 (by decide) ?_
  obtain ⟨c33, hf⟩ := jg_inv hf
  refine jx_cVv (a := 15) (As := [.int (nI (w30.2.2.2 4).length), .int 0]) (rest := []) dX7_parseAll_67 ml_X7_57 mv_X8_fill (c_row_fill (k := 0) (N := (w30.2.2.2 4).length) kj_15 (by decide) (Or.inl ⟨hE, rfl, of_decide_eq_true c33⟩)) rfl rfl jc_15 (by decide) (Nat.le_of_ble_eq_true rfl) ?_
  obtain ⟨w32, hw32, hf⟩ := jl_inv hf
  refine jx_nw hw32 ?_
  refine jx_aload_n dX7_parseAll_70 rfl ?_
  obtain ⟨q34, hq34, hf⟩ := jbd_inv hf
  refine jx_cVv (a := 10) (As := []) (rest := []) dX7_parseAll_71 ml_X7_61 mv_X7_parsePage (s_X7_parsePage hE hq34) rfl rfl jc_10 (by decide) (Nat.le_of_ble_eq_true rfl) ?_
  refine jx_iconst (v := 0) dX7_parseAll_74 (by decide) ?_
  refine jx_istore_n (ls' := [(0, .ref (E.2.2.2 + 10)), (1, .int 0)]) dX7_parseAll_75 (by decide) rfl ?_
  exact sl_X7_parseAll hE jfu _ _ _ hf
def f_X9_reset (a1 : Int32) (w : jw) : Option (jw) := jbd (f_X6_reset a1 w) fun q1 => jbd (f_X2_reset  q1) fun q2 => jl (jsetR q2 44 (rcut (q2.2.2.2 44) 0)) fun w3 => jl (jsetR w3 46 (rcut (w3.2.2.2 46) 0)) fun w4 => jbd2 (f_X6_open 1 0 w4) fun x6 w7 => jbd (f_X9_addRoot x6 0 w7) fun q8 => some q8
set_option maxRecDepth 20000 in
set_option maxHeartbeats 2000000 in
theorem s_X9_reset {E : jE} (hE : jfull E) {a1 : Int32} {w w' : jw} (hf : f_X9_reset a1 w = some w') : jC E m_X9_reset 4 [.ref (E.2.2.2 + 17), .int a1] w none w' := by
  refine jC_of (ls := [(0, .ref (E.2.2.2 + 17)), (1, .int a1)]) (by decide) rfl (fun _ => trivial) (Nat.le_of_ble_eq_true rfl) rfl rfl ?_
  unfold f_X9_reset at hf
  refine jx_aload_n dX9_reset_0 rfl ?_
  refine jx_getr dX9_reset_1 fl_X9_12 kj_17 sr_17_0 ?_
  refine jx_iload_n dX9_reset_4 rfl ?_
  obtain ⟨q1, hq1, hf⟩ := jbd_inv hf
  refine jx_cVv (a := 18) (As := [.int a1]) (rest := []) dX9_reset_5 ml_X9_41 mv_X6_reset (s_X6_reset hE hq1) rfl rfl jc_18 (by decide) (Nat.le_of_ble_eq_true rfl) ?_
  refine jx_aload_n dX9_reset_8 rfl ?_
  refine jx_getr dX9_reset_9 fl_X9_21 kj_17 sr_17_1 ?_
  obtain ⟨q2, hq2, hf⟩ := jbd_inv hf
  refine jx_cVv (a := 35) (As := []) (rest := []) dX9_reset_12 ml_X9_44 mv_X2_reset (s_X2_reset hE hq2) rfl rfl jc_35 (by decide) (Nat.le_of_ble_eq_true rfl) ?_
  refine jx_aload_n dX9_reset_15 rfl ?_
  refine jx_getr dX9_reset_16 fl_X9_30 kj_17 sr_17_2 ?_
  refine jx_iconst (v := 0) dX9_reset_19 (by decide) ?_
  refine jx_cVv (a := 44) (As := [.int 0]) (rest := []) dX9_reset_20 ml_X9_46 mv_X8_shorten (c_row_shorten (k := 0) kj_44 (by decide)) rfl rfl jc_44 (by decide) (Nat.le_of_ble_eq_true rfl) ?_
  obtain ⟨w3, hw3, hf⟩ := jl_inv hf
  refine jx_nw hw3 ?_
  refine jx_aload_n dX9_reset_23 rfl ?_
  refine jx_getr dX9_reset_24 fl_X9_34 kj_17 sr_17_3 ?_
  refine jx_iconst (v := 0) dX9_reset_27 (by decide) ?_
  refine jx_cVv (a := 46) (As := [.int 0]) (rest := []) dX9_reset_28 ml_X9_46 mv_X8_shorten (c_row_shorten (k := 0) kj_46 (by decide)) rfl rfl jc_46 (by decide) (Nat.le_of_ble_eq_true rfl) ?_
  obtain ⟨w4, hw4, hf⟩ := jl_inv hf
  refine jx_nw hw4 ?_
  refine jx_aload_n dX9_reset_31 rfl ?_
  refine jx_aload_n dX9_reset_32 rfl ?_
  refine jx_getr dX9_reset_33 fl_X9_12 kj_17 sr_17_0 ?_
  refine jx_iconst (v := 1) dX9_reset_36 (by decide) ?_
  refine jx_iconst (v := 0) dX9_reset_37 (by decide) ?_
  obtain ⟨x6, w7, hq5, hf⟩ := jbd2_inv hf
  refine jx_cVi (a := 18) (As := [.int 1, .int 0]) (rest := [.ref (E.2.2.2 + 17)]) dX9_reset_38 ml_X9_49 mv_X6_open (s_X6_open hE hq5) rfl rfl jc_18 (by decide) (Nat.le_of_ble_eq_true rfl) ?_
  refine jx_iconst (v := 0) dX9_reset_41 (by decide) ?_
  obtain ⟨q8, hq8, hf⟩ := jbd_inv hf
  refine jx_cVv (a := 17) (As := [.int x6, .int 0]) (rest := []) dX9_reset_42 ml_X9_53 mv_X9_addRoot (s_X9_addRoot hE hq8) rfl rfl jc_17 (by decide) (Nat.le_of_ble_eq_true rfl) ?_
  cases hf
  exact jx_vret dX9_reset_45 rfl rfl
def f_X10_start  (w : jw) : Option (jw) := (if (rat (w.2.2.2 4) 0) = 3 then jl (jsetI w 48 4 3) fun w5 => jl (jsetI w5 48 5 0) fun w6 => jl (jsetR w6 49 (rcut (w6.2.2.2 49) 0)) fun w7 => some w7 else jl (jsetI w 48 4 0) fun w2 => jl (jsetI w2 48 5 0) fun w3 => jl (jsetR w3 49 (rcut (w3.2.2.2 49) 0)) fun w4 => some w4)
set_option maxRecDepth 20000 in
set_option maxHeartbeats 2000000 in
theorem s_X10_start {E : jE} (hE : jfull E)  {w w' : jw} (hf : f_X10_start  w = some w') : jC E m_X10_start 1 [.ref (E.2.2.2 + 48)] w none w' := by
  refine jC_of (ls := [(0, .ref (E.2.2.2 + 48))]) (by decide) rfl (fun _ => trivial) (Nat.le_of_ble_eq_true rfl) rfl rfl ?_
  unfold f_X10_start at hf
  refine jx_aload_n dX10_start_0 rfl ?_
  refine jx_aload_n dX10_start_1 rfl ?_
  refine jx_getr dX10_start_2 fl_X10_9 kj_48 sr_48_0 ?_
  refine jx_getr dX10_start_5 fl_X10_32 kj_3 sr_3_1 ?_
  refine jx_iconst (v := 0) dX10_start_8 (by decide) ?_
  refine jx_cVi (a := 4) (As := [.int 0]) (rest := [.ref (E.2.2.2 + 48)]) dX10_start_9 ml_X10_37 mv_X8_at (c_row_at (k := 0) kj_4 (by decide)) rfl rfl jc_4 (by decide) (Nat.le_of_ble_eq_true rfl) ?_
  refine jx_iconst (v := 3) dX10_start_12 (by decide) ?_
  refine jx_icmp_ne (tgt := 20) dX10_start_13 (by decide) (fun c1 => ?_) (fun c1 => ?_)
  · rw [if_neg c1] at hf
    refine jx_iconst (v := 0) dX10_start_20 (by decide) ?_
    refine jx_puti dX10_start_21 fp_X10_41 kj_48 sr_48_4 rfl rfl ?_
    obtain ⟨w2, hw2, hf⟩ := jl_inv hf
    refine jx_nw hw2 ?_
    refine jx_aload_n dX10_start_24 rfl ?_
    refine jx_iconst (v := 0) dX10_start_25 (by decide) ?_
    refine jx_puti dX10_start_26 fp_X10_44 kj_48 sr_48_5 rfl rfl ?_
    obtain ⟨w3, hw3, hf⟩ := jl_inv hf
    refine jx_nw hw3 ?_
    refine jx_aload_n dX10_start_29 rfl ?_
    refine jx_getr dX10_start_30 fl_X10_28 kj_48 sr_48_3 ?_
    refine jx_iconst (v := 0) dX10_start_33 (by decide) ?_
    refine jx_cVv (a := 49) (As := [.int 0]) (rest := []) dX10_start_34 ml_X10_47 mv_X8_shorten (c_row_shorten (k := 0) kj_49 (by decide)) rfl rfl jc_49 (by decide) (Nat.le_of_ble_eq_true rfl) ?_
    obtain ⟨w4, hw4, hf⟩ := jl_inv hf
    refine jx_nw hw4 ?_
    cases hf
    exact jx_vret dX10_start_37 rfl rfl
  · rw [if_pos c1] at hf
    refine jx_iconst (v := 3) dX10_start_16 (by decide) ?_
    refine jx_goto (tgt := 21) dX10_start_17 (by decide) ?_
    refine jx_puti dX10_start_21 fp_X10_41 kj_48 sr_48_4 rfl rfl ?_
    obtain ⟨w5, hw5, hf⟩ := jl_inv hf
    refine jx_nw hw5 ?_
    refine jx_aload_n dX10_start_24 rfl ?_
    refine jx_iconst (v := 0) dX10_start_25 (by decide) ?_
    refine jx_puti dX10_start_26 fp_X10_44 kj_48 sr_48_5 rfl rfl ?_
    obtain ⟨w6, hw6, hf⟩ := jl_inv hf
    refine jx_nw hw6 ?_
    refine jx_aload_n dX10_start_29 rfl ?_
    refine jx_getr dX10_start_30 fl_X10_28 kj_48 sr_48_3 ?_
    refine jx_iconst (v := 0) dX10_start_33 (by decide) ?_
    refine jx_cVv (a := 49) (As := [.int 0]) (rest := []) dX10_start_34 ml_X10_47 mv_X8_shorten (c_row_shorten (k := 0) kj_49 (by decide)) rfl rfl jc_49 (by decide) (Nat.le_of_ble_eq_true rfl) ?_
    obtain ⟨w7, hw7, hf⟩ := jl_inv hf
    refine jx_nw hw7 ?_
    cases hf
    exact jx_vret dX10_start_37 rfl rfl
def f_X10_beginDo  (w : jw) : Option (jw) := (if (rat (w.2.2.2 15) (w.1 48 4)) = 1 then jg (decide ((w.2.2.2 49).length ≤ 4096)) (jl (jsetR w 49 (w.2.2.2 49 ++ [0])) fun w3 => jl (jsetI w3 48 4 ((w3.1 48 4) + 3)) fun w5 => some w5) else jl (jsetI w 48 4 ((rat (w.2.2.2 13) (w.1 48 4)) + 2)) fun w2 => some w2)
set_option maxRecDepth 20000 in
set_option maxHeartbeats 2000000 in
theorem s_X10_beginDo {E : jE} (hE : jfull E)  {w w' : jw} (hf : f_X10_beginDo  w = some w') : jC E m_X10_beginDo 3 [.ref (E.2.2.2 + 48)] w none w' := by
  refine jC_of (ls := [(0, .ref (E.2.2.2 + 48))]) (by decide) rfl (fun _ => trivial) (Nat.le_of_ble_eq_true rfl) rfl rfl ?_
  unfold f_X10_beginDo at hf
  refine jx_aload_n dX10_beginDo_0 rfl ?_
  refine jx_getr dX10_beginDo_1 fl_X10_15 kj_48 sr_48_1 ?_
  refine jx_getr dX10_beginDo_4 fl_X10_74 kj_10 sr_10_3 ?_
  refine jx_aload_n dX10_beginDo_7 rfl ?_
  refine jx_geti dX10_beginDo_8 fl_X10_41 kj_48 sr_48_4 ?_
  refine jx_cVi (a := 15) (As := [.int (w.1 48 4)]) (rest := []) dX10_beginDo_11 ml_X10_37 mv_X8_at (c_row_at (k := 0) kj_15 (by decide)) rfl rfl jc_15 (by decide) (Nat.le_of_ble_eq_true rfl) ?_
  refine jx_iconst (v := 1) dX10_beginDo_14 (by decide) ?_
  refine jx_icmp_ne (tgt := 39) dX10_beginDo_15 (by decide) (fun c1 => ?_) (fun c1 => ?_)
  · rw [if_neg c1] at hf
    refine jx_aload_n dX10_beginDo_39 rfl ?_
    refine jx_aload_n dX10_beginDo_40 rfl ?_
    refine jx_getr dX10_beginDo_41 fl_X10_15 kj_48 sr_48_1 ?_
    refine jx_getr dX10_beginDo_44 fl_X10_82 kj_10 sr_10_2 ?_
    refine jx_aload_n dX10_beginDo_47 rfl ?_
    refine jx_geti dX10_beginDo_48 fl_X10_41 kj_48 sr_48_4 ?_
    refine jx_cVi (a := 13) (As := [.int (w.1 48 4)]) (rest := [.ref (E.2.2.2 + 48)]) dX10_beginDo_51 ml_X10_37 mv_X8_at (c_row_at (k := 0) kj_13 (by decide)) rfl rfl jc_13 (by decide) (Nat.le_of_ble_eq_true rfl) ?_
    refine jx_iconst (v := 2) dX10_beginDo_54 (by decide) ?_
    refine jx_iadd dX10_beginDo_55 ?_
    refine jx_puti dX10_beginDo_56 fp_X10_41 kj_48 sr_48_4 rfl rfl ?_
    obtain ⟨w2, hw2, hf⟩ := jl_inv hf
    refine jx_nw hw2 ?_
    cases hf
    exact jx_vret dX10_beginDo_59 rfl rfl
  · rw [if_pos c1] at hf
    refine jx_aload_n dX10_beginDo_18 rfl ?_
    refine jx_getr dX10_beginDo_19 fl_X10_28 kj_48 sr_48_3 ?_
    refine jx_iconst (v := 0) dX10_beginDo_22 (by decide) ?_
    obtain ⟨c4, hf⟩ := jg_inv hf
    refine jx_cVv (a := 49) (As := [.int 0]) (rest := []) dX10_beginDo_23 ml_X10_79 mv_X8_add (c_row_add kj_49 (of_decide_eq_true c4) (Or.inl hE)) rfl rfl jc_49 (by decide) (Nat.le_of_ble_eq_true rfl) ?_
    obtain ⟨w3, hw3, hf⟩ := jl_inv hf
    refine jx_nw hw3 ?_
    refine jx_aload_n dX10_beginDo_26 rfl ?_
    refine jx_dup dX10_beginDo_27 rfl ?_
    refine jx_geti dX10_beginDo_28 fl_X10_41 kj_48 sr_48_4 ?_
    refine jx_iconst (v := 3) dX10_beginDo_31 (by decide) ?_
    refine jx_iadd dX10_beginDo_32 ?_
    refine jx_puti dX10_beginDo_33 fp_X10_41 kj_48 sr_48_4 rfl rfl ?_
    obtain ⟨w5, hw5, hf⟩ := jl_inv hf
    refine jx_nw hw5 ?_
    refine jx_goto (tgt := 59) dX10_beginDo_36 (by decide) ?_
    cases hf
    exact jx_vret dX10_beginDo_59 rfl rfl
def f_X10_endRound  (w : jw) : Option (jw) := jl (rat (w.2.2.2 13) (w.1 48 4) : Int32) fun x1 => jl ((rat (w.2.2.2 49) ((nI (w.2.2.2 49).length) - 1)) + 1 : Int32) fun x2 => (if (rat (w.2.2.2 6) (x1 + 1)) ≤ x2 then jl (jsetR w 49 (rcut (w.2.2.2 49) ((nI (w.2.2.2 49).length) - 1))) fun w4 => jl (jsetI w4 48 4 ((w4.1 48 4) + 2)) fun w5 => some w5 else jl (jsetR w 49 (rset (w.2.2.2 49) ((nI (w.2.2.2 49).length) - 1) x2)) fun w6 => jl (jsetI w6 48 4 (x1 + 3)) fun w7 => some w7)
set_option maxRecDepth 20000 in
set_option maxHeartbeats 2000000 in
theorem s_X10_endRound {E : jE} (hE : jfull E)  {w w' : jw} (hf : f_X10_endRound  w = some w') : jC E m_X10_endRound 1 [.ref (E.2.2.2 + 48)] w none w' := by
  refine jC_of (ls := [(0, .ref (E.2.2.2 + 48))]) (by decide) rfl (fun _ => trivial) (Nat.le_of_ble_eq_true rfl) rfl rfl ?_
  unfold f_X10_endRound at hf
  refine jx_aload_n dX10_endRound_0 rfl ?_
  refine jx_getr dX10_endRound_1 fl_X10_15 kj_48 sr_48_1 ?_
  refine jx_getr dX10_endRound_4 fl_X10_82 kj_10 sr_10_2 ?_
  refine jx_aload_n dX10_endRound_7 rfl ?_
  refine jx_geti dX10_endRound_8 fl_X10_41 kj_48 sr_48_4 ?_
  refine jx_cVi (a := 13) (As := [.int (w.1 48 4)]) (rest := []) dX10_endRound_11 ml_X10_37 mv_X8_at (c_row_at (k := 0) kj_13 (by decide)) rfl rfl jc_13 (by decide) (Nat.le_of_ble_eq_true rfl) ?_
  obtain ⟨x1, hx1, hf⟩ := jl_inv hf
  refine jx_nm hx1 ?_
  refine jx_istore_n (ls' := [(0, .ref (E.2.2.2 + 48)), (1, .int x1)]) dX10_endRound_14 (by decide) rfl ?_
  refine jx_aload_n dX10_endRound_15 rfl ?_
  refine jx_getr dX10_endRound_16 fl_X10_28 kj_48 sr_48_3 ?_
  refine jx_aload_n dX10_endRound_19 rfl ?_
  refine jx_getr dX10_endRound_20 fl_X10_28 kj_48 sr_48_3 ?_
  refine jx_getn dX10_endRound_23 fl_X10_85 kj_49 (by decide) ?_
  refine jx_iconst (v := 1) dX10_endRound_26 (by decide) ?_
  refine jx_isub dX10_endRound_27 ?_
  refine jx_cVi (a := 49) (As := [.int ((nI (w.2.2.2 49).length) - 1)]) (rest := []) dX10_endRound_28 ml_X10_37 mv_X8_at (c_row_at (k := 0) kj_49 (by decide)) rfl rfl jc_49 (by decide) (Nat.le_of_ble_eq_true rfl) ?_
  refine jx_iconst (v := 1) dX10_endRound_31 (by decide) ?_
  refine jx_iadd dX10_endRound_32 ?_
  obtain ⟨x2, hx2, hf⟩ := jl_inv hf
  refine jx_nm hx2 ?_
  refine jx_istore_n (ls' := [(0, .ref (E.2.2.2 + 48)), (1, .int x1), (2, .int x2)]) dX10_endRound_33 (by decide) rfl ?_
  refine jx_iload_n dX10_endRound_34 rfl ?_
  refine jx_aload_n dX10_endRound_35 rfl ?_
  refine jx_getr dX10_endRound_36 fl_X10_9 kj_48 sr_48_0 ?_
  refine jx_getr dX10_endRound_39 fl_X10_88 kj_3 sr_3_2 ?_
  refine jx_iload_n dX10_endRound_42 rfl ?_
  refine jx_iconst (v := 1) dX10_endRound_43 (by decide) ?_
  refine jx_iadd dX10_endRound_44 ?_
  refine jx_cVi (a := 6) (As := [.int (x1 + 1)]) (rest := [.int x2]) dX10_endRound_45 ml_X10_37 mv_X8_at (c_row_at (k := 0) kj_6 (by decide)) rfl rfl jc_6 (by decide) (Nat.le_of_ble_eq_true rfl) ?_
  refine jx_icmp_ge (tgt := 78) dX10_endRound_48 (by decide) (fun c3 => ?_) (fun c3 => ?_)
  · rw [if_pos c3] at hf
    refine jx_aload_n dX10_endRound_78 rfl ?_
    refine jx_getr dX10_endRound_79 fl_X10_28 kj_48 sr_48_3 ?_
    refine jx_aload_n dX10_endRound_82 rfl ?_
    refine jx_getr dX10_endRound_83 fl_X10_28 kj_48 sr_48_3 ?_
    refine jx_getn dX10_endRound_86 fl_X10_85 kj_49 (by decide) ?_
    refine jx_iconst (v := 1) dX10_endRound_89 (by decide) ?_
    refine jx_isub dX10_endRound_90 ?_
    refine jx_cVv (a := 49) (As := [.int ((nI (w.2.2.2 49).length) - 1)]) (rest := []) dX10_endRound_91 ml_X10_47 mv_X8_shorten (c_row_shorten (k := 0) kj_49 (by decide)) rfl rfl jc_49 (by decide) (Nat.le_of_ble_eq_true rfl) ?_
    obtain ⟨w4, hw4, hf⟩ := jl_inv hf
    refine jx_nw hw4 ?_
    refine jx_aload_n dX10_endRound_94 rfl ?_
    refine jx_dup dX10_endRound_95 rfl ?_
    refine jx_geti dX10_endRound_96 fl_X10_41 kj_48 sr_48_4 ?_
    refine jx_iconst (v := 2) dX10_endRound_99 (by decide) ?_
    refine jx_iadd dX10_endRound_100 ?_
    refine jx_puti dX10_endRound_101 fp_X10_41 kj_48 sr_48_4 rfl rfl ?_
    obtain ⟨w5, hw5, hf⟩ := jl_inv hf
    refine jx_nw hw5 ?_
    cases hf
    exact jx_vret dX10_endRound_104 rfl rfl
  · rw [if_neg c3] at hf
    refine jx_aload_n dX10_endRound_51 rfl ?_
    refine jx_getr dX10_endRound_52 fl_X10_28 kj_48 sr_48_3 ?_
    refine jx_aload_n dX10_endRound_55 rfl ?_
    refine jx_getr dX10_endRound_56 fl_X10_28 kj_48 sr_48_3 ?_
    refine jx_getn dX10_endRound_59 fl_X10_85 kj_49 (by decide) ?_
    refine jx_iconst (v := 1) dX10_endRound_62 (by decide) ?_
    refine jx_isub dX10_endRound_63 ?_
    refine jx_iload_n dX10_endRound_64 rfl ?_
    refine jx_cVv (a := 49) (As := [.int ((nI (w.2.2.2 49).length) - 1), .int x2]) (rest := []) dX10_endRound_65 ml_X10_91 mv_X8_change (c_row_change (k := 0) kj_49 (by decide)) rfl rfl jc_49 (by decide) (Nat.le_of_ble_eq_true rfl) ?_
    obtain ⟨w6, hw6, hf⟩ := jl_inv hf
    refine jx_nw hw6 ?_
    refine jx_aload_n dX10_endRound_68 rfl ?_
    refine jx_iload_n dX10_endRound_69 rfl ?_
    refine jx_iconst (v := 3) dX10_endRound_70 (by decide) ?_
    refine jx_iadd dX10_endRound_71 ?_
    refine jx_puti dX10_endRound_72 fp_X10_41 kj_48 sr_48_4 rfl rfl ?_
    obtain ⟨w7, hw7, hf⟩ := jl_inv hf
    refine jx_nw hw7 ?_
    refine jx_goto (tgt := 104) dX10_endRound_75 (by decide) ?_
    cases hf
    exact jx_vret dX10_endRound_104 rfl rfl
def f_X10_variable (a1 : Int32) (w : jw) : Option (Int32 × jw) := (if a1.toInt = 8 then some (rat (w.2.2.2 49) ((nI (w.2.2.2 49).length) - 1), w) else (if a1.toInt = 9 then some (rat (w.2.2.2 49) ((nI (w.2.2.2 49).length) - 2), w) else (if a1.toInt = 10 then jbd2 (f_X2_now  w) fun x5 w6 => some (x5, w6) else (if a1.toInt = 11 then some (w.1 35 4, w) else (if a1.toInt = 12 then some (w.1 48 5, w) else (if a1.toInt = 13 then some (nI (w.2.2.2 19).length, w) else some (0, w)))))))
set_option maxRecDepth 20000 in
set_option maxHeartbeats 2000000 in
theorem s_X10_variable {E : jE} (hE : jfull E) {a1 : Int32} {w w' : jw} {v : Int32} (hf : f_X10_variable a1 w = some (v, w')) : jC E m_X10_variable 1 [.ref (E.2.2.2 + 48), .int a1] w (some (.int v)) w' := by
  refine jC_of (ls := [(0, .ref (E.2.2.2 + 48)), (1, .int a1)]) (by decide) rfl (fun _ => trivial) (Nat.le_of_ble_eq_true rfl) rfl ⟨.int, rfl, rfl⟩ ?_
  unfold f_X10_variable at hf
  refine jx_iload_n dX10_variable_0 rfl ?_
  by_cases c1 : a1.toInt = 8
  · rw [if_pos c1] at hf
    refine jx_tableIn (off := 39) (tgt := 40) dX10_variable_1 (by omega) (by omega) (by rw [c1]; rfl) (by decide) ?_
    refine jx_aload_n dX10_variable_40 rfl ?_
    refine jx_getr dX10_variable_41 fl_X10_28 kj_48 sr_48_3 ?_
    refine jx_aload_n dX10_variable_44 rfl ?_
    refine jx_getr dX10_variable_45 fl_X10_28 kj_48 sr_48_3 ?_
    refine jx_getn dX10_variable_48 fl_X10_85 kj_49 (by decide) ?_
    refine jx_iconst (v := 1) dX10_variable_51 (by decide) ?_
    refine jx_isub dX10_variable_52 ?_
    refine jx_cVi (a := 49) (As := [.int ((nI (w.2.2.2 49).length) - 1)]) (rest := []) dX10_variable_53 ml_X10_37 mv_X8_at (c_row_at (k := 0) kj_49 (by decide)) rfl rfl jc_49 (by decide) (Nat.le_of_ble_eq_true rfl) ?_
    cases hf
    exact jx_iret dX10_variable_56 rfl rfl
  rw [if_neg c1] at hf
  by_cases c2 : a1.toInt = 9
  · rw [if_pos c2] at hf
    refine jx_tableIn (off := 56) (tgt := 57) dX10_variable_1 (by omega) (by omega) (by rw [c2]; rfl) (by decide) ?_
    refine jx_aload_n dX10_variable_57 rfl ?_
    refine jx_getr dX10_variable_58 fl_X10_28 kj_48 sr_48_3 ?_
    refine jx_aload_n dX10_variable_61 rfl ?_
    refine jx_getr dX10_variable_62 fl_X10_28 kj_48 sr_48_3 ?_
    refine jx_getn dX10_variable_65 fl_X10_85 kj_49 (by decide) ?_
    refine jx_iconst (v := 2) dX10_variable_68 (by decide) ?_
    refine jx_isub dX10_variable_69 ?_
    refine jx_cVi (a := 49) (As := [.int ((nI (w.2.2.2 49).length) - 2)]) (rest := []) dX10_variable_70 ml_X10_37 mv_X8_at (c_row_at (k := 0) kj_49 (by decide)) rfl rfl jc_49 (by decide) (Nat.le_of_ble_eq_true rfl) ?_
    cases hf
    exact jx_iret dX10_variable_73 rfl rfl
  rw [if_neg c2] at hf
  by_cases c3 : a1.toInt = 10
  · rw [if_pos c3] at hf
    refine jx_tableIn (off := 73) (tgt := 74) dX10_variable_1 (by omega) (by omega) (by rw [c3]; rfl) (by decide) ?_
    refine jx_aload_n dX10_variable_74 rfl ?_
    refine jx_getr dX10_variable_75 fl_X10_19 kj_48 sr_48_2 ?_
    refine jx_getr dX10_variable_78 fl_X10_104 kj_17 sr_17_1 ?_
    obtain ⟨x5, w6, hq4, hf⟩ := jbd2_inv hf
    refine jx_cVi (a := 35) (As := []) (rest := []) dX10_variable_81 ml_X10_110 mv_X2_now (s_X2_now hE hq4) rfl rfl jc_35 (by decide) (Nat.le_of_ble_eq_true rfl) ?_
    cases hf
    exact jx_iret dX10_variable_84 rfl rfl
  rw [if_neg c3] at hf
  by_cases c7 : a1.toInt = 11
  · rw [if_pos c7] at hf
    refine jx_tableIn (off := 84) (tgt := 85) dX10_variable_1 (by omega) (by omega) (by rw [c7]; rfl) (by decide) ?_
    refine jx_aload_n dX10_variable_85 rfl ?_
    refine jx_getr dX10_variable_86 fl_X10_19 kj_48 sr_48_2 ?_
    refine jx_getr dX10_variable_89 fl_X10_104 kj_17 sr_17_1 ?_
    refine jx_geti dX10_variable_92 fl_X10_116 kj_35 sr_35_4 ?_
    cases hf
    exact jx_iret dX10_variable_95 rfl rfl
  rw [if_neg c7] at hf
  by_cases c8 : a1.toInt = 12
  · rw [if_pos c8] at hf
    refine jx_tableIn (off := 95) (tgt := 96) dX10_variable_1 (by omega) (by omega) (by rw [c8]; rfl) (by decide) ?_
    refine jx_aload_n dX10_variable_96 rfl ?_
    refine jx_geti dX10_variable_97 fl_X10_44 kj_48 sr_48_5 ?_
    cases hf
    exact jx_iret dX10_variable_100 rfl rfl
  rw [if_neg c8] at hf
  by_cases c9 : a1.toInt = 13
  · rw [if_pos c9] at hf
    refine jx_tableIn (off := 100) (tgt := 101) dX10_variable_1 (by omega) (by omega) (by rw [c9]; rfl) (by decide) ?_
    refine jx_aload_n dX10_variable_101 rfl ?_
    refine jx_getr dX10_variable_102 fl_X10_19 kj_48 sr_48_2 ?_
    refine jx_getr dX10_variable_105 fl_X10_119 kj_17 sr_17_0 ?_
    refine jx_getr dX10_variable_108 fl_X10_123 kj_18 sr_18_0 ?_
    refine jx_getn dX10_variable_111 fl_X10_85 kj_19 (by decide) ?_
    cases hf
    exact jx_iret dX10_variable_114 rfl rfl
  rw [if_neg c9] at hf
  refine jx_tableOut (tgt := 115) dX10_variable_1 (by omega) (by decide) ?_
  refine jx_iconst (v := 0) dX10_variable_115 (by decide) ?_
  cases hf
  exact jx_iret dX10_variable_116 rfl rfl
def l_X11_feedFour : Nat → Int32 → Int32 → jw → Option (jw)
  | 0, _, _, _ => none
  | n + 1, b1, b2, w => (if b2 < 0 then some w else jg (decide ((w.2.2.2 1).length ≤ 4096)) (jl (jsetR w 1 (w.2.2.2 1 ++ [((b1.toUInt32 >>> (Int32.toUInt32 b2 &&& Int32.toUInt32 31)).toInt32) &&& 255])) fun w2 => jl (b2 + (-8)) fun x4 => (l_X11_feedFour n b1 x4 w2)))
set_option maxRecDepth 20000 in
set_option maxHeartbeats 2000000 in
theorem sl_X11_feedFour {E : jE} (hE : jfull E) : ∀ (n : Nat) (b1 : Int32) (b2 : Int32) (w : jw) (w' : jw), l_X11_feedFour n b1 b2 w = some w' → jX E m_X11_feedFour 3 3 [(0, .ref (E.2.2.2 + 0)), (1, .int b1), (2, .int b2)] [] w none w' := by
  intro n
  induction n with
  | zero => intro b1 b2 w w' hf; cases hf
  | succ n ih =>
    intro b1 b2 w w' hf
    unfold l_X11_feedFour at hf
    refine jx_iload_n dX11_feedFour_3 rfl ?_
    refine jx_if_lt (tgt := 27) dX11_feedFour_4 (by decide) (fun c1 => ?_) (fun c1 => ?_)
    · rw [if_pos c1] at hf
      cases hf
      exact jx_vret dX11_feedFour_27 rfl rfl
    · rw [if_neg c1] at hf
      refine jx_aload_n dX11_feedFour_7 rfl ?_
      refine jx_getr dX11_feedFour_8 fl_X11_12 kj_0 sr_0_0 ?_
      refine jx_iload_n dX11_feedFour_11 rfl ?_
      refine jx_iload_n dX11_feedFour_12 rfl ?_
      refine jx_iushr dX11_feedFour_13 ?_
      refine jx_sipush (v := 255) dX11_feedFour_14 (by decide) ?_
      refine jx_iand dX11_feedFour_17 ?_
      obtain ⟨c3, hf⟩ := jg_inv hf
      refine jx_cVv (a := 1) (As := [.int (((b1.toUInt32 >>> (Int32.toUInt32 b2 &&& Int32.toUInt32 31)).toInt32) &&& 255)]) (rest := []) dX11_feedFour_18 ml_X11_307 mv_X8_add (c_row_add kj_1 (of_decide_eq_true c3) (Or.inl hE)) rfl rfl jc_1 (by decide) (Nat.le_of_ble_eq_true rfl) ?_
      obtain ⟨w2, hw2, hf⟩ := jl_inv hf
      refine jx_nw hw2 ?_
      obtain ⟨x4, hx4, hf⟩ := jl_inv hf
      refine jx_iinc (v := x4) (ls' := [(0, .ref (E.2.2.2 + 0)), (1, .int b1), (2, .int x4)]) dX11_feedFour_21 rfl (by rw [hx4]; rfl) (by decide) rfl ?_
      refine jx_goto (tgt := 3) dX11_feedFour_24 (by decide) ?_
      exact ih _ _ _ _ hf
def f_X11_feedFour (a1 : Int32) (w : jw) : Option (jw) := (l_X11_feedFour jfu a1 24 w)
set_option maxRecDepth 20000 in
set_option maxHeartbeats 2000000 in
theorem s_X11_feedFour {E : jE} (hE : jfull E) {a1 : Int32} {w w' : jw} (hf : f_X11_feedFour a1 w = some w') : jC E m_X11_feedFour 3 [.ref (E.2.2.2 + 0), .int a1] w none w' := by
  refine jC_of (ls := [(0, .ref (E.2.2.2 + 0)), (1, .int a1)]) (by decide) rfl (fun _ => trivial) (Nat.le_of_ble_eq_true rfl) rfl rfl ?_
  unfold f_X11_feedFour at hf
  refine jx_bipush (v := 24) dX11_feedFour_0 (by decide) ?_
  refine jx_istore_n (ls' := [(0, .ref (E.2.2.2 + 0)), (1, .int a1), (2, .int 24)]) dX11_feedFour_2 (by decide) rfl ?_
  exact sl_X11_feedFour hE jfu _ _ _ _ hf
def f_X11_feed (a1 : Int32) (a2 : Int32) (a3 : Int32) (a4 : Int32) (a5 : Int32) (w : jw) : Option (Int32 × jw) := (if ((nI (w.2.2.2 1).length) + 20) ≤ 2000 then jbd (f_X11_feedFour a1 w) fun q2 => jbd (f_X11_feedFour a2 q2) fun q3 => jbd (f_X11_feedFour a3 q3) fun q4 => jbd (f_X11_feedFour a4 q4) fun q5 => jbd (f_X11_feedFour a5 q5) fun q6 => some (nI (q6.2.2.2 1).length, q6) else some ((-1), w))
set_option maxRecDepth 20000 in
set_option maxHeartbeats 2000000 in
theorem s_X11_feed {E : jE} (hE : jfull E) {a1 : Int32} {a2 : Int32} {a3 : Int32} {a4 : Int32} {a5 : Int32} {w w' : jw} {v : Int32} (hf : f_X11_feed a1 a2 a3 a4 a5 w = some (v, w')) : jC E m_X11_feed 4 [.ref (E.2.2.2 + 0), .int a1, .int a2, .int a3, .int a4, .int a5] w (some (.int v)) w' := by
  refine jC_of (ls := [(0, .ref (E.2.2.2 + 0)), (1, .int a1), (2, .int a2), (3, .int a3), (4, .int a4), (5, .int a5)]) (by decide) rfl (fun _ => trivial) (Nat.le_of_ble_eq_true rfl) rfl ⟨.int, rfl, rfl⟩ ?_
  unfold f_X11_feed at hf
  refine jx_aload_n dX11_feed_0 rfl ?_
  refine jx_getr dX11_feed_1 fl_X11_12 kj_0 sr_0_0 ?_
  refine jx_getn dX11_feed_4 fl_X11_98 kj_1 (by decide) ?_
  refine jx_bipush (v := 20) dX11_feed_7 (by decide) ?_
  refine jx_iadd dX11_feed_9 ?_
  refine jx_sipush (v := 2000) dX11_feed_10 (by decide) ?_
  refine jx_icmp_le (tgt := 18) dX11_feed_13 (by decide) (fun c1 => ?_) (fun c1 => ?_)
  · rw [if_pos c1] at hf
    refine jx_aload_n dX11_feed_18 rfl ?_
    refine jx_iload_n dX11_feed_19 rfl ?_
    obtain ⟨q2, hq2, hf⟩ := jbd_inv hf
    refine jx_cVv (a := 0) (As := [.int a1]) (rest := []) dX11_feed_20 ml_X11_101 mv_X11_feedFour (s_X11_feedFour hE hq2) rfl rfl jc_0 (by decide) (Nat.le_of_ble_eq_true rfl) ?_
    refine jx_aload_n dX11_feed_23 rfl ?_
    refine jx_iload_n dX11_feed_24 rfl ?_
    obtain ⟨q3, hq3, hf⟩ := jbd_inv hf
    refine jx_cVv (a := 0) (As := [.int a2]) (rest := []) dX11_feed_25 ml_X11_101 mv_X11_feedFour (s_X11_feedFour hE hq3) rfl rfl jc_0 (by decide) (Nat.le_of_ble_eq_true rfl) ?_
    refine jx_aload_n dX11_feed_28 rfl ?_
    refine jx_iload_n dX11_feed_29 rfl ?_
    obtain ⟨q4, hq4, hf⟩ := jbd_inv hf
    refine jx_cVv (a := 0) (As := [.int a3]) (rest := []) dX11_feed_30 ml_X11_101 mv_X11_feedFour (s_X11_feedFour hE hq4) rfl rfl jc_0 (by decide) (Nat.le_of_ble_eq_true rfl) ?_
    refine jx_aload_n dX11_feed_33 rfl ?_
    refine jx_iload dX11_feed_34 rfl ?_
    obtain ⟨q5, hq5, hf⟩ := jbd_inv hf
    refine jx_cVv (a := 0) (As := [.int a4]) (rest := []) dX11_feed_36 ml_X11_101 mv_X11_feedFour (s_X11_feedFour hE hq5) rfl rfl jc_0 (by decide) (Nat.le_of_ble_eq_true rfl) ?_
    refine jx_aload_n dX11_feed_39 rfl ?_
    refine jx_iload dX11_feed_40 rfl ?_
    obtain ⟨q6, hq6, hf⟩ := jbd_inv hf
    refine jx_cVv (a := 0) (As := [.int a5]) (rest := []) dX11_feed_42 ml_X11_101 mv_X11_feedFour (s_X11_feedFour hE hq6) rfl rfl jc_0 (by decide) (Nat.le_of_ble_eq_true rfl) ?_
    refine jx_aload_n dX11_feed_45 rfl ?_
    refine jx_getr dX11_feed_46 fl_X11_12 kj_0 sr_0_0 ?_
    refine jx_getn dX11_feed_49 fl_X11_98 kj_1 (by decide) ?_
    cases hf
    exact jx_iret dX11_feed_52 rfl rfl
  · rw [if_neg c1] at hf
    refine jx_iconst (v := (-1)) dX11_feed_16 (by decide) ?_
    cases hf
    exact jx_iret dX11_feed_17 rfl rfl
def f_X11_back (a1 : Int32) (w : jw) : Option (Int32 × jw) := (if a1 < 0 then some ((-1), w) else (if a1 ≤ (nI (w.2.2.2 1).length) then jl (jsetR w 1 (rcut (w.2.2.2 1) ((nI (w.2.2.2 1).length) - a1))) fun w3 => some (nI (w3.2.2.2 1).length, w3) else some ((-1), w)))
set_option maxRecDepth 20000 in
set_option maxHeartbeats 2000000 in
theorem s_X11_back {E : jE} (hE : jfull E) {a1 : Int32} {w w' : jw} {v : Int32} (hf : f_X11_back a1 w = some (v, w')) : jC E m_X11_back 1 [.ref (E.2.2.2 + 0), .int a1] w (some (.int v)) w' := by
  refine jC_of (ls := [(0, .ref (E.2.2.2 + 0)), (1, .int a1)]) (by decide) rfl (fun _ => trivial) (Nat.le_of_ble_eq_true rfl) rfl ⟨.int, rfl, rfl⟩ ?_
  unfold f_X11_back at hf
  refine jx_iload_n dX11_back_0 rfl ?_
  refine jx_if_lt (tgt := 15) dX11_back_1 (by decide) (fun c1 => ?_) (fun c1 => ?_)
  · rw [if_pos c1] at hf
    refine jx_iconst (v := (-1)) dX11_back_15 (by decide) ?_
    cases hf
    exact jx_iret dX11_back_16 rfl rfl
  · rw [if_neg c1] at hf
    refine jx_iload_n dX11_back_4 rfl ?_
    refine jx_aload_n dX11_back_5 rfl ?_
    refine jx_getr dX11_back_6 fl_X11_12 kj_0 sr_0_0 ?_
    refine jx_getn dX11_back_9 fl_X11_98 kj_1 (by decide) ?_
    refine jx_icmp_le (tgt := 17) dX11_back_12 (by decide) (fun c2 => ?_) (fun c2 => ?_)
    · rw [if_pos c2] at hf
      refine jx_aload_n dX11_back_17 rfl ?_
      refine jx_getr dX11_back_18 fl_X11_12 kj_0 sr_0_0 ?_
      refine jx_aload_n dX11_back_21 rfl ?_
      refine jx_getr dX11_back_22 fl_X11_12 kj_0 sr_0_0 ?_
      refine jx_getn dX11_back_25 fl_X11_98 kj_1 (by decide) ?_
      refine jx_iload_n dX11_back_28 rfl ?_
      refine jx_isub dX11_back_29 ?_
      refine jx_cVv (a := 1) (As := [.int ((nI (w.2.2.2 1).length) - a1)]) (rest := []) dX11_back_30 ml_X11_104 mv_X8_shorten (c_row_shorten (k := 0) kj_1 (by decide)) rfl rfl jc_1 (by decide) (Nat.le_of_ble_eq_true rfl) ?_
      obtain ⟨w3, hw3, hf⟩ := jl_inv hf
      refine jx_nw hw3 ?_
      refine jx_aload_n dX11_back_33 rfl ?_
      refine jx_getr dX11_back_34 fl_X11_12 kj_0 sr_0_0 ?_
      refine jx_getn dX11_back_37 fl_X11_98 kj_1 (by decide) ?_
      cases hf
      exact jx_iret dX11_back_40 rfl rfl
    · rw [if_neg c2] at hf
      refine jx_iconst (v := (-1)) dX11_back_15 (by decide) ?_
      cases hf
      exact jx_iret dX11_back_16 rfl rfl
def f_X11_isSlot (a1 : Int32) (w : jw) : Option (Bool × jw) := (if a1 < 0 then some (false, w) else (if (nI 3) ≤ a1 then some (false, w) else (if a1.toInt = 0 then some (true, w) else (if a1.toInt = 1 then some (true, w) else (if a1.toInt = 2 then some (true, w) else none)))))
set_option maxRecDepth 20000 in
set_option maxHeartbeats 2000000 in
theorem s_X11_isSlot {E : jE} (hE : jfull E) {a1 : Int32} {w w' : jw} {v : Bool} (hf : f_X11_isSlot a1 w = some (v, w')) : jC E m_X11_isSlot 0 [.ref (E.2.2.2 + 0), .int a1] w (some (.int (jb v))) w' := by
  refine jC_of (ls := [(0, .ref (E.2.2.2 + 0)), (1, .int a1)]) (by decide) rfl (fun _ => trivial) (Nat.le_of_ble_eq_true rfl) rfl jb_ans ?_
  unfold f_X11_isSlot at hf
  refine jx_iload_n dX11_isSlot_0 rfl ?_
  refine jx_if_lt (tgt := 26) dX11_isSlot_1 (by decide) (fun c1 => ?_) (fun c1 => ?_)
  · rw [if_pos c1] at hf
    refine jx_iconst (v := 0) dX11_isSlot_26 (by decide) ?_
    cases hf
    exact jx_iret dX11_isSlot_27 rfl rfl
  · rw [if_neg c1] at hf
    refine jx_iload_n dX11_isSlot_4 rfl ?_
    refine jx_aload_n dX11_isSlot_5 rfl ?_
    refine jx_getr dX11_isSlot_6 fl_X11_81 kj_0 sr_0_8 ?_
    refine jx_alen dX11_isSlot_9 kj_68 ?_
    refine jx_icmp_ge (tgt := 26) dX11_isSlot_10 (by decide) (fun c2 => ?_) (fun c2 => ?_)
    · rw [if_pos c2] at hf
      refine jx_iconst (v := 0) dX11_isSlot_26 (by decide) ?_
      cases hf
      exact jx_iret dX11_isSlot_27 rfl rfl
    · rw [if_neg c2] at hf
      refine jx_aload_n dX11_isSlot_13 rfl ?_
      refine jx_getr dX11_isSlot_14 fl_X11_81 kj_0 sr_0_8 ?_
      refine jx_iload_n dX11_isSlot_17 rfl ?_
      by_cases c3 : a1.toInt = 0
      · rw [if_pos c3] at hf
        refine jx_aald3 (j := 0) dX11_isSlot_18 kj_68 c3 (by decide) ?_
        refine jx_ifnull dX11_isSlot_19 ?_
        refine jx_iconst (v := 1) dX11_isSlot_22 (by decide) ?_
        refine jx_goto (tgt := 27) dX11_isSlot_23 (by decide) ?_
        cases hf
        exact jx_iret dX11_isSlot_27 rfl rfl
      rw [if_neg c3] at hf
      by_cases c4 : a1.toInt = 1
      · rw [if_pos c4] at hf
        refine jx_aald3 (j := 1) dX11_isSlot_18 kj_68 c4 (by decide) ?_
        refine jx_ifnull dX11_isSlot_19 ?_
        refine jx_iconst (v := 1) dX11_isSlot_22 (by decide) ?_
        refine jx_goto (tgt := 27) dX11_isSlot_23 (by decide) ?_
        cases hf
        exact jx_iret dX11_isSlot_27 rfl rfl
      rw [if_neg c4] at hf
      by_cases c5 : a1.toInt = 2
      · rw [if_pos c5] at hf
        refine jx_aald3 (j := 2) dX11_isSlot_18 kj_68 c5 (by decide) ?_
        refine jx_ifnull dX11_isSlot_19 ?_
        refine jx_iconst (v := 1) dX11_isSlot_22 (by decide) ?_
        refine jx_goto (tgt := 27) dX11_isSlot_23 (by decide) ?_
        cases hf
        exact jx_iret dX11_isSlot_27 rfl rfl
      rw [if_neg c5] at hf
      cases hf
def l_X11_emptySlots : Nat → Int32 → jw → Option (jw)
  | 0, _, _ => none
  | n + 1, b1, w => (if 3 ≤ b1 then some w else jbd2 (f_X11_isSlot b1 w) fun x3 w4 => (if (jb x3) = 0 then jl (b1 + 1) fun x6 => (l_X11_emptySlots n x6 w4) else (if b1.toInt = 0 then jl (jsetI w4 69 4 0) fun w8 => jl (b1 + 1) fun x9 => (l_X11_emptySlots n x9 w8) else (if b1.toInt = 1 then jl (jsetI w4 100 4 0) fun w11 => jl (b1 + 1) fun x12 => (l_X11_emptySlots n x12 w11) else (if b1.toInt = 2 then jl (jsetI w4 131 4 0) fun w14 => jl (b1 + 1) fun x15 => (l_X11_emptySlots n x15 w14) else none)))))
set_option maxRecDepth 20000 in
set_option maxHeartbeats 2000000 in
theorem sl_X11_emptySlots {E : jE} (hE : jfull E) : ∀ (n : Nat) (b1 : Int32) (w : jw) (w' : jw), l_X11_emptySlots n b1 w = some w' → jX E m_X11_emptySlots 1 2 [(0, .ref (E.2.2.2 + 0)), (1, .int b1)] [] w none w' := by
  intro n
  induction n with
  | zero => intro b1 w w' hf; cases hf
  | succ n ih =>
    intro b1 w w' hf
    unfold l_X11_emptySlots at hf
    refine jx_iload_n dX11_emptySlots_2 rfl ?_
    refine jx_iconst (v := 3) dX11_emptySlots_3 (by decide) ?_
    refine jx_icmp_ge (tgt := 31) dX11_emptySlots_4 (by decide) (fun c1 => ?_) (fun c1 => ?_)
    · rw [if_pos c1] at hf
      cases hf
      exact jx_vret dX11_emptySlots_31 rfl rfl
    · rw [if_neg c1] at hf
      refine jx_aload_n dX11_emptySlots_7 rfl ?_
      refine jx_iload_n dX11_emptySlots_8 rfl ?_
      obtain ⟨x3, w4, hq2, hf⟩ := jbd2_inv hf
      refine jx_cVi (a := 0) (As := [.int b1]) (rest := []) dX11_emptySlots_9 ml_X11_284 mv_X11_isSlot (s_X11_isSlot hE hq2) rfl rfl jc_0 (by decide) (Nat.le_of_ble_eq_true rfl) ?_
      refine jx_if_eq (tgt := 25) dX11_emptySlots_12 (by decide) (fun c5 => ?_) (fun c5 => ?_)
      · rw [if_pos c5] at hf
        obtain ⟨x6, hx6, hf⟩ := jl_inv hf
        refine jx_iinc (v := x6) (ls' := [(0, .ref (E.2.2.2 + 0)), (1, .int x6)]) dX11_emptySlots_25 rfl (by rw [hx6]; rfl) (by decide) rfl ?_
        refine jx_goto (tgt := 2) dX11_emptySlots_28 (by decide) ?_
        exact ih _ _ _ hf
      · rw [if_neg c5] at hf
        refine jx_aload_n dX11_emptySlots_15 rfl ?_
        refine jx_getr dX11_emptySlots_16 fl_X11_81 kj_0 sr_0_8 ?_
        refine jx_iload_n dX11_emptySlots_19 rfl ?_
        by_cases c7 : b1.toInt = 0
        · rw [if_pos c7] at hf
          refine jx_aald3 (j := 0) dX11_emptySlots_20 kj_68 c7 (by decide) ?_
          refine jx_iconst (v := 0) dX11_emptySlots_21 (by decide) ?_
          refine jx_puti dX11_emptySlots_22 fp_X11_290 kj_69 sr_69_4 rfl rfl ?_
          obtain ⟨w8, hw8, hf⟩ := jl_inv hf
          refine jx_nw hw8 ?_
          obtain ⟨x9, hx9, hf⟩ := jl_inv hf
          refine jx_iinc (v := x9) (ls' := [(0, .ref (E.2.2.2 + 0)), (1, .int x9)]) dX11_emptySlots_25 rfl (by rw [hx9]; rfl) (by decide) rfl ?_
          refine jx_goto (tgt := 2) dX11_emptySlots_28 (by decide) ?_
          exact ih _ _ _ hf
        rw [if_neg c7] at hf
        by_cases c10 : b1.toInt = 1
        · rw [if_pos c10] at hf
          refine jx_aald3 (j := 1) dX11_emptySlots_20 kj_68 c10 (by decide) ?_
          refine jx_iconst (v := 0) dX11_emptySlots_21 (by decide) ?_
          refine jx_puti dX11_emptySlots_22 fp_X11_290 kj_100 sr_100_4 rfl rfl ?_
          obtain ⟨w11, hw11, hf⟩ := jl_inv hf
          refine jx_nw hw11 ?_
          obtain ⟨x12, hx12, hf⟩ := jl_inv hf
          refine jx_iinc (v := x12) (ls' := [(0, .ref (E.2.2.2 + 0)), (1, .int x12)]) dX11_emptySlots_25 rfl (by rw [hx12]; rfl) (by decide) rfl ?_
          refine jx_goto (tgt := 2) dX11_emptySlots_28 (by decide) ?_
          exact ih _ _ _ hf
        rw [if_neg c10] at hf
        by_cases c13 : b1.toInt = 2
        · rw [if_pos c13] at hf
          refine jx_aald3 (j := 2) dX11_emptySlots_20 kj_68 c13 (by decide) ?_
          refine jx_iconst (v := 0) dX11_emptySlots_21 (by decide) ?_
          refine jx_puti dX11_emptySlots_22 fp_X11_290 kj_131 sr_131_4 rfl rfl ?_
          obtain ⟨w14, hw14, hf⟩ := jl_inv hf
          refine jx_nw hw14 ?_
          obtain ⟨x15, hx15, hf⟩ := jl_inv hf
          refine jx_iinc (v := x15) (ls' := [(0, .ref (E.2.2.2 + 0)), (1, .int x15)]) dX11_emptySlots_25 rfl (by rw [hx15]; rfl) (by decide) rfl ?_
          refine jx_goto (tgt := 2) dX11_emptySlots_28 (by decide) ?_
          exact ih _ _ _ hf
        rw [if_neg c13] at hf
        cases hf
def f_X11_emptySlots  (w : jw) : Option (jw) := (l_X11_emptySlots jfu 0 w)
set_option maxRecDepth 20000 in
set_option maxHeartbeats 2000000 in
theorem s_X11_emptySlots {E : jE} (hE : jfull E)  {w w' : jw} (hf : f_X11_emptySlots  w = some w') : jC E m_X11_emptySlots 1 [.ref (E.2.2.2 + 0)] w none w' := by
  refine jC_of (ls := [(0, .ref (E.2.2.2 + 0))]) (by decide) rfl (fun _ => trivial) (Nat.le_of_ble_eq_true rfl) rfl rfl ?_
  unfold f_X11_emptySlots at hf
  refine jx_iconst (v := 0) dX11_emptySlots_0 (by decide) ?_
  refine jx_istore_n (ls' := [(0, .ref (E.2.2.2 + 0)), (1, .int 0)]) dX11_emptySlots_1 (by decide) rfl ?_
  exact sl_X11_emptySlots hE jfu _ _ _ hf
def f_X11_place  (w : jw) : Option (Int32 × jw) := some (w.1 0 9, w)
set_option maxRecDepth 20000 in
set_option maxHeartbeats 2000000 in
theorem s_X11_place {E : jE} (hE : jfull E)  {w w' : jw} {v : Int32} (hf : f_X11_place  w = some (v, w')) : jC E m_X11_place 0 [.ref (E.2.2.2 + 0)] w (some (.int v)) w' := by
  refine jC_of (ls := [(0, .ref (E.2.2.2 + 0))]) (by decide) rfl (fun _ => trivial) (Nat.le_of_ble_eq_true rfl) rfl ⟨.int, rfl, rfl⟩ ?_
  unfold f_X11_place at hf
  refine jx_aload_n dX11_place_0 rfl ?_
  refine jx_geti dX11_place_1 fl_X11_85 kj_0 sr_0_9 ?_
  cases hf
  exact jx_iret dX11_place_4 rfl rfl
def f_X11_isKey (a1 : Int32) (w : jw) : Option (Bool × jw) := (if a1 < 0 then some (false, w) else (if 1000 ≤ a1 then some (false, w) else some (true, w)))
set_option maxRecDepth 20000 in
set_option maxHeartbeats 2000000 in
theorem s_X11_isKey {E : jE} (hE : jfull E) {a1 : Int32} {w w' : jw} {v : Bool} (hf : f_X11_isKey a1 w = some (v, w')) : jC E m_X11_isKey 0 [.int a1] w (some (.int (jb v))) w' := by
  refine jC_of (ls := [(0, .int a1)]) (by decide) rfl (fun _ => trivial) (Nat.le_of_ble_eq_true rfl) rfl jb_ans ?_
  unfold f_X11_isKey at hf
  refine jx_iload_n dX11_isKey_0 rfl ?_
  refine jx_if_lt (tgt := 15) dX11_isKey_1 (by decide) (fun c1 => ?_) (fun c1 => ?_)
  · rw [if_pos c1] at hf
    refine jx_iconst (v := 0) dX11_isKey_15 (by decide) ?_
    cases hf
    exact jx_iret dX11_isKey_16 rfl rfl
  · rw [if_neg c1] at hf
    refine jx_iload_n dX11_isKey_4 rfl ?_
    refine jx_sipush (v := 1000) dX11_isKey_5 (by decide) ?_
    refine jx_icmp_ge (tgt := 15) dX11_isKey_8 (by decide) (fun c2 => ?_) (fun c2 => ?_)
    · rw [if_pos c2] at hf
      refine jx_iconst (v := 0) dX11_isKey_15 (by decide) ?_
      cases hf
      exact jx_iret dX11_isKey_16 rfl rfl
    · rw [if_neg c2] at hf
      refine jx_iconst (v := 1) dX11_isKey_11 (by decide) ?_
      refine jx_goto (tgt := 16) dX11_isKey_12 (by decide) ?_
      cases hf
      exact jx_iret dX11_isKey_16 rfl rfl
def f_X11_put (a1 : Int32) (a2 : Int32) (w : jw) : Option (Int32 × jw) := jbd2 (f_X11_isKey a1 w) fun x2 w3 => (if (jb x2) = 0 then some ((-1), w3) else jbd2 (f_X1_bring a1 a2 w3) fun x6 w7 => (if (jb x6) = 0 then some ((-1), w7) else jbd2 (f_X2_now  w7) fun x10 w11 => some (x10, w11)))
set_option maxRecDepth 20000 in
set_option maxHeartbeats 2000000 in
theorem s_X11_put {E : jE} (hE : jfull E) {a1 : Int32} {a2 : Int32} {w w' : jw} {v : Int32} (hf : f_X11_put a1 a2 w = some (v, w')) : jC E m_X11_put 7 [.ref (E.2.2.2 + 0), .int a1, .int a2] w (some (.int v)) w' := by
  refine jC_of (ls := [(0, .ref (E.2.2.2 + 0)), (1, .int a1), (2, .int a2)]) (by decide) rfl (fun _ => trivial) (Nat.le_of_ble_eq_true rfl) rfl ⟨.int, rfl, rfl⟩ ?_
  unfold f_X11_put at hf
  refine jx_iload_n dX11_put_0 rfl ?_
  obtain ⟨x2, w3, hq1, hf⟩ := jbd2_inv hf
  refine jx_cSi (As := [.int a1]) (rest := []) dX11_put_1 ml_X11_126 ms_X11_isKey (s_X11_isKey hE hq1) rfl rfl rfl (by decide) (Nat.le_of_ble_eq_true rfl) ?_
  refine jx_if_eq (tgt := 32) dX11_put_4 (by decide) (fun c4 => ?_) (fun c4 => ?_)
  · rw [if_pos c4] at hf
    refine jx_iconst (v := (-1)) dX11_put_32 (by decide) ?_
    cases hf
    exact jx_iret dX11_put_33 rfl rfl
  · rw [if_neg c4] at hf
    refine jx_aload_n dX11_put_7 rfl ?_
    refine jx_getr dX11_put_8 fl_X11_57 kj_0 sr_0_5 ?_
    refine jx_iload_n dX11_put_11 rfl ?_
    refine jx_iload_n dX11_put_12 rfl ?_
    obtain ⟨x6, w7, hq5, hf⟩ := jbd2_inv hf
    refine jx_cVi (a := 51) (As := [.int a1, .int a2]) (rest := []) dX11_put_13 ml_X11_130 mv_X1_bring (s_X1_bring hE hq5) rfl rfl jc_51 (by decide) (Nat.le_of_ble_eq_true rfl) ?_
    refine jx_if_eq (tgt := 32) dX11_put_16 (by decide) (fun c8 => ?_) (fun c8 => ?_)
    · rw [if_pos c8] at hf
      refine jx_iconst (v := (-1)) dX11_put_32 (by decide) ?_
      cases hf
      exact jx_iret dX11_put_33 rfl rfl
    · rw [if_neg c8] at hf
      refine jx_aload_n dX11_put_19 rfl ?_
      refine jx_getr dX11_put_20 fl_X11_39 kj_0 sr_0_4 ?_
      refine jx_getr dX11_put_23 fl_X11_63 kj_17 sr_17_1 ?_
      obtain ⟨x10, w11, hq9, hf⟩ := jbd2_inv hf
      refine jx_cVi (a := 35) (As := []) (rest := []) dX11_put_26 ml_X11_134 mv_X2_now (s_X2_now hE hq9) rfl rfl jc_35 (by decide) (Nat.le_of_ble_eq_true rfl) ?_
      refine jx_goto (tgt := 33) dX11_put_29 (by decide) ?_
      cases hf
      exact jx_iret dX11_put_33 rfl rfl
def f_X11_cut (a1 : Int32) (w : jw) : Option (Int32 × jw) := jbd2 (f_X11_isKey a1 w) fun x2 w3 => (if (jb x2) = 0 then some ((-1), w3) else jbd2 (f_X1_drop a1 w3) fun x6 w7 => (if (jb x6) = 0 then some ((-1), w7) else jbd2 (f_X2_now  w7) fun x10 w11 => some (x10, w11)))
set_option maxRecDepth 20000 in
set_option maxHeartbeats 2000000 in
theorem s_X11_cut {E : jE} (hE : jfull E) {a1 : Int32} {w w' : jw} {v : Int32} (hf : f_X11_cut a1 w = some (v, w')) : jC E m_X11_cut 7 [.ref (E.2.2.2 + 0), .int a1] w (some (.int v)) w' := by
  refine jC_of (ls := [(0, .ref (E.2.2.2 + 0)), (1, .int a1)]) (by decide) rfl (fun _ => trivial) (Nat.le_of_ble_eq_true rfl) rfl ⟨.int, rfl, rfl⟩ ?_
  unfold f_X11_cut at hf
  refine jx_iload_n dX11_cut_0 rfl ?_
  obtain ⟨x2, w3, hq1, hf⟩ := jbd2_inv hf
  refine jx_cSi (As := [.int a1]) (rest := []) dX11_cut_1 ml_X11_126 ms_X11_isKey (s_X11_isKey hE hq1) rfl rfl rfl (by decide) (Nat.le_of_ble_eq_true rfl) ?_
  refine jx_if_eq (tgt := 31) dX11_cut_4 (by decide) (fun c4 => ?_) (fun c4 => ?_)
  · rw [if_pos c4] at hf
    refine jx_iconst (v := (-1)) dX11_cut_31 (by decide) ?_
    cases hf
    exact jx_iret dX11_cut_32 rfl rfl
  · rw [if_neg c4] at hf
    refine jx_aload_n dX11_cut_7 rfl ?_
    refine jx_getr dX11_cut_8 fl_X11_57 kj_0 sr_0_5 ?_
    refine jx_iload_n dX11_cut_11 rfl ?_
    obtain ⟨x6, w7, hq5, hf⟩ := jbd2_inv hf
    refine jx_cVi (a := 51) (As := [.int a1]) (rest := []) dX11_cut_12 ml_X11_140 mv_X1_drop (s_X1_drop hE hq5) rfl rfl jc_51 (by decide) (Nat.le_of_ble_eq_true rfl) ?_
    refine jx_if_eq (tgt := 31) dX11_cut_15 (by decide) (fun c8 => ?_) (fun c8 => ?_)
    · rw [if_pos c8] at hf
      refine jx_iconst (v := (-1)) dX11_cut_31 (by decide) ?_
      cases hf
      exact jx_iret dX11_cut_32 rfl rfl
    · rw [if_neg c8] at hf
      refine jx_aload_n dX11_cut_18 rfl ?_
      refine jx_getr dX11_cut_19 fl_X11_39 kj_0 sr_0_4 ?_
      refine jx_getr dX11_cut_22 fl_X11_63 kj_17 sr_17_1 ?_
      obtain ⟨x10, w11, hq9, hf⟩ := jbd2_inv hf
      refine jx_cVi (a := 35) (As := []) (rest := []) dX11_cut_25 ml_X11_134 mv_X2_now (s_X2_now hE hq9) rfl rfl jc_35 (by decide) (Nat.le_of_ble_eq_true rfl) ?_
      refine jx_goto (tgt := 32) dX11_cut_28 (by decide) ?_
      cases hf
      exact jx_iret dX11_cut_32 rfl rfl
def f_X11_isTime (a1 : Int32) (w : jw) : Option (Bool × jw) := (if a1 < 0 then some (false, w) else jbd2 (f_X2_now  w) fun x3 w4 => (if x3 < a1 then some (false, w4) else some (true, w4)))
set_option maxRecDepth 20000 in
set_option maxHeartbeats 2000000 in
theorem s_X11_isTime {E : jE} (hE : jfull E) {a1 : Int32} {w w' : jw} {v : Bool} (hf : f_X11_isTime a1 w = some (v, w')) : jC E m_X11_isTime 1 [.ref (E.2.2.2 + 0), .int a1] w (some (.int (jb v))) w' := by
  refine jC_of (ls := [(0, .ref (E.2.2.2 + 0)), (1, .int a1)]) (by decide) rfl (fun _ => trivial) (Nat.le_of_ble_eq_true rfl) rfl jb_ans ?_
  unfold f_X11_isTime at hf
  refine jx_iload_n dX11_isTime_0 rfl ?_
  refine jx_if_lt (tgt := 22) dX11_isTime_1 (by decide) (fun c1 => ?_) (fun c1 => ?_)
  · rw [if_pos c1] at hf
    refine jx_iconst (v := 0) dX11_isTime_22 (by decide) ?_
    cases hf
    exact jx_iret dX11_isTime_23 rfl rfl
  · rw [if_neg c1] at hf
    refine jx_iload_n dX11_isTime_4 rfl ?_
    refine jx_aload_n dX11_isTime_5 rfl ?_
    refine jx_getr dX11_isTime_6 fl_X11_39 kj_0 sr_0_4 ?_
    refine jx_getr dX11_isTime_9 fl_X11_63 kj_17 sr_17_1 ?_
    obtain ⟨x3, w4, hq2, hf⟩ := jbd2_inv hf
    refine jx_cVi (a := 35) (As := []) (rest := [.int a1]) dX11_isTime_12 ml_X11_134 mv_X2_now (s_X2_now hE hq2) rfl rfl jc_35 (by decide) (Nat.le_of_ble_eq_true rfl) ?_
    refine jx_icmp_gt (tgt := 22) dX11_isTime_15 (by decide) (fun c5 => ?_) (fun c5 => ?_)
    · rw [if_pos c5] at hf
      refine jx_iconst (v := 0) dX11_isTime_22 (by decide) ?_
      cases hf
      exact jx_iret dX11_isTime_23 rfl rfl
    · rw [if_neg c5] at hf
      refine jx_iconst (v := 1) dX11_isTime_18 (by decide) ?_
      refine jx_goto (tgt := 23) dX11_isTime_19 (by decide) ?_
      cases hf
      exact jx_iret dX11_isTime_23 rfl rfl
def f_X11_has (a1 : Int32) (a2 : Int32) (w : jw) : Option (Int32 × jw) := jbd2 (f_X11_isKey a1 w) fun x2 w3 => (if (jb x2) = 0 then some ((-1), w3) else jbd2 (f_X11_isTime a2 w3) fun x6 w7 => (if (jb x6) = 0 then some ((-1), w7) else jbd2 (f_X2_livingFrom a1 a2 w7) fun x10 w11 => (if x10 = (-1) then some (0, w11) else some (1, w11))))
set_option maxRecDepth 20000 in
set_option maxHeartbeats 2000000 in
theorem s_X11_has {E : jE} (hE : jfull E) {a1 : Int32} {a2 : Int32} {w w' : jw} {v : Int32} (hf : f_X11_has a1 a2 w = some (v, w')) : jC E m_X11_has 2 [.ref (E.2.2.2 + 0), .int a1, .int a2] w (some (.int v)) w' := by
  refine jC_of (ls := [(0, .ref (E.2.2.2 + 0)), (1, .int a1), (2, .int a2)]) (by decide) rfl (fun _ => trivial) (Nat.le_of_ble_eq_true rfl) rfl ⟨.int, rfl, rfl⟩ ?_
  unfold f_X11_has at hf
  refine jx_iload_n dX11_has_0 rfl ?_
  obtain ⟨x2, w3, hq1, hf⟩ := jbd2_inv hf
  refine jx_cSi (As := [.int a1]) (rest := []) dX11_has_1 ml_X11_126 ms_X11_isKey (s_X11_isKey hE hq1) rfl rfl rfl (by decide) (Nat.le_of_ble_eq_true rfl) ?_
  refine jx_if_eq (tgt := 15) dX11_has_4 (by decide) (fun c4 => ?_) (fun c4 => ?_)
  · rw [if_pos c4] at hf
    refine jx_iconst (v := (-1)) dX11_has_15 (by decide) ?_
    cases hf
    exact jx_iret dX11_has_16 rfl rfl
  · rw [if_neg c4] at hf
    refine jx_aload_n dX11_has_7 rfl ?_
    refine jx_iload_n dX11_has_8 rfl ?_
    obtain ⟨x6, w7, hq5, hf⟩ := jbd2_inv hf
    refine jx_cVi (a := 0) (As := [.int a2]) (rest := []) dX11_has_9 ml_X11_143 mv_X11_isTime (s_X11_isTime hE hq5) rfl rfl jc_0 (by decide) (Nat.le_of_ble_eq_true rfl) ?_
    refine jx_if_ne (tgt := 17) dX11_has_12 (by decide) (fun c8 => ?_) (fun c8 => ?_)
    · rw [if_neg c8] at hf
      refine jx_aload_n dX11_has_17 rfl ?_
      refine jx_getr dX11_has_18 fl_X11_39 kj_0 sr_0_4 ?_
      refine jx_getr dX11_has_21 fl_X11_63 kj_17 sr_17_1 ?_
      refine jx_iload_n dX11_has_24 rfl ?_
      refine jx_iload_n dX11_has_25 rfl ?_
      obtain ⟨x10, w11, hq9, hf⟩ := jbd2_inv hf
      refine jx_cVi (a := 35) (As := [.int a1, .int a2]) (rest := []) dX11_has_26 ml_X11_146 mv_X2_livingFrom (s_X2_livingFrom hE hq9) rfl rfl jc_35 (by decide) (Nat.le_of_ble_eq_true rfl) ?_
      refine jx_iconst (v := (-1)) dX11_has_29 (by decide) ?_
      refine jx_icmp_ne (tgt := 37) dX11_has_30 (by decide) (fun c12 => ?_) (fun c12 => ?_)
      · rw [if_neg c12] at hf
        refine jx_iconst (v := 1) dX11_has_37 (by decide) ?_
        cases hf
        exact jx_iret dX11_has_38 rfl rfl
      · rw [if_pos c12] at hf
        refine jx_iconst (v := 0) dX11_has_33 (by decide) ?_
        refine jx_goto (tgt := 38) dX11_has_34 (by decide) ?_
        cases hf
        exact jx_iret dX11_has_38 rfl rfl
    · rw [if_pos c8] at hf
      refine jx_iconst (v := (-1)) dX11_has_15 (by decide) ?_
      cases hf
      exact jx_iret dX11_has_16 rfl rfl
def f_X11_value (a1 : Int32) (a2 : Int32) (w : jw) : Option (Int32 × jw) := jbd2 (f_X11_isKey a1 w) fun x2 w3 => (if (jb x2) = 0 then some (0, w3) else jbd2 (f_X11_isTime a2 w3) fun x6 w7 => (if (jb x6) = 0 then some (0, w7) else jbd2 (f_X2_livingFrom a1 a2 w7) fun x10 w11 => (if x10 = (-1) then some (0, w11) else some (rat (w11.2.2.2 40) x10, w11))))
set_option maxRecDepth 20000 in
set_option maxHeartbeats 2000000 in
theorem s_X11_value {E : jE} (hE : jfull E) {a1 : Int32} {a2 : Int32} {w w' : jw} {v : Int32} (hf : f_X11_value a1 a2 w = some (v, w')) : jC E m_X11_value 2 [.ref (E.2.2.2 + 0), .int a1, .int a2] w (some (.int v)) w' := by
  refine jC_of (ls := [(0, .ref (E.2.2.2 + 0)), (1, .int a1), (2, .int a2)]) (by decide) rfl (fun _ => trivial) (Nat.le_of_ble_eq_true rfl) rfl ⟨.int, rfl, rfl⟩ ?_
  unfold f_X11_value at hf
  refine jx_iload_n dX11_value_0 rfl ?_
  obtain ⟨x2, w3, hq1, hf⟩ := jbd2_inv hf
  refine jx_cSi (As := [.int a1]) (rest := []) dX11_value_1 ml_X11_126 ms_X11_isKey (s_X11_isKey hE hq1) rfl rfl rfl (by decide) (Nat.le_of_ble_eq_true rfl) ?_
  refine jx_if_eq (tgt := 15) dX11_value_4 (by decide) (fun c4 => ?_) (fun c4 => ?_)
  · rw [if_pos c4] at hf
    refine jx_iconst (v := 0) dX11_value_15 (by decide) ?_
    cases hf
    exact jx_iret dX11_value_16 rfl rfl
  · rw [if_neg c4] at hf
    refine jx_aload_n dX11_value_7 rfl ?_
    refine jx_iload_n dX11_value_8 rfl ?_
    obtain ⟨x6, w7, hq5, hf⟩ := jbd2_inv hf
    refine jx_cVi (a := 0) (As := [.int a2]) (rest := []) dX11_value_9 ml_X11_143 mv_X11_isTime (s_X11_isTime hE hq5) rfl rfl jc_0 (by decide) (Nat.le_of_ble_eq_true rfl) ?_
    refine jx_if_ne (tgt := 17) dX11_value_12 (by decide) (fun c8 => ?_) (fun c8 => ?_)
    · rw [if_neg c8] at hf
      refine jx_aload_n dX11_value_17 rfl ?_
      refine jx_getr dX11_value_18 fl_X11_39 kj_0 sr_0_4 ?_
      refine jx_getr dX11_value_21 fl_X11_63 kj_17 sr_17_1 ?_
      refine jx_iload_n dX11_value_24 rfl ?_
      refine jx_iload_n dX11_value_25 rfl ?_
      obtain ⟨x10, w11, hq9, hf⟩ := jbd2_inv hf
      refine jx_cVi (a := 35) (As := [.int a1, .int a2]) (rest := []) dX11_value_26 ml_X11_146 mv_X2_livingFrom (s_X2_livingFrom hE hq9) rfl rfl jc_35 (by decide) (Nat.le_of_ble_eq_true rfl) ?_
      refine jx_istore_n (ls' := [(0, .ref (E.2.2.2 + 0)), (1, .int a1), (2, .int a2), (3, .int x10)]) dX11_value_29 (by decide) rfl ?_
      refine jx_iload_n dX11_value_30 rfl ?_
      refine jx_iconst (v := (-1)) dX11_value_31 (by decide) ?_
      refine jx_icmp_ne (tgt := 39) dX11_value_32 (by decide) (fun c12 => ?_) (fun c12 => ?_)
      · rw [if_neg c12] at hf
        refine jx_aload_n dX11_value_39 rfl ?_
        refine jx_getr dX11_value_40 fl_X11_39 kj_0 sr_0_4 ?_
        refine jx_getr dX11_value_43 fl_X11_63 kj_17 sr_17_1 ?_
        refine jx_getr dX11_value_46 fl_X11_150 kj_35 sr_35_2 ?_
        refine jx_iload_n dX11_value_49 rfl ?_
        refine jx_cVi (a := 40) (As := [.int x10]) (rest := []) dX11_value_50 ml_X11_153 mv_X8_at (c_row_at (k := 0) kj_40 (by decide)) rfl rfl jc_40 (by decide) (Nat.le_of_ble_eq_true rfl) ?_
        cases hf
        exact jx_iret dX11_value_53 rfl rfl
      · rw [if_pos c12] at hf
        refine jx_iconst (v := 0) dX11_value_35 (by decide) ?_
        refine jx_goto (tgt := 53) dX11_value_36 (by decide) ?_
        cases hf
        exact jx_iret dX11_value_53 rfl rfl
    · rw [if_pos c8] at hf
      refine jx_iconst (v := 0) dX11_value_15 (by decide) ?_
      cases hf
      exact jx_iret dX11_value_16 rfl rfl
def f_X11_since (a1 : Int32) (a2 : Int32) (w : jw) : Option (Int32 × jw) := jbd2 (f_X11_isKey a1 w) fun x2 w3 => (if (jb x2) = 0 then some ((-1), w3) else jbd2 (f_X11_isTime a2 w3) fun x6 w7 => (if (jb x6) = 0 then some ((-1), w7) else jbd2 (f_X2_livingFrom a1 a2 w7) fun x10 w11 => (if x10 = (-1) then some ((-2), w11) else some (x10, w11))))
set_option maxRecDepth 20000 in
set_option maxHeartbeats 2000000 in
theorem s_X11_since {E : jE} (hE : jfull E) {a1 : Int32} {a2 : Int32} {w w' : jw} {v : Int32} (hf : f_X11_since a1 a2 w = some (v, w')) : jC E m_X11_since 2 [.ref (E.2.2.2 + 0), .int a1, .int a2] w (some (.int v)) w' := by
  refine jC_of (ls := [(0, .ref (E.2.2.2 + 0)), (1, .int a1), (2, .int a2)]) (by decide) rfl (fun _ => trivial) (Nat.le_of_ble_eq_true rfl) rfl ⟨.int, rfl, rfl⟩ ?_
  unfold f_X11_since at hf
  refine jx_iload_n dX11_since_0 rfl ?_
  obtain ⟨x2, w3, hq1, hf⟩ := jbd2_inv hf
  refine jx_cSi (As := [.int a1]) (rest := []) dX11_since_1 ml_X11_126 ms_X11_isKey (s_X11_isKey hE hq1) rfl rfl rfl (by decide) (Nat.le_of_ble_eq_true rfl) ?_
  refine jx_if_eq (tgt := 15) dX11_since_4 (by decide) (fun c4 => ?_) (fun c4 => ?_)
  · rw [if_pos c4] at hf
    refine jx_iconst (v := (-1)) dX11_since_15 (by decide) ?_
    cases hf
    exact jx_iret dX11_since_16 rfl rfl
  · rw [if_neg c4] at hf
    refine jx_aload_n dX11_since_7 rfl ?_
    refine jx_iload_n dX11_since_8 rfl ?_
    obtain ⟨x6, w7, hq5, hf⟩ := jbd2_inv hf
    refine jx_cVi (a := 0) (As := [.int a2]) (rest := []) dX11_since_9 ml_X11_143 mv_X11_isTime (s_X11_isTime hE hq5) rfl rfl jc_0 (by decide) (Nat.le_of_ble_eq_true rfl) ?_
    refine jx_if_ne (tgt := 17) dX11_since_12 (by decide) (fun c8 => ?_) (fun c8 => ?_)
    · rw [if_neg c8] at hf
      refine jx_aload_n dX11_since_17 rfl ?_
      refine jx_getr dX11_since_18 fl_X11_39 kj_0 sr_0_4 ?_
      refine jx_getr dX11_since_21 fl_X11_63 kj_17 sr_17_1 ?_
      refine jx_iload_n dX11_since_24 rfl ?_
      refine jx_iload_n dX11_since_25 rfl ?_
      obtain ⟨x10, w11, hq9, hf⟩ := jbd2_inv hf
      refine jx_cVi (a := 35) (As := [.int a1, .int a2]) (rest := []) dX11_since_26 ml_X11_146 mv_X2_livingFrom (s_X2_livingFrom hE hq9) rfl rfl jc_35 (by decide) (Nat.le_of_ble_eq_true rfl) ?_
      refine jx_istore_n (ls' := [(0, .ref (E.2.2.2 + 0)), (1, .int a1), (2, .int a2), (3, .int x10)]) dX11_since_29 (by decide) rfl ?_
      refine jx_iload_n dX11_since_30 rfl ?_
      refine jx_iconst (v := (-1)) dX11_since_31 (by decide) ?_
      refine jx_icmp_ne (tgt := 40) dX11_since_32 (by decide) (fun c12 => ?_) (fun c12 => ?_)
      · rw [if_neg c12] at hf
        refine jx_iload_n dX11_since_40 rfl ?_
        cases hf
        exact jx_iret dX11_since_41 rfl rfl
      · rw [if_pos c12] at hf
        refine jx_bipush (v := (-2)) dX11_since_35 (by decide) ?_
        refine jx_goto (tgt := 41) dX11_since_37 (by decide) ?_
        cases hf
        exact jx_iret dX11_since_41 rfl rfl
    · rw [if_pos c8] at hf
      refine jx_iconst (v := (-1)) dX11_since_15 (by decide) ?_
      cases hf
      exact jx_iret dX11_since_16 rfl rfl
def f_X11_isRange (a1 : Int32) (a2 : Int32) (w : jw) : Option (Bool × jw) := jbd2 (f_X11_isKey a1 w) fun x2 w3 => (if (jb x2) = 0 then some (false, w3) else jbd2 (f_X11_isKey a2 w3) fun x6 w7 => (if (jb x6) = 0 then some (false, w7) else some (true, w7)))
set_option maxRecDepth 20000 in
set_option maxHeartbeats 2000000 in
theorem s_X11_isRange {E : jE} (hE : jfull E) {a1 : Int32} {a2 : Int32} {w w' : jw} {v : Bool} (hf : f_X11_isRange a1 a2 w = some (v, w')) : jC E m_X11_isRange 1 [.int a1, .int a2] w (some (.int (jb v))) w' := by
  refine jC_of (ls := [(0, .int a1), (1, .int a2)]) (by decide) rfl (fun _ => trivial) (Nat.le_of_ble_eq_true rfl) rfl jb_ans ?_
  unfold f_X11_isRange at hf
  refine jx_iload_n dX11_isRange_0 rfl ?_
  obtain ⟨x2, w3, hq1, hf⟩ := jbd2_inv hf
  refine jx_cSi (As := [.int a1]) (rest := []) dX11_isRange_1 ml_X11_126 ms_X11_isKey (s_X11_isKey hE hq1) rfl rfl rfl (by decide) (Nat.le_of_ble_eq_true rfl) ?_
  refine jx_if_eq (tgt := 18) dX11_isRange_4 (by decide) (fun c4 => ?_) (fun c4 => ?_)
  · rw [if_pos c4] at hf
    refine jx_iconst (v := 0) dX11_isRange_18 (by decide) ?_
    cases hf
    exact jx_iret dX11_isRange_19 rfl rfl
  · rw [if_neg c4] at hf
    refine jx_iload_n dX11_isRange_7 rfl ?_
    obtain ⟨x6, w7, hq5, hf⟩ := jbd2_inv hf
    refine jx_cSi (As := [.int a2]) (rest := []) dX11_isRange_8 ml_X11_126 ms_X11_isKey (s_X11_isKey hE hq5) rfl rfl rfl (by decide) (Nat.le_of_ble_eq_true rfl) ?_
    refine jx_if_eq (tgt := 18) dX11_isRange_11 (by decide) (fun c8 => ?_) (fun c8 => ?_)
    · rw [if_pos c8] at hf
      refine jx_iconst (v := 0) dX11_isRange_18 (by decide) ?_
      cases hf
      exact jx_iret dX11_isRange_19 rfl rfl
    · rw [if_neg c8] at hf
      refine jx_iconst (v := 1) dX11_isRange_14 (by decide) ?_
      refine jx_goto (tgt := 19) dX11_isRange_15 (by decide) ?_
      cases hf
      exact jx_iret dX11_isRange_19 rfl rfl
def f_X11_many (a1 : Int32) (a2 : Int32) (a3 : Int32) (w : jw) : Option (Int32 × jw) := jbd2 (f_X11_isRange a1 a2 w) fun x2 w3 => (if (jb x2) = 0 then some ((-1), w3) else jbd2 (f_X11_isTime a3 w3) fun x6 w7 => (if (jb x6) = 0 then some ((-1), w7) else jbd2 (f_X3_livingIn a1 a2 a3 w7) fun x10 w11 => some (x10, w11)))
set_option maxRecDepth 20000 in
set_option maxHeartbeats 2000000 in
theorem s_X11_many {E : jE} (hE : jfull E) {a1 : Int32} {a2 : Int32} {a3 : Int32} {w w' : jw} {v : Int32} (hf : f_X11_many a1 a2 a3 w = some (v, w')) : jC E m_X11_many 3 [.ref (E.2.2.2 + 0), .int a1, .int a2, .int a3] w (some (.int v)) w' := by
  refine jC_of (ls := [(0, .ref (E.2.2.2 + 0)), (1, .int a1), (2, .int a2), (3, .int a3)]) (by decide) rfl (fun _ => trivial) (Nat.le_of_ble_eq_true rfl) rfl ⟨.int, rfl, rfl⟩ ?_
  unfold f_X11_many at hf
  refine jx_iload_n dX11_many_0 rfl ?_
  refine jx_iload_n dX11_many_1 rfl ?_
  obtain ⟨x2, w3, hq1, hf⟩ := jbd2_inv hf
  refine jx_cSi (As := [.int a1, .int a2]) (rest := []) dX11_many_2 ml_X11_157 ms_X11_isRange (s_X11_isRange hE hq1) rfl rfl rfl (by decide) (Nat.le_of_ble_eq_true rfl) ?_
  refine jx_if_eq (tgt := 29) dX11_many_5 (by decide) (fun c4 => ?_) (fun c4 => ?_)
  · rw [if_pos c4] at hf
    refine jx_iconst (v := (-1)) dX11_many_29 (by decide) ?_
    cases hf
    exact jx_iret dX11_many_30 rfl rfl
  · rw [if_neg c4] at hf
    refine jx_aload_n dX11_many_8 rfl ?_
    refine jx_iload_n dX11_many_9 rfl ?_
    obtain ⟨x6, w7, hq5, hf⟩ := jbd2_inv hf
    refine jx_cVi (a := 0) (As := [.int a3]) (rest := []) dX11_many_10 ml_X11_143 mv_X11_isTime (s_X11_isTime hE hq5) rfl rfl jc_0 (by decide) (Nat.le_of_ble_eq_true rfl) ?_
    refine jx_if_eq (tgt := 29) dX11_many_13 (by decide) (fun c8 => ?_) (fun c8 => ?_)
    · rw [if_pos c8] at hf
      refine jx_iconst (v := (-1)) dX11_many_29 (by decide) ?_
      cases hf
      exact jx_iret dX11_many_30 rfl rfl
    · rw [if_neg c8] at hf
      refine jx_aload_n dX11_many_16 rfl ?_
      refine jx_getr dX11_many_17 fl_X11_70 kj_0 sr_0_6 ?_
      refine jx_iload_n dX11_many_20 rfl ?_
      refine jx_iload_n dX11_many_21 rfl ?_
      refine jx_iload_n dX11_many_22 rfl ?_
      obtain ⟨x10, w11, hq9, hf⟩ := jbd2_inv hf
      refine jx_cVi (a := 58) (As := [.int a1, .int a2, .int a3]) (rest := []) dX11_many_23 ml_X11_160 mv_X3_livingIn (s_X3_livingIn hE hq9) rfl rfl jc_58 (by decide) (Nat.le_of_ble_eq_true rfl) ?_
      refine jx_goto (tgt := 30) dX11_many_26 (by decide) ?_
      cases hf
      exact jx_iret dX11_many_30 rfl rfl
def f_X11_sum (a1 : Int32) (a2 : Int32) (a3 : Int32) (w : jw) : Option (Int32 × jw) := jbd2 (f_X11_isRange a1 a2 w) fun x2 w3 => (if (jb x2) = 0 then some (0, w3) else jbd2 (f_X11_isTime a3 w3) fun x6 w7 => (if (jb x6) = 0 then some (0, w7) else jbd2 (f_X3_totalIn a1 a2 a3 w7) fun x10 w11 => some (x10, w11)))
set_option maxRecDepth 20000 in
set_option maxHeartbeats 2000000 in
theorem s_X11_sum {E : jE} (hE : jfull E) {a1 : Int32} {a2 : Int32} {a3 : Int32} {w w' : jw} {v : Int32} (hf : f_X11_sum a1 a2 a3 w = some (v, w')) : jC E m_X11_sum 3 [.ref (E.2.2.2 + 0), .int a1, .int a2, .int a3] w (some (.int v)) w' := by
  refine jC_of (ls := [(0, .ref (E.2.2.2 + 0)), (1, .int a1), (2, .int a2), (3, .int a3)]) (by decide) rfl (fun _ => trivial) (Nat.le_of_ble_eq_true rfl) rfl ⟨.int, rfl, rfl⟩ ?_
  unfold f_X11_sum at hf
  refine jx_iload_n dX11_sum_0 rfl ?_
  refine jx_iload_n dX11_sum_1 rfl ?_
  obtain ⟨x2, w3, hq1, hf⟩ := jbd2_inv hf
  refine jx_cSi (As := [.int a1, .int a2]) (rest := []) dX11_sum_2 ml_X11_157 ms_X11_isRange (s_X11_isRange hE hq1) rfl rfl rfl (by decide) (Nat.le_of_ble_eq_true rfl) ?_
  refine jx_if_eq (tgt := 29) dX11_sum_5 (by decide) (fun c4 => ?_) (fun c4 => ?_)
  · rw [if_pos c4] at hf
    refine jx_iconst (v := 0) dX11_sum_29 (by decide) ?_
    cases hf
    exact jx_iret dX11_sum_30 rfl rfl
  · rw [if_neg c4] at hf
    refine jx_aload_n dX11_sum_8 rfl ?_
    refine jx_iload_n dX11_sum_9 rfl ?_
    obtain ⟨x6, w7, hq5, hf⟩ := jbd2_inv hf
    refine jx_cVi (a := 0) (As := [.int a3]) (rest := []) dX11_sum_10 ml_X11_143 mv_X11_isTime (s_X11_isTime hE hq5) rfl rfl jc_0 (by decide) (Nat.le_of_ble_eq_true rfl) ?_
    refine jx_if_eq (tgt := 29) dX11_sum_13 (by decide) (fun c8 => ?_) (fun c8 => ?_)
    · rw [if_pos c8] at hf
      refine jx_iconst (v := 0) dX11_sum_29 (by decide) ?_
      cases hf
      exact jx_iret dX11_sum_30 rfl rfl
    · rw [if_neg c8] at hf
      refine jx_aload_n dX11_sum_16 rfl ?_
      refine jx_getr dX11_sum_17 fl_X11_70 kj_0 sr_0_6 ?_
      refine jx_iload_n dX11_sum_20 rfl ?_
      refine jx_iload_n dX11_sum_21 rfl ?_
      refine jx_iload_n dX11_sum_22 rfl ?_
      obtain ⟨x10, w11, hq9, hf⟩ := jbd2_inv hf
      refine jx_cVi (a := 58) (As := [.int a1, .int a2, .int a3]) (rest := []) dX11_sum_23 ml_X11_164 mv_X3_totalIn (s_X3_totalIn hE hq9) rfl rfl jc_58 (by decide) (Nat.le_of_ble_eq_true rfl) ?_
      refine jx_goto (tgt := 30) dX11_sum_26 (by decide) ?_
      cases hf
      exact jx_iret dX11_sum_30 rfl rfl
