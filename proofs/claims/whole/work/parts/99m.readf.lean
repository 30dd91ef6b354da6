/-! the reference's reading, with any number of steps for its runs -/
set_option maxRecDepth 20000 in
set_option maxHeartbeats 2000000 in
theorem s_X12_runsF {E : jE} (hE : jfull E) {nf : Nat} {w w' : jw} (hf : l_X12_runs nf 0 0 0 w = some w') : jC E m_X12_runs 6 [.ref (E.2.2.2 + 162)] w none w' := by
  refine jC_of (ls := [(0, .ref (E.2.2.2 + 162))]) (by decide) rfl (fun _ => trivial) (Nat.le_of_ble_eq_true rfl) rfl rfl ?_
  refine jx_iconst (v := 0) dX12_runs_0 (by decide) ?_
  refine jx_istore_n (ls' := [(0, .ref (E.2.2.2 + 162)), (1, .int 0)]) dX12_runs_1 (by decide) rfl ?_
  refine jx_iconst (v := 0) dX12_runs_2 (by decide) ?_
  refine jx_istore_n (ls' := [(0, .ref (E.2.2.2 + 162)), (1, .int 0), (2, .int 0)]) dX12_runs_3 (by decide) rfl ?_
  refine jx_iconst (v := 0) dX12_runs_4 (by decide) ?_
  refine jx_istore_n (ls' := [(0, .ref (E.2.2.2 + 162)), (1, .int 0), (2, .int 0), (3, .int 0)]) dX12_runs_5 (by decide) rfl ?_
  exact sl_X12_runs hE nf _ _ _ _ _ hf
def l_X12_read_215F (nf : Nat) : Nat → Int32 → Int32 → jw → Option (Int32 × jw)
  | 0, _, _, _ => none
  | n + 1, b1, b2, w => (if 3 ≤ b2 then jbd (l_X12_runs nf 0 0 0 w) fun q2 => some (0, q2) else jg (jin b2 3) (jl (jsetX w 191 (Int32.toNatClampNeg b2) 0) fun w4 => jl (b2 + 1) fun x5 => (l_X12_read_215F nf n b1 x5 w4)))
set_option maxRecDepth 20000 in
set_option maxHeartbeats 2000000 in
theorem sl_X12_read_215F {E : jE} (hE : jfull E) (nf : Nat) : ∀ (n : Nat) (b1 : Int32) (b2 : Int32) (w : jw) (v : Int32) (w' : jw), l_X12_read_215F nf n b1 b2 w = some (v, w') → jX E m_X12_read 7 215 [(0, .ref (E.2.2.2 + 162)), (1, .int b1), (2, .int b2)] [] w (some (.int v)) w' := by
  intro n
  induction n with
  | zero => intro b1 b2 w v w' hf; cases hf
  | succ n ih =>
    intro b1 b2 w v w' hf
    unfold l_X12_read_215F at hf
    refine jx_iload_n dX12_read_215 rfl ?_
    refine jx_iconst (v := 3) dX12_read_216 (by decide) ?_
    refine jx_icmp_ge (tgt := 233) dX12_read_217 (by decide) (fun c1 => ?_) (fun c1 => ?_)
    · rw [if_pos c1] at hf
      refine jx_aload_n dX12_read_233 rfl ?_
      obtain ⟨q2, hq2, hf⟩ := jbd_inv hf
      refine jx_cVv (a := 162) (As := []) (rest := []) dX12_read_234 ml_X12_206 mv_X12_runs (s_X12_runsF hE hq2) rfl rfl (jc_162 hE) (by decide) (Nat.le_of_ble_eq_true rfl) ?_
      refine jx_iconst (v := 0) dX12_read_237 (by decide) ?_
      cases hf
      exact jx_iret dX12_read_238 rfl rfl
    · rw [if_neg c1] at hf
      refine jx_aload_n dX12_read_220 rfl ?_
      refine jx_getr dX12_read_221 fl_X12_104 (kj_162 hE) sr_162_46 ?_
      refine jx_iload_n dX12_read_224 rfl ?_
      refine jx_iconst (v := 0) dX12_read_225 (by decide) ?_
      obtain ⟨c3, hf⟩ := jg_inv hf
      refine jx_zast dX12_read_226 (kj_191 hE) (jin_vp c3) rfl ?_
      obtain ⟨w4, hw4, hf⟩ := jl_inv hf
      refine jx_nw hw4 ?_
      obtain ⟨x5, hx5, hf⟩ := jl_inv hf
      refine jx_iinc (v := x5) (ls' := [(0, .ref (E.2.2.2 + 162)), (1, .int b1), (2, .int x5)]) dX12_read_227 rfl (by rw [hx5]; rfl) (by decide) rfl ?_
      refine jx_goto (tgt := 215) dX12_read_230 (by decide) ?_
      exact ih _ _ _ _ _ hf
def l_X12_read_110F (nf : Nat) : Nat → Int32 → jw → Option (Int32 × jw)
  | 0, _, _ => none
  | n + 1, b1, w => (if (w.1 162 13) = 0 then jbd2 (f_X12_is 0 w) fun x21 w22 => (if (jb x21) = 0 then jbd (f_X12_tellOne  w22) fun q37 => (l_X12_read_110F nf n b1 q37) else jbd (if (w22.1 162 13) = 0 then (if (w22.1 162 24) ≤ 0 then some w22 else jbd (f_X12_fail 1 w22) fun q36 => some q36) else some w22) fun w25 => jbd (if (w25.1 162 13) ≤ 0 then (if (w25.1 162 15) ≤ 0 then some ((-1) : Int32) else some (w25.1 162 16)) else some (w25.1 162 14)) fun x28 => jl (jsetI w25 162 17 x28) fun w30 => (if (w30.1 162 13) ≤ 0 then (if (w30.1 162 15) ≤ 0 then jbd (f_X12_begins b1 w30) fun q33 => (l_X12_read_215F nf jfu b1 0 q33) else some (w30.1 162 15, w30)) else some (w30.1 162 13, w30))) else jbd (if (w.1 162 13) = 0 then (if (w.1 162 24) ≤ 0 then some w else jbd (f_X12_fail 1 w) fun q19 => some q19) else some w) fun w8 => jbd (if (w8.1 162 13) ≤ 0 then (if (w8.1 162 15) ≤ 0 then some ((-1) : Int32) else some (w8.1 162 16)) else some (w8.1 162 14)) fun x11 => jl (jsetI w8 162 17 x11) fun w13 => (if (w13.1 162 13) ≤ 0 then (if (w13.1 162 15) ≤ 0 then jbd (f_X12_begins b1 w13) fun q16 => (l_X12_read_215F nf jfu b1 0 q16) else some (w13.1 162 15, w13)) else some (w13.1 162 13, w13)))
set_option maxRecDepth 20000 in
set_option maxHeartbeats 2000000 in
theorem sl_X12_read_110F {E : jE} (hE : jfull E) (nf : Nat) : ∀ (n : Nat) (b1 : Int32) (w : jw) (v : Int32) (w' : jw), l_X12_read_110F nf n b1 w = some (v, w') → jX E m_X12_read 7 110 [(0, .ref (E.2.2.2 + 162)), (1, .int b1)] [] w (some (.int v)) w' := by
  intro n
  induction n with
  | zero => intro b1 w v w' hf; cases hf
  | succ n ih =>
    intro b1 w v w' hf
    unfold l_X12_read_110F at hf
    refine jx_aload_n dX12_read_110 rfl ?_
    refine jx_geti dX12_read_111 fl_X12_157 (kj_162 hE) sr_162_13 ?_
    refine jx_if_ne (tgt := 132) dX12_read_114 (by decide) (fun c6 => ?_) (fun c6 => ?_)
    · rw [if_neg c6] at hf
      refine jx_aload_n dX12_read_132 rfl ?_
      refine jx_geti dX12_read_133 fl_X12_157 (kj_162 hE) sr_162_13 ?_
      obtain ⟨w8, hqhJ9, hf⟩ := jbd_inv hf
      have hJ9 : jX E m_X12_read 7 151 [(0, .ref (E.2.2.2 + 162)), (1, .int b1)] [] w8 (some (.int v)) w' := by
        refine jx_aload_n dX12_read_151 rfl ?_
        refine jx_aload_n dX12_read_152 rfl ?_
        refine jx_geti dX12_read_153 fl_X12_157 (kj_162 hE) sr_162_13 ?_
        obtain ⟨x11, hqhJ12, hf⟩ := jbd_inv hf
        have hJ12 : jX E m_X12_read 7 181 [(0, .ref (E.2.2.2 + 162)), (1, .int b1)] [.int x11, .ref (E.2.2.2 + 162)] w8 (some (.int v)) w' := by
          refine jx_puti dX12_read_181 fp_X12_37 (kj_162 hE) sr_162_17 rfl rfl ?_
          obtain ⟨w13, hw13, hf⟩ := jl_inv hf
          refine jx_nw hw13 ?_
          refine jx_aload_n dX12_read_184 rfl ?_
          refine jx_geti dX12_read_185 fl_X12_157 (kj_162 hE) sr_162_13 ?_
          refine jx_if_le (tgt := 196) dX12_read_188 (by decide) (fun c14 => ?_) (fun c14 => ?_)
          · rw [if_pos c14] at hf
            refine jx_aload_n dX12_read_196 rfl ?_
            refine jx_geti dX12_read_197 fl_X12_166 (kj_162 hE) sr_162_15 ?_
            refine jx_if_le (tgt := 208) dX12_read_200 (by decide) (fun c15 => ?_) (fun c15 => ?_)
            · rw [if_pos c15] at hf
              refine jx_aload_n dX12_read_208 rfl ?_
              refine jx_iload_n dX12_read_209 rfl ?_
              obtain ⟨q16, hq16, hf⟩ := jbd_inv hf
              refine jx_cVv (a := 162) (As := [.int b1]) (rest := []) dX12_read_210 ml_X12_116 mv_X12_begins (s_X12_begins hE hq16) rfl rfl (jc_162 hE) (by decide) (Nat.le_of_ble_eq_true rfl) ?_
              refine jx_iconst (v := 0) dX12_read_213 (by decide) ?_
              refine jx_istore_n (ls' := [(0, .ref (E.2.2.2 + 162)), (1, .int b1), (2, .int 0)]) dX12_read_214 (by decide) rfl ?_
              exact sl_X12_read_215F hE nf jfu _ _ _ _ _ hf
            · rw [if_neg c15] at hf
              refine jx_aload_n dX12_read_203 rfl ?_
              refine jx_geti dX12_read_204 fl_X12_166 (kj_162 hE) sr_162_15 ?_
              cases hf
              exact jx_iret dX12_read_207 rfl rfl
          · rw [if_neg c14] at hf
            refine jx_aload_n dX12_read_191 rfl ?_
            refine jx_geti dX12_read_192 fl_X12_157 (kj_162 hE) sr_162_13 ?_
            cases hf
            exact jx_iret dX12_read_195 rfl rfl
        clear hf
        have hf := hqhJ12
        clear hqhJ12
        refine jx_if_le (tgt := 166) dX12_read_156 (by decide) (fun c10 => ?_) (fun c10 => ?_)
        · rw [if_pos c10] at hf
          refine jx_aload_n dX12_read_166 rfl ?_
          refine jx_geti dX12_read_167 fl_X12_166 (kj_162 hE) sr_162_15 ?_
          refine jx_if_le (tgt := 180) dX12_read_170 (by decide) (fun c17 => ?_) (fun c17 => ?_)
          · rw [if_pos c17] at hf
            refine jx_iconst (v := (-1)) dX12_read_180 (by decide) ?_
            cases hf
            exact hJ12
          · rw [if_neg c17] at hf
            refine jx_aload_n dX12_read_173 rfl ?_
            refine jx_geti dX12_read_174 fl_X12_169 (kj_162 hE) sr_162_16 ?_
            refine jx_goto (tgt := 181) dX12_read_177 (by decide) ?_
            cases hf
            exact hJ12
        · rw [if_neg c10] at hf
          refine jx_aload_n dX12_read_159 rfl ?_
          refine jx_geti dX12_read_160 fl_X12_163 (kj_162 hE) sr_162_14 ?_
          refine jx_goto (tgt := 181) dX12_read_163 (by decide) ?_
          cases hf
          exact hJ12
      clear hf
      have hf := hqhJ9
      clear hqhJ9
      refine jx_if_ne (tgt := 151) dX12_read_136 (by decide) (fun c7 => ?_) (fun c7 => ?_)
      · rw [if_neg c7] at hf
        cases hf
        exact hJ9
      · rw [if_pos c7] at hf
        refine jx_aload_n dX12_read_139 rfl ?_
        refine jx_geti dX12_read_140 fl_X12_190 (kj_162 hE) sr_162_24 ?_
        refine jx_if_le (tgt := 151) dX12_read_143 (by decide) (fun c18 => ?_) (fun c18 => ?_)
        · rw [if_pos c18] at hf
          cases hf
          exact hJ9
        · rw [if_neg c18] at hf
          refine jx_aload_n dX12_read_146 rfl ?_
          refine jx_iconst (v := 1) dX12_read_147 (by decide) ?_
          obtain ⟨q19, hq19, hf⟩ := jbd_inv hf
          refine jx_cVv (a := 162) (As := [.int 1]) (rest := []) dX12_read_148 ml_X12_172 mv_X12_fail (s_X12_fail hE hq19) rfl rfl (jc_162 hE) (by decide) (Nat.le_of_ble_eq_true rfl) ?_
          cases hf
          exact hJ9
    · rw [if_pos c6] at hf
      refine jx_aload_n dX12_read_117 rfl ?_
      refine jx_iconst (v := 0) dX12_read_118 (by decide) ?_
      obtain ⟨x21, w22, hq20, hf⟩ := jbd2_inv hf
      refine jx_cVi (a := 162) (As := [.int 0]) (rest := []) dX12_read_119 ml_X12_175 mv_X12_is (s_X12_is hE hq20) rfl rfl (jc_162 hE) (by decide) (Nat.le_of_ble_eq_true rfl) ?_
      refine jx_if_ne (tgt := 132) dX12_read_122 (by decide) (fun c23 => ?_) (fun c23 => ?_)
      · rw [if_neg c23] at hf
        refine jx_aload_n dX12_read_132 rfl ?_
        refine jx_geti dX12_read_133 fl_X12_157 (kj_162 hE) sr_162_13 ?_
        obtain ⟨w25, hqhJ26, hf⟩ := jbd_inv hf
        have hJ26 : jX E m_X12_read 7 151 [(0, .ref (E.2.2.2 + 162)), (1, .int b1)] [] w25 (some (.int v)) w' := by
          refine jx_aload_n dX12_read_151 rfl ?_
          refine jx_aload_n dX12_read_152 rfl ?_
          refine jx_geti dX12_read_153 fl_X12_157 (kj_162 hE) sr_162_13 ?_
          obtain ⟨x28, hqhJ29, hf⟩ := jbd_inv hf
          have hJ29 : jX E m_X12_read 7 181 [(0, .ref (E.2.2.2 + 162)), (1, .int b1)] [.int x28, .ref (E.2.2.2 + 162)] w25 (some (.int v)) w' := by
            refine jx_puti dX12_read_181 fp_X12_37 (kj_162 hE) sr_162_17 rfl rfl ?_
            obtain ⟨w30, hw30, hf⟩ := jl_inv hf
            refine jx_nw hw30 ?_
            refine jx_aload_n dX12_read_184 rfl ?_
            refine jx_geti dX12_read_185 fl_X12_157 (kj_162 hE) sr_162_13 ?_
            refine jx_if_le (tgt := 196) dX12_read_188 (by decide) (fun c31 => ?_) (fun c31 => ?_)
            · rw [if_pos c31] at hf
              refine jx_aload_n dX12_read_196 rfl ?_
              refine jx_geti dX12_read_197 fl_X12_166 (kj_162 hE) sr_162_15 ?_
              refine jx_if_le (tgt := 208) dX12_read_200 (by decide) (fun c32 => ?_) (fun c32 => ?_)
              · rw [if_pos c32] at hf
                refine jx_aload_n dX12_read_208 rfl ?_
                refine jx_iload_n dX12_read_209 rfl ?_
                obtain ⟨q33, hq33, hf⟩ := jbd_inv hf
                refine jx_cVv (a := 162) (As := [.int b1]) (rest := []) dX12_read_210 ml_X12_116 mv_X12_begins (s_X12_begins hE hq33) rfl rfl (jc_162 hE) (by decide) (Nat.le_of_ble_eq_true rfl) ?_
                refine jx_iconst (v := 0) dX12_read_213 (by decide) ?_
                refine jx_istore_n (ls' := [(0, .ref (E.2.2.2 + 162)), (1, .int b1), (2, .int 0)]) dX12_read_214 (by decide) rfl ?_
                exact sl_X12_read_215F hE nf jfu _ _ _ _ _ hf
              · rw [if_neg c32] at hf
                refine jx_aload_n dX12_read_203 rfl ?_
                refine jx_geti dX12_read_204 fl_X12_166 (kj_162 hE) sr_162_15 ?_
                cases hf
                exact jx_iret dX12_read_207 rfl rfl
            · rw [if_neg c31] at hf
              refine jx_aload_n dX12_read_191 rfl ?_
              refine jx_geti dX12_read_192 fl_X12_157 (kj_162 hE) sr_162_13 ?_
              cases hf
              exact jx_iret dX12_read_195 rfl rfl
          clear hf
          have hf := hqhJ29
          clear hqhJ29
          refine jx_if_le (tgt := 166) dX12_read_156 (by decide) (fun c27 => ?_) (fun c27 => ?_)
          · rw [if_pos c27] at hf
            refine jx_aload_n dX12_read_166 rfl ?_
            refine jx_geti dX12_read_167 fl_X12_166 (kj_162 hE) sr_162_15 ?_
            refine jx_if_le (tgt := 180) dX12_read_170 (by decide) (fun c34 => ?_) (fun c34 => ?_)
            · rw [if_pos c34] at hf
              refine jx_iconst (v := (-1)) dX12_read_180 (by decide) ?_
              cases hf
              exact hJ29
            · rw [if_neg c34] at hf
              refine jx_aload_n dX12_read_173 rfl ?_
              refine jx_geti dX12_read_174 fl_X12_169 (kj_162 hE) sr_162_16 ?_
              refine jx_goto (tgt := 181) dX12_read_177 (by decide) ?_
              cases hf
              exact hJ29
          · rw [if_neg c27] at hf
            refine jx_aload_n dX12_read_159 rfl ?_
            refine jx_geti dX12_read_160 fl_X12_163 (kj_162 hE) sr_162_14 ?_
            refine jx_goto (tgt := 181) dX12_read_163 (by decide) ?_
            cases hf
            exact hJ29
        clear hf
        have hf := hqhJ26
        clear hqhJ26
        refine jx_if_ne (tgt := 151) dX12_read_136 (by decide) (fun c24 => ?_) (fun c24 => ?_)
        · rw [if_neg c24] at hf
          cases hf
          exact hJ26
        · rw [if_pos c24] at hf
          refine jx_aload_n dX12_read_139 rfl ?_
          refine jx_geti dX12_read_140 fl_X12_190 (kj_162 hE) sr_162_24 ?_
          refine jx_if_le (tgt := 151) dX12_read_143 (by decide) (fun c35 => ?_) (fun c35 => ?_)
          · rw [if_pos c35] at hf
            cases hf
            exact hJ26
          · rw [if_neg c35] at hf
            refine jx_aload_n dX12_read_146 rfl ?_
            refine jx_iconst (v := 1) dX12_read_147 (by decide) ?_
            obtain ⟨q36, hq36, hf⟩ := jbd_inv hf
            refine jx_cVv (a := 162) (As := [.int 1]) (rest := []) dX12_read_148 ml_X12_172 mv_X12_fail (s_X12_fail hE hq36) rfl rfl (jc_162 hE) (by decide) (Nat.le_of_ble_eq_true rfl) ?_
            cases hf
            exact hJ26
      · rw [if_pos c23] at hf
        refine jx_aload_n dX12_read_125 rfl ?_
        obtain ⟨q37, hq37, hf⟩ := jbd_inv hf
        refine jx_cVv (a := 162) (As := []) (rest := []) dX12_read_126 ml_X12_203 mv_X12_tellOne (s_X12_tellOne hE hq37) rfl rfl (jc_162 hE) (by decide) (Nat.le_of_ble_eq_true rfl) ?_
        refine jx_goto (tgt := 110) dX12_read_129 (by decide) ?_
        exact ih _ _ _ _ hf
def l_X12_read_10F (nf : Nat) : Nat → Int32 → jw → Option (Int32 × jw)
  | 0, _, _ => none
  | n + 1, b1, w => (if (w.1 162 4) ≤ b1 then jl (jsetI w 162 2 0) fun w39 => jbd (f_X12_cutsUp  w39) fun q40 => jl (jsetI q40 162 11 0) fun w41 => jl (jsetI w41 162 12 0) fun w42 => jl (jsetI w42 162 13 0) fun w43 => jl (jsetI w43 162 15 0) fun w44 => jl (jsetI w44 162 18 0) fun w45 => jl (jsetI w45 162 24 0) fun w46 => jl (jsetI w46 162 26 0) fun w47 => jbd2 (f_X12_is 20 w47) fun x49 w50 => (if (jb x49) = 0 then (l_X12_read_110F nf jfu 8 w50) else jbd (f_X12_goesOn  w50) fun q52 => jbd2 (f_X12_bounded 6 12 q52) fun x54 w55 => jbd (f_X12_must 4 w55) fun q56 => (l_X12_read_110F nf jfu x54 q56)) else jg (jin b1 2000) (jg (jin b1 2000) (jl (jsetX w 164 (Int32.toNatClampNeg b1) ((Int32.toInt8 (w.2.1 163 (Int32.toNatClampNeg b1))).toInt32)) fun w59 => jl (b1 + 1) fun x60 => (l_X12_read_10F nf n x60 w59))))
set_option maxRecDepth 20000 in
set_option maxHeartbeats 2000000 in
theorem sl_X12_read_10F {E : jE} (hE : jfull E) (nf : Nat) : ∀ (n : Nat) (b1 : Int32) (w : jw) (v : Int32) (w' : jw), l_X12_read_10F nf n b1 w = some (v, w') → jX E m_X12_read 7 10 [(0, .ref (E.2.2.2 + 162)), (1, .int b1)] [] w (some (.int v)) w' := by
  intro n
  induction n with
  | zero => intro b1 w v w' hf; cases hf
  | succ n ih =>
    intro b1 w v w' hf
    unfold l_X12_read_10F at hf
    refine jx_iload_n dX12_read_10 rfl ?_
    refine jx_aload_n dX12_read_11 rfl ?_
    refine jx_geti dX12_read_12 fl_X12_126 (kj_162 hE) sr_162_4 ?_
    refine jx_icmp_ge (tgt := 36) dX12_read_15 (by decide) (fun c38 => ?_) (fun c38 => ?_)
    · rw [if_pos c38] at hf
      refine jx_aload_n dX12_read_36 rfl ?_
      refine jx_iconst (v := 0) dX12_read_37 (by decide) ?_
      refine jx_puti dX12_read_38 fp_X12_120 (kj_162 hE) sr_162_2 rfl rfl ?_
      obtain ⟨w39, hw39, hf⟩ := jl_inv hf
      refine jx_nw hw39 ?_
      refine jx_aload_n dX12_read_41 rfl ?_
      obtain ⟨q40, hq40, hf⟩ := jbd_inv hf
      refine jx_cVv (a := 162) (As := []) (rest := []) dX12_read_42 ml_X12_181 mv_X12_cutsUp (s_X12_cutsUp hE hq40) rfl rfl (jc_162 hE) (by decide) (Nat.le_of_ble_eq_true rfl) ?_
      refine jx_aload_n dX12_read_45 rfl ?_
      refine jx_iconst (v := 0) dX12_read_46 (by decide) ?_
      refine jx_puti dX12_read_47 fp_X12_160 (kj_162 hE) sr_162_11 rfl rfl ?_
      obtain ⟨w41, hw41, hf⟩ := jl_inv hf
      refine jx_nw hw41 ?_
      refine jx_aload_n dX12_read_50 rfl ?_
      refine jx_iconst (v := 0) dX12_read_51 (by decide) ?_
      refine jx_puti dX12_read_52 fp_X12_184 (kj_162 hE) sr_162_12 rfl rfl ?_
      obtain ⟨w42, hw42, hf⟩ := jl_inv hf
      refine jx_nw hw42 ?_
      refine jx_aload_n dX12_read_55 rfl ?_
      refine jx_iconst (v := 0) dX12_read_56 (by decide) ?_
      refine jx_puti dX12_read_57 fp_X12_157 (kj_162 hE) sr_162_13 rfl rfl ?_
      obtain ⟨w43, hw43, hf⟩ := jl_inv hf
      refine jx_nw hw43 ?_
      refine jx_aload_n dX12_read_60 rfl ?_
      refine jx_iconst (v := 0) dX12_read_61 (by decide) ?_
      refine jx_puti dX12_read_62 fp_X12_166 (kj_162 hE) sr_162_15 rfl rfl ?_
      obtain ⟨w44, hw44, hf⟩ := jl_inv hf
      refine jx_nw hw44 ?_
      refine jx_aload_n dX12_read_65 rfl ?_
      refine jx_iconst (v := 0) dX12_read_66 (by decide) ?_
      refine jx_puti dX12_read_67 fp_X12_187 (kj_162 hE) sr_162_18 rfl rfl ?_
      obtain ⟨w45, hw45, hf⟩ := jl_inv hf
      refine jx_nw hw45 ?_
      refine jx_aload_n dX12_read_70 rfl ?_
      refine jx_iconst (v := 0) dX12_read_71 (by decide) ?_
      refine jx_puti dX12_read_72 fp_X12_190 (kj_162 hE) sr_162_24 rfl rfl ?_
      obtain ⟨w46, hw46, hf⟩ := jl_inv hf
      refine jx_nw hw46 ?_
      refine jx_aload_n dX12_read_75 rfl ?_
      refine jx_iconst (v := 0) dX12_read_76 (by decide) ?_
      refine jx_puti dX12_read_77 fp_X12_193 (kj_162 hE) sr_162_26 rfl rfl ?_
      obtain ⟨w47, hw47, hf⟩ := jl_inv hf
      refine jx_nw hw47 ?_
      refine jx_bipush (v := 8) dX12_read_80 (by decide) ?_
      refine jx_istore_n (ls' := [(0, .ref (E.2.2.2 + 162)), (1, .int 8)]) dX12_read_82 (by decide) rfl ?_
      refine jx_aload_n dX12_read_83 rfl ?_
      refine jx_bipush (v := 20) dX12_read_84 (by decide) ?_
      obtain ⟨x49, w50, hq48, hf⟩ := jbd2_inv hf
      refine jx_cVi (a := 162) (As := [.int 20]) (rest := []) dX12_read_86 ml_X12_175 mv_X12_is (s_X12_is hE hq48) rfl rfl (jc_162 hE) (by decide) (Nat.le_of_ble_eq_true rfl) ?_
      refine jx_if_eq (tgt := 110) dX12_read_89 (by decide) (fun c51 => ?_) (fun c51 => ?_)
      · rw [if_pos c51] at hf
        exact sl_X12_read_110F hE nf jfu _ _ _ _ hf
      · rw [if_neg c51] at hf
        refine jx_aload_n dX12_read_92 rfl ?_
        obtain ⟨q52, hq52, hf⟩ := jbd_inv hf
        refine jx_cVv (a := 162) (As := []) (rest := []) dX12_read_93 ml_X12_178 mv_X12_goesOn (s_X12_goesOn hE hq52) rfl rfl (jc_162 hE) (by decide) (Nat.le_of_ble_eq_true rfl) ?_
        refine jx_aload_n dX12_read_96 rfl ?_
        refine jx_bipush (v := 6) dX12_read_97 (by decide) ?_
        refine jx_bipush (v := 12) dX12_read_99 (by decide) ?_
        obtain ⟨x54, w55, hq53, hf⟩ := jbd2_inv hf
        refine jx_cVi (a := 162) (As := [.int 6, .int 12]) (rest := []) dX12_read_101 ml_X12_196 mv_X12_bounded (s_X12_bounded hE hq53) rfl rfl (jc_162 hE) (by decide) (Nat.le_of_ble_eq_true rfl) ?_
        refine jx_istore_n (ls' := [(0, .ref (E.2.2.2 + 162)), (1, .int x54)]) dX12_read_104 (by decide) rfl ?_
        refine jx_aload_n dX12_read_105 rfl ?_
        refine jx_iconst (v := 4) dX12_read_106 (by decide) ?_
        obtain ⟨q56, hq56, hf⟩ := jbd_inv hf
        refine jx_cVv (a := 162) (As := [.int 4]) (rest := []) dX12_read_107 ml_X12_200 mv_X12_must (s_X12_must hE hq56) rfl rfl (jc_162 hE) (by decide) (Nat.le_of_ble_eq_true rfl) ?_
        exact sl_X12_read_110F hE nf jfu _ _ _ _ hf
    · rw [if_neg c38] at hf
      refine jx_aload_n dX12_read_18 rfl ?_
      refine jx_getr dX12_read_19 fl_X12_17 (kj_162 hE) sr_162_3 ?_
      refine jx_iload_n dX12_read_22 rfl ?_
      refine jx_aload_n dX12_read_23 rfl ?_
      refine jx_getr dX12_read_24 fl_X12_13 (kj_162 hE) sr_162_1 ?_
      refine jx_iload_n dX12_read_27 rfl ?_
      obtain ⟨c57, hf⟩ := jg_inv hf
      refine jx_bald dX12_read_28 (kj_163 hE) (jin_vp c57) ?_
      obtain ⟨c58, hf⟩ := jg_inv hf
      refine jx_bast dX12_read_29 (kj_164 hE) (jin_vp c58) ?_
      obtain ⟨w59, hw59, hf⟩ := jl_inv hf
      refine jx_nw hw59 ?_
      obtain ⟨x60, hx60, hf⟩ := jl_inv hf
      refine jx_iinc (v := x60) (ls' := [(0, .ref (E.2.2.2 + 162)), (1, .int x60)]) dX12_read_30 rfl (by rw [hx60]; rfl) (by decide) rfl ?_
      refine jx_goto (tgt := 10) dX12_read_33 (by decide) ?_
      exact ih _ _ _ _ hf
def f_X12_readF (nf : Nat) (w : jw) : Option (Int32 × jw) := jl (jsetI w 162 4 (w.1 162 2)) fun w61 => (l_X12_read_10F nf jfu 0 w61)
set_option maxRecDepth 20000 in
set_option maxHeartbeats 2000000 in
theorem s_X12_readF {E : jE} (hE : jfull E) {nf : Nat} {w w' : jw} {v : Int32} (hf : f_X12_readF nf w = some (v, w')) : jC E m_X12_read 7 [.ref (E.2.2.2 + 162)] w (some (.int v)) w' := by
  refine jC_of (ls := [(0, .ref (E.2.2.2 + 162))]) (by decide) rfl (fun _ => trivial) (Nat.le_of_ble_eq_true rfl) rfl ⟨.int, rfl, rfl⟩ ?_
  unfold f_X12_readF at hf
  refine jx_aload_n dX12_read_0 rfl ?_
  refine jx_aload_n dX12_read_1 rfl ?_
  refine jx_geti dX12_read_2 fl_X12_120 (kj_162 hE) sr_162_2 ?_
  refine jx_puti dX12_read_5 fp_X12_126 (kj_162 hE) sr_162_4 rfl rfl ?_
  obtain ⟨w61, hw61, hf⟩ := jl_inv hf
  refine jx_nw hw61 ?_
  refine jx_iconst (v := 0) dX12_read_8 (by decide) ?_
  refine jx_istore_n (ls' := [(0, .ref (E.2.2.2 + 162)), (1, .int 0)]) dX12_read_9 (by decide) rfl ?_
  exact sl_X12_read_10F hE nf jfu _ _ _ _ hf
