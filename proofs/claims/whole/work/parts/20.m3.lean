def l_X12_runs : Nat → Int32 → Int32 → Int32 → jw → Option (jw)
  | 0, _, _, _, _ => none
  | n + 1, b1, b2, b3, w => (if (w.1 162 18) ≤ b1 then some w else jg (jin 5 34700) ((if 400 ≤ (w.2.1 182 (Int32.toNatClampNeg 5)) then some w else jg (jin b1 210) (jl (w.2.1 170 (Int32.toNatClampNeg b1) : Int32) fun x5 => jbd4 (if x5 = 2 then jg (jin b1 210) ((if (w.2.1 171 (Int32.toNatClampNeg b1)) = 0 then jg (jin b1 210) (jl (w.2.1 174 (Int32.toNatClampNeg b1) : Int32) fun x90 => some (x90, b2, b3, w)) else jg (jin b2 3) (jl (jsetX w 181 (Int32.toNatClampNeg b2) 0) fun w87 => jl (b2 + 1) fun x88 => some (b1, x88, b3, w87)))) else (if x5 = 3 then jg (jin (b2 - 1) 3) (jg (jin (b2 - 1) 3) (jl (jsetX w 181 (Int32.toNatClampNeg (b2 - 1)) ((w.2.1 181 (Int32.toNatClampNeg (b2 - 1))) + 1)) fun w76 => jg (jin (b2 - 1) 3) (jg (jin b1 210) (jg (jin (w76.2.1 174 (Int32.toNatClampNeg b1)) 210) ((if (w76.2.1 171 (Int32.toNatClampNeg (w76.2.1 174 (Int32.toNatClampNeg b1)))) ≤ (w76.2.1 181 (Int32.toNatClampNeg (b2 - 1))) then jl (b2 + (-1)) fun x81 => some (b1, x81, b3, w76) else jg (jin b1 210) (jl (w76.2.1 174 (Int32.toNatClampNeg b1) : Int32) fun x83 => some (x83, b2, b3, w76)))))))) else jbd (if b2 ≤ 0 then some (0 : Int32) else jg (jin (b2 - 1) 3) (some (w.2.1 181 (Int32.toNatClampNeg (b2 - 1))))) fun x15 => jg (jin 0 6) (jl (jsetX w 179 (Int32.toNatClampNeg 0) x15) fun w18 => jbd (if b2 ≤ 1 then some (0 : Int32) else jg (jin (b2 - 2) 3) (some (w18.2.1 181 (Int32.toNatClampNeg (b2 - 2))))) fun x20 => jg (jin 1 6) (jl (jsetX w18 179 (Int32.toNatClampNeg 1) x20) fun w23 => jg (jin 0 34700) (jg (jin 2 6) (jl (jsetX w23 179 (Int32.toNatClampNeg 2) (w23.2.1 182 (Int32.toNatClampNeg 0))) fun w26 => jg (jin 7 34700) (jg (jin 3 6) (jl (jsetX w26 179 (Int32.toNatClampNeg 3) (w26.2.1 182 (Int32.toNatClampNeg 7))) fun w29 => jg (jin 4 6) (jl (jsetX w29 179 (Int32.toNatClampNeg 4) b3) fun w31 => jg (jin 3 34700) (jg (jin 5 6) (jl (jsetX w31 179 (Int32.toNatClampNeg 5) (w31.2.1 182 (Int32.toNatClampNeg 3))) fun w34 => jg (jin b1 210) (jg (jin b1 210) (jbd2 (f_X12_termOf (w34.2.1 171 (Int32.toNatClampNeg b1)) (w34.2.1 172 (Int32.toNatClampNeg b1)) w34) fun x38 w39 => jbd2 (f_X12_keyOf x38 w39) fun x41 w42 => jbd2 (if x5 = 0 then jg (jin b1 210) (jg (jin b1 210) (jbd2 (f_X12_termOf (w42.2.1 172 (Int32.toNatClampNeg b1)) (w42.2.1 173 (Int32.toNatClampNeg b1)) w42) fun x70 w71 => some (x70, w71))) else some ((0 : Int32), w42)) fun x44 w45 => jbd (if x5 = 0 then some x41 else some b3) fun x48 => jg (jin 5 34700) (jg (jin 5 34700) (jl (jsetX w45 182 (Int32.toNatClampNeg 5) ((w45.2.1 182 (Int32.toNatClampNeg 5)) + 1)) fun w52 => jbd2 (if x5 = 0 then jbd2 (f_X12_puts x41 x44 w52) fun x65 w66 => some (jb x65, w66) else jbd2 (f_X12_cuts x41 w52) fun x62 w63 => some (jb x62, w63)) fun x54 w55 => (if x54 = 0 then jg (jin 6 34700) (jg (jin 6 34700) (jl (jsetX w55 182 (Int32.toNatClampNeg 6) ((w55.2.1 182 (Int32.toNatClampNeg 6)) + 1)) fun w60 => some (b1, b2, x48, w60))) else some (b1, b2, x48, w55))))))))))))))))) fun x7 x8 x9 w10 => jl (x7 + 1) fun x12 => (l_X12_runs n x12 x8 x9 w10)))))
set_option maxRecDepth 20000 in
set_option maxHeartbeats 2000000 in
theorem sl_X12_runs {E : jE} (hE : jfull E) : ∀ (n : Nat) (b1 : Int32) (b2 : Int32) (b3 : Int32) (w : jw) (w' : jw), l_X12_runs n b1 b2 b3 w = some w' → jX E m_X12_runs 6 6 [(0, .ref (E.2.2.2 + 162)), (1, .int b1), (2, .int b2), (3, .int b3)] [] w none w' := by
  intro n
  induction n with
  | zero => intro b1 b2 b3 w w' hf; cases hf
  | succ n ih =>
    intro b1 b2 b3 w w' hf
    unfold l_X12_runs at hf
    refine jx_iload_n dX12_runs_6 rfl ?_
    refine jx_aload_n dX12_runs_7 rfl ?_
    refine jx_geti dX12_runs_8 fl_X12_187 (kj_162 hE) sr_162_18 ?_
    refine jx_icmp_ge (tgt := 329) dX12_runs_11 (by decide) (fun c1 => ?_) (fun c1 => ?_)
    · rw [if_pos c1] at hf
      cases hf
      exact jx_vret dX12_runs_329 rfl rfl
    · rw [if_neg c1] at hf
      refine jx_aload_n dX12_runs_14 rfl ?_
      refine jx_getr dX12_runs_15 fl_X12_77 (kj_162 hE) sr_162_34 ?_
      refine jx_iconst (v := 5) dX12_runs_18 (by decide) ?_
      obtain ⟨c2, hf⟩ := jg_inv hf
      refine jx_iald dX12_runs_19 (kj_182 hE) (jin_vp c2) ?_
      refine jx_sipush (v := 400) dX12_runs_20 (by decide) ?_
      refine jx_icmp_ge (tgt := 329) dX12_runs_23 (by decide) (fun c3 => ?_) (fun c3 => ?_)
      · rw [if_pos c3] at hf
        cases hf
        exact jx_vret dX12_runs_329 rfl rfl
      · rw [if_neg c3] at hf
        refine jx_aload_n dX12_runs_26 rfl ?_
        refine jx_getr dX12_runs_27 fl_X12_40 (kj_162 hE) sr_162_19 ?_
        refine jx_iload_n dX12_runs_30 rfl ?_
        obtain ⟨c4, hf⟩ := jg_inv hf
        refine jx_iald dX12_runs_31 (kj_170 hE) (jin_vp c4) ?_
        obtain ⟨x5, hx5, hf⟩ := jl_inv hf
        refine jx_nm hx5 ?_
        refine jx_istore (ls' := [(0, .ref (E.2.2.2 + 162)), (1, .int b1), (2, .int b2), (3, .int b3), (4, .int x5)]) dX12_runs_32 (by decide) rfl ?_
        refine jx_iload dX12_runs_34 rfl ?_
        refine jx_iconst (v := 2) dX12_runs_36 (by decide) ?_
        obtain ⟨x7, x8, x9, w10, hqhJ11, hf⟩ := jbd4_inv hf
        have hJ11 : jX E m_X12_runs 6 323 [(0, .ref (E.2.2.2 + 162)), (1, .int x7), (2, .int x8), (3, .int x9), (4, .int x5)] [] w10 none w' := by
          obtain ⟨x12, hx12, hf⟩ := jl_inv hf
          refine jx_iinc (v := x12) (ls' := [(0, .ref (E.2.2.2 + 162)), (1, .int x12), (2, .int x8), (3, .int x9), (4, .int x5)]) dX12_runs_323 rfl (by rw [hx12]; rfl) (by decide) rfl ?_
          refine jx_goto (tgt := 6) dX12_runs_326 (by decide) ?_
          refine jx_pick [0, 1, 2, 3] rfl ?_
          exact ih _ _ _ _ _ hf
        clear hf
        have hf := hqhJ11
        clear hqhJ11
        refine jx_icmp_ne (tgt := 72) dX12_runs_37 (by decide) (fun c6 => ?_) (fun c6 => ?_)
        · rw [if_neg c6] at hf
          refine jx_iload dX12_runs_72 rfl ?_
          refine jx_iconst (v := 3) dX12_runs_74 (by decide) ?_
          refine jx_icmp_ne (tgt := 128) dX12_runs_75 (by decide) (fun c13 => ?_) (fun c13 => ?_)
          · rw [if_neg c13] at hf
            refine jx_aload_n dX12_runs_128 rfl ?_
            refine jx_getr dX12_runs_129 fl_X12_67 (kj_162 hE) sr_162_31 ?_
            refine jx_iconst (v := 0) dX12_runs_132 (by decide) ?_
            refine jx_iload_n dX12_runs_133 rfl ?_
            obtain ⟨x15, hqhJ16, hf⟩ := jbd_inv hf
            have hJ16 : jX E m_X12_runs 6 149 [(0, .ref (E.2.2.2 + 162)), (1, .int b1), (2, .int b2), (3, .int b3), (4, .int x5)] [.int x15, .int 0, .ref (E.2.2.2 + 179)] w none w' := by
              obtain ⟨c17, hf⟩ := jg_inv hf
              refine jx_iast dX12_runs_149 (kj_179 hE) (jin_vp c17) ?_
              obtain ⟨w18, hw18, hf⟩ := jl_inv hf
              refine jx_nw hw18 ?_
              refine jx_aload_n dX12_runs_150 rfl ?_
              refine jx_getr dX12_runs_151 fl_X12_67 (kj_162 hE) sr_162_31 ?_
              refine jx_iconst (v := 1) dX12_runs_154 (by decide) ?_
              refine jx_iload_n dX12_runs_155 rfl ?_
              refine jx_iconst (v := 1) dX12_runs_156 (by decide) ?_
              obtain ⟨x20, hqhJ21, hf⟩ := jbd_inv hf
              have hJ21 : jX E m_X12_runs 6 172 [(0, .ref (E.2.2.2 + 162)), (1, .int b1), (2, .int b2), (3, .int b3), (4, .int x5)] [.int x20, .int 1, .ref (E.2.2.2 + 179)] w18 none w' := by
                obtain ⟨c22, hf⟩ := jg_inv hf
                refine jx_iast dX12_runs_172 (kj_179 hE) (jin_vp c22) ?_
                obtain ⟨w23, hw23, hf⟩ := jl_inv hf
                refine jx_nw hw23 ?_
                refine jx_aload_n dX12_runs_173 rfl ?_
                refine jx_getr dX12_runs_174 fl_X12_67 (kj_162 hE) sr_162_31 ?_
                refine jx_iconst (v := 2) dX12_runs_177 (by decide) ?_
                refine jx_aload_n dX12_runs_178 rfl ?_
                refine jx_getr dX12_runs_179 fl_X12_77 (kj_162 hE) sr_162_34 ?_
                refine jx_iconst (v := 0) dX12_runs_182 (by decide) ?_
                obtain ⟨c24, hf⟩ := jg_inv hf
                refine jx_iald dX12_runs_183 (kj_182 hE) (jin_vp c24) ?_
                obtain ⟨c25, hf⟩ := jg_inv hf
                refine jx_iast dX12_runs_184 (kj_179 hE) (jin_vp c25) ?_
                obtain ⟨w26, hw26, hf⟩ := jl_inv hf
                refine jx_nw hw26 ?_
                refine jx_aload_n dX12_runs_185 rfl ?_
                refine jx_getr dX12_runs_186 fl_X12_67 (kj_162 hE) sr_162_31 ?_
                refine jx_iconst (v := 3) dX12_runs_189 (by decide) ?_
                refine jx_aload_n dX12_runs_190 rfl ?_
                refine jx_getr dX12_runs_191 fl_X12_77 (kj_162 hE) sr_162_34 ?_
                refine jx_bipush (v := 7) dX12_runs_194 (by decide) ?_
                obtain ⟨c27, hf⟩ := jg_inv hf
                refine jx_iald dX12_runs_196 (kj_182 hE) (jin_vp c27) ?_
                obtain ⟨c28, hf⟩ := jg_inv hf
                refine jx_iast dX12_runs_197 (kj_179 hE) (jin_vp c28) ?_
                obtain ⟨w29, hw29, hf⟩ := jl_inv hf
                refine jx_nw hw29 ?_
                refine jx_aload_n dX12_runs_198 rfl ?_
                refine jx_getr dX12_runs_199 fl_X12_67 (kj_162 hE) sr_162_31 ?_
                refine jx_iconst (v := 4) dX12_runs_202 (by decide) ?_
                refine jx_iload_n dX12_runs_203 rfl ?_
                obtain ⟨c30, hf⟩ := jg_inv hf
                refine jx_iast dX12_runs_204 (kj_179 hE) (jin_vp c30) ?_
                obtain ⟨w31, hw31, hf⟩ := jl_inv hf
                refine jx_nw hw31 ?_
                refine jx_aload_n dX12_runs_205 rfl ?_
                refine jx_getr dX12_runs_206 fl_X12_67 (kj_162 hE) sr_162_31 ?_
                refine jx_iconst (v := 5) dX12_runs_209 (by decide) ?_
                refine jx_aload_n dX12_runs_210 rfl ?_
                refine jx_getr dX12_runs_211 fl_X12_77 (kj_162 hE) sr_162_34 ?_
                refine jx_iconst (v := 3) dX12_runs_214 (by decide) ?_
                obtain ⟨c32, hf⟩ := jg_inv hf
                refine jx_iald dX12_runs_215 (kj_182 hE) (jin_vp c32) ?_
                obtain ⟨c33, hf⟩ := jg_inv hf
                refine jx_iast dX12_runs_216 (kj_179 hE) (jin_vp c33) ?_
                obtain ⟨w34, hw34, hf⟩ := jl_inv hf
                refine jx_nw hw34 ?_
                refine jx_aload_n dX12_runs_217 rfl ?_
                refine jx_aload_n dX12_runs_218 rfl ?_
                refine jx_getr dX12_runs_219 fl_X12_43 (kj_162 hE) sr_162_20 ?_
                refine jx_iload_n dX12_runs_222 rfl ?_
                obtain ⟨c35, hf⟩ := jg_inv hf
                refine jx_iald dX12_runs_223 (kj_171 hE) (jin_vp c35) ?_
                refine jx_aload_n dX12_runs_224 rfl ?_
                refine jx_getr dX12_runs_225 fl_X12_46 (kj_162 hE) sr_162_21 ?_
                refine jx_iload_n dX12_runs_228 rfl ?_
                obtain ⟨c36, hf⟩ := jg_inv hf
                refine jx_iald dX12_runs_229 (kj_172 hE) (jin_vp c36) ?_
                obtain ⟨x38, w39, hq37, hf⟩ := jbd2_inv hf
                refine jx_cVi (a := 162) (As := [.int (w34.2.1 171 (Int32.toNatClampNeg b1)), .int (w34.2.1 172 (Int32.toNatClampNeg b1))]) (rest := []) dX12_runs_230 ml_X12_229 mv_X12_termOf (s_X12_termOf hE hq37) rfl rfl (jc_162 hE) (by decide) (Nat.le_of_ble_eq_true rfl) ?_
                obtain ⟨x41, w42, hq40, hf⟩ := jbd2_inv hf
                refine jx_cSi (As := [.int x38]) (rest := []) dX12_runs_233 ml_X12_232 ms_X12_keyOf (s_X12_keyOf hE hq40) rfl rfl rfl (by decide) (Nat.le_of_ble_eq_true rfl) ?_
                refine jx_istore (ls' := [(0, .ref (E.2.2.2 + 162)), (1, .int b1), (2, .int b2), (3, .int b3), (4, .int x5), (5, .int x41)]) dX12_runs_236 (by decide) rfl ?_
                refine jx_iload dX12_runs_238 rfl ?_
                obtain ⟨x44, w45, hqhJ46, hf⟩ := jbd2_inv hf
                have hJ46 : jX E m_X12_runs 6 263 [(0, .ref (E.2.2.2 + 162)), (1, .int b1), (2, .int b2), (3, .int b3), (4, .int x5), (5, .int x41)] [.int x44] w45 none w' := by
                  refine jx_istore (ls' := [(0, .ref (E.2.2.2 + 162)), (1, .int b1), (2, .int b2), (3, .int b3), (4, .int x5), (5, .int x41), (6, .int x44)]) dX12_runs_263 (by decide) rfl ?_
                  refine jx_iload dX12_runs_265 rfl ?_
                  obtain ⟨x48, hqhJ49, hf⟩ := jbd_inv hf
                  have hJ49 : jX E m_X12_runs 6 273 [(0, .ref (E.2.2.2 + 162)), (1, .int b1), (2, .int b2), (3, .int x48), (4, .int x5), (5, .int x41), (6, .int x44)] [] w45 none w' := by
                    refine jx_aload_n dX12_runs_273 rfl ?_
                    refine jx_getr dX12_runs_274 fl_X12_77 (kj_162 hE) sr_162_34 ?_
                    refine jx_iconst (v := 5) dX12_runs_277 (by decide) ?_
                    refine jx_dup2 dX12_runs_278 rfl rfl ?_
                    obtain ⟨c50, hf⟩ := jg_inv hf
                    refine jx_iald dX12_runs_279 (kj_182 hE) (jin_vp c50) ?_
                    refine jx_iconst (v := 1) dX12_runs_280 (by decide) ?_
                    refine jx_iadd dX12_runs_281 ?_
                    obtain ⟨c51, hf⟩ := jg_inv hf
                    refine jx_iast dX12_runs_282 (kj_182 hE) (jin_vp c51) ?_
                    obtain ⟨w52, hw52, hf⟩ := jl_inv hf
                    refine jx_nw hw52 ?_
                    refine jx_iload dX12_runs_283 rfl ?_
                    obtain ⟨x54, w55, hqhJ56, hf⟩ := jbd2_inv hf
                    have hJ56 : jX E m_X12_runs 6 305 [(0, .ref (E.2.2.2 + 162)), (1, .int b1), (2, .int b2), (3, .int x48), (4, .int x5), (5, .int x41), (6, .int x44)] [.int x54] w55 none w' := by
                      refine jx_istore (ls' := [(0, .ref (E.2.2.2 + 162)), (1, .int b1), (2, .int b2), (3, .int x48), (4, .int x5), (5, .int x41), (6, .int x44), (7, .int x54)]) dX12_runs_305 (by decide) rfl ?_
                      refine jx_iload dX12_runs_307 rfl ?_
                      refine jx_if_ne (tgt := 323) dX12_runs_309 (by decide) (fun c57 => ?_) (fun c57 => ?_)
                      · rw [if_neg c57] at hf
                        refine jx_pick [0, 1, 2, 3, 4] rfl ?_
                        cases hf
                        exact hJ11
                      · rw [if_pos c57] at hf
                        refine jx_aload_n dX12_runs_312 rfl ?_
                        refine jx_getr dX12_runs_313 fl_X12_77 (kj_162 hE) sr_162_34 ?_
                        refine jx_bipush (v := 6) dX12_runs_316 (by decide) ?_
                        refine jx_dup2 dX12_runs_318 rfl rfl ?_
                        obtain ⟨c58, hf⟩ := jg_inv hf
                        refine jx_iald dX12_runs_319 (kj_182 hE) (jin_vp c58) ?_
                        refine jx_iconst (v := 1) dX12_runs_320 (by decide) ?_
                        refine jx_iadd dX12_runs_321 ?_
                        obtain ⟨c59, hf⟩ := jg_inv hf
                        refine jx_iast dX12_runs_322 (kj_182 hE) (jin_vp c59) ?_
                        obtain ⟨w60, hw60, hf⟩ := jl_inv hf
                        refine jx_nw hw60 ?_
                        refine jx_pick [0, 1, 2, 3, 4] rfl ?_
                        cases hf
                        exact hJ11
                    clear hf
                    have hf := hqhJ56
                    clear hqhJ56
                    refine jx_if_ne (tgt := 299) dX12_runs_285 (by decide) (fun c53 => ?_) (fun c53 => ?_)
                    · rw [if_neg c53] at hf
                      refine jx_aload_n dX12_runs_299 rfl ?_
                      refine jx_iload dX12_runs_300 rfl ?_
                      obtain ⟨x62, w63, hq61, hf⟩ := jbd2_inv hf
                      refine jx_cVi (a := 162) (As := [.int x41]) (rest := []) dX12_runs_302 ml_X12_239 mv_X12_cuts (s_X12_cuts hE hq61) rfl rfl (jc_162 hE) (by decide) (Nat.le_of_ble_eq_true rfl) ?_
                      cases hf
                      exact hJ56
                    · rw [if_pos c53] at hf
                      refine jx_aload_n dX12_runs_288 rfl ?_
                      refine jx_iload dX12_runs_289 rfl ?_
                      refine jx_iload dX12_runs_291 rfl ?_
                      obtain ⟨x65, w66, hq64, hf⟩ := jbd2_inv hf
                      refine jx_cVi (a := 162) (As := [.int x41, .int x44]) (rest := []) dX12_runs_293 ml_X12_235 mv_X12_puts (s_X12_puts hE hq64) rfl rfl (jc_162 hE) (by decide) (Nat.le_of_ble_eq_true rfl) ?_
                      refine jx_goto (tgt := 305) dX12_runs_296 (by decide) ?_
                      cases hf
                      exact hJ56
                  clear hf
                  have hf := hqhJ49
                  clear hqhJ49
                  refine jx_if_ne (tgt := 273) dX12_runs_267 (by decide) (fun c47 => ?_) (fun c47 => ?_)
                  · rw [if_neg c47] at hf
                    cases hf
                    exact hJ49
                  · rw [if_pos c47] at hf
                    refine jx_iload dX12_runs_270 rfl ?_
                    refine jx_istore_n (ls' := [(0, .ref (E.2.2.2 + 162)), (1, .int b1), (2, .int b2), (3, .int x41), (4, .int x5), (5, .int x41), (6, .int x44)]) dX12_runs_272 (by decide) rfl ?_
                    cases hf
                    exact hJ49
                clear hf
                have hf := hqhJ46
                clear hqhJ46
                refine jx_if_ne (tgt := 262) dX12_runs_240 (by decide) (fun c43 => ?_) (fun c43 => ?_)
                · rw [if_neg c43] at hf
                  refine jx_iconst (v := 0) dX12_runs_262 (by decide) ?_
                  cases hf
                  exact hJ46
                · rw [if_pos c43] at hf
                  refine jx_aload_n dX12_runs_243 rfl ?_
                  refine jx_aload_n dX12_runs_244 rfl ?_
                  refine jx_getr dX12_runs_245 fl_X12_46 (kj_162 hE) sr_162_21 ?_
                  refine jx_iload_n dX12_runs_248 rfl ?_
                  obtain ⟨c67, hf⟩ := jg_inv hf
                  refine jx_iald dX12_runs_249 (kj_172 hE) (jin_vp c67) ?_
                  refine jx_aload_n dX12_runs_250 rfl ?_
                  refine jx_getr dX12_runs_251 fl_X12_49 (kj_162 hE) sr_162_22 ?_
                  refine jx_iload_n dX12_runs_254 rfl ?_
                  obtain ⟨c68, hf⟩ := jg_inv hf
                  refine jx_iald dX12_runs_255 (kj_173 hE) (jin_vp c68) ?_
                  obtain ⟨x70, w71, hq69, hf⟩ := jbd2_inv hf
                  refine jx_cVi (a := 162) (As := [.int (w42.2.1 172 (Int32.toNatClampNeg b1)), .int (w42.2.1 173 (Int32.toNatClampNeg b1))]) (rest := []) dX12_runs_256 ml_X12_229 mv_X12_termOf (s_X12_termOf hE hq69) rfl rfl (jc_162 hE) (by decide) (Nat.le_of_ble_eq_true rfl) ?_
                  refine jx_goto (tgt := 263) dX12_runs_259 (by decide) ?_
                  cases hf
                  exact hJ46
              clear hf
              have hf := hqhJ21
              clear hqhJ21
              refine jx_icmp_le (tgt := 171) dX12_runs_157 (by decide) (fun c19 => ?_) (fun c19 => ?_)
              · rw [if_pos c19] at hf
                refine jx_iconst (v := 0) dX12_runs_171 (by decide) ?_
                cases hf
                exact hJ21
              · rw [if_neg c19] at hf
                refine jx_aload_n dX12_runs_160 rfl ?_
                refine jx_getr dX12_runs_161 fl_X12_73 (kj_162 hE) sr_162_33 ?_
                refine jx_iload_n dX12_runs_164 rfl ?_
                refine jx_iconst (v := 2) dX12_runs_165 (by decide) ?_
                refine jx_isub dX12_runs_166 ?_
                obtain ⟨c72, hf⟩ := jg_inv hf
                refine jx_iald dX12_runs_167 (kj_181 hE) (jin_vp c72) ?_
                refine jx_goto (tgt := 172) dX12_runs_168 (by decide) ?_
                cases hf
                exact hJ21
            clear hf
            have hf := hqhJ16
            clear hqhJ16
            refine jx_if_le (tgt := 148) dX12_runs_134 (by decide) (fun c14 => ?_) (fun c14 => ?_)
            · rw [if_pos c14] at hf
              refine jx_iconst (v := 0) dX12_runs_148 (by decide) ?_
              cases hf
              exact hJ16
            · rw [if_neg c14] at hf
              refine jx_aload_n dX12_runs_137 rfl ?_
              refine jx_getr dX12_runs_138 fl_X12_73 (kj_162 hE) sr_162_33 ?_
              refine jx_iload_n dX12_runs_141 rfl ?_
              refine jx_iconst (v := 1) dX12_runs_142 (by decide) ?_
              refine jx_isub dX12_runs_143 ?_
              obtain ⟨c73, hf⟩ := jg_inv hf
              refine jx_iald dX12_runs_144 (kj_181 hE) (jin_vp c73) ?_
              refine jx_goto (tgt := 149) dX12_runs_145 (by decide) ?_
              cases hf
              exact hJ16
          · rw [if_pos c13] at hf
            refine jx_aload_n dX12_runs_78 rfl ?_
            refine jx_getr dX12_runs_79 fl_X12_73 (kj_162 hE) sr_162_33 ?_
            refine jx_iload_n dX12_runs_82 rfl ?_
            refine jx_iconst (v := 1) dX12_runs_83 (by decide) ?_
            refine jx_isub dX12_runs_84 ?_
            refine jx_dup2 dX12_runs_85 rfl rfl ?_
            obtain ⟨c74, hf⟩ := jg_inv hf
            refine jx_iald dX12_runs_86 (kj_181 hE) (jin_vp c74) ?_
            refine jx_iconst (v := 1) dX12_runs_87 (by decide) ?_
            refine jx_iadd dX12_runs_88 ?_
            obtain ⟨c75, hf⟩ := jg_inv hf
            refine jx_iast dX12_runs_89 (kj_181 hE) (jin_vp c75) ?_
            obtain ⟨w76, hw76, hf⟩ := jl_inv hf
            refine jx_nw hw76 ?_
            refine jx_aload_n dX12_runs_90 rfl ?_
            refine jx_getr dX12_runs_91 fl_X12_73 (kj_162 hE) sr_162_33 ?_
            refine jx_iload_n dX12_runs_94 rfl ?_
            refine jx_iconst (v := 1) dX12_runs_95 (by decide) ?_
            refine jx_isub dX12_runs_96 ?_
            obtain ⟨c77, hf⟩ := jg_inv hf
            refine jx_iald dX12_runs_97 (kj_181 hE) (jin_vp c77) ?_
            refine jx_aload_n dX12_runs_98 rfl ?_
            refine jx_getr dX12_runs_99 fl_X12_43 (kj_162 hE) sr_162_20 ?_
            refine jx_aload_n dX12_runs_102 rfl ?_
            refine jx_getr dX12_runs_103 fl_X12_52 (kj_162 hE) sr_162_23 ?_
            refine jx_iload_n dX12_runs_106 rfl ?_
            obtain ⟨c78, hf⟩ := jg_inv hf
            refine jx_iald dX12_runs_107 (kj_174 hE) (jin_vp c78) ?_
            obtain ⟨c79, hf⟩ := jg_inv hf
            refine jx_iald dX12_runs_108 (kj_171 hE) (jin_vp c79) ?_
            refine jx_icmp_ge (tgt := 122) dX12_runs_109 (by decide) (fun c80 => ?_) (fun c80 => ?_)
            · rw [if_pos c80] at hf
              obtain ⟨x81, hx81, hf⟩ := jl_inv hf
              refine jx_iinc (v := x81) (ls' := [(0, .ref (E.2.2.2 + 162)), (1, .int b1), (2, .int x81), (3, .int b3), (4, .int x5)]) dX12_runs_122 rfl (by rw [hx81]; rfl) (by decide) rfl ?_
              refine jx_goto (tgt := 323) dX12_runs_125 (by decide) ?_
              cases hf
              exact hJ11
            · rw [if_neg c80] at hf
              refine jx_aload_n dX12_runs_112 rfl ?_
              refine jx_getr dX12_runs_113 fl_X12_52 (kj_162 hE) sr_162_23 ?_
              refine jx_iload_n dX12_runs_116 rfl ?_
              obtain ⟨c82, hf⟩ := jg_inv hf
              refine jx_iald dX12_runs_117 (kj_174 hE) (jin_vp c82) ?_
              obtain ⟨x83, hx83, hf⟩ := jl_inv hf
              refine jx_nm hx83 ?_
              refine jx_istore_n (ls' := [(0, .ref (E.2.2.2 + 162)), (1, .int x83), (2, .int b2), (3, .int b3), (4, .int x5)]) dX12_runs_118 (by decide) rfl ?_
              refine jx_goto (tgt := 323) dX12_runs_119 (by decide) ?_
              cases hf
              exact hJ11
        · rw [if_pos c6] at hf
          refine jx_aload_n dX12_runs_40 rfl ?_
          refine jx_getr dX12_runs_41 fl_X12_43 (kj_162 hE) sr_162_20 ?_
          refine jx_iload_n dX12_runs_44 rfl ?_
          obtain ⟨c84, hf⟩ := jg_inv hf
          refine jx_iald dX12_runs_45 (kj_171 hE) (jin_vp c84) ?_
          refine jx_if_ne (tgt := 59) dX12_runs_46 (by decide) (fun c85 => ?_) (fun c85 => ?_)
          · rw [if_neg c85] at hf
            refine jx_aload_n dX12_runs_59 rfl ?_
            refine jx_getr dX12_runs_60 fl_X12_73 (kj_162 hE) sr_162_33 ?_
            refine jx_iload_n dX12_runs_63 rfl ?_
            refine jx_iconst (v := 0) dX12_runs_64 (by decide) ?_
            obtain ⟨c86, hf⟩ := jg_inv hf
            refine jx_iast dX12_runs_65 (kj_181 hE) (jin_vp c86) ?_
            obtain ⟨w87, hw87, hf⟩ := jl_inv hf
            refine jx_nw hw87 ?_
            obtain ⟨x88, hx88, hf⟩ := jl_inv hf
            refine jx_iinc (v := x88) (ls' := [(0, .ref (E.2.2.2 + 162)), (1, .int b1), (2, .int x88), (3, .int b3), (4, .int x5)]) dX12_runs_66 rfl (by rw [hx88]; rfl) (by decide) rfl ?_
            refine jx_goto (tgt := 323) dX12_runs_69 (by decide) ?_
            cases hf
            exact hJ11
          · rw [if_pos c85] at hf
            refine jx_aload_n dX12_runs_49 rfl ?_
            refine jx_getr dX12_runs_50 fl_X12_52 (kj_162 hE) sr_162_23 ?_
            refine jx_iload_n dX12_runs_53 rfl ?_
            obtain ⟨c89, hf⟩ := jg_inv hf
            refine jx_iald dX12_runs_54 (kj_174 hE) (jin_vp c89) ?_
            obtain ⟨x90, hx90, hf⟩ := jl_inv hf
            refine jx_nm hx90 ?_
            refine jx_istore_n (ls' := [(0, .ref (E.2.2.2 + 162)), (1, .int x90), (2, .int b2), (3, .int b3), (4, .int x5)]) dX12_runs_55 (by decide) rfl ?_
            refine jx_goto (tgt := 323) dX12_runs_56 (by decide) ?_
            cases hf
            exact hJ11
def f_X12_runs  (w : jw) : Option (jw) := (l_X12_runs jfu 0 0 0 w)
set_option maxRecDepth 20000 in
set_option maxHeartbeats 2000000 in
theorem s_X12_runs {E : jE} (hE : jfull E)  {w w' : jw} (hf : f_X12_runs  w = some w') : jC E m_X12_runs 6 [.ref (E.2.2.2 + 162)] w none w' := by
  refine jC_of (ls := [(0, .ref (E.2.2.2 + 162))]) (by decide) rfl (fun _ => trivial) (Nat.le_of_ble_eq_true rfl) rfl rfl ?_
  unfold f_X12_runs at hf
  refine jx_iconst (v := 0) dX12_runs_0 (by decide) ?_
  refine jx_istore_n (ls' := [(0, .ref (E.2.2.2 + 162)), (1, .int 0)]) dX12_runs_1 (by decide) rfl ?_
  refine jx_iconst (v := 0) dX12_runs_2 (by decide) ?_
  refine jx_istore_n (ls' := [(0, .ref (E.2.2.2 + 162)), (1, .int 0), (2, .int 0)]) dX12_runs_3 (by decide) rfl ?_
  refine jx_iconst (v := 0) dX12_runs_4 (by decide) ?_
  refine jx_istore_n (ls' := [(0, .ref (E.2.2.2 + 162)), (1, .int 0), (2, .int 0), (3, .int 0)]) dX12_runs_5 (by decide) rfl ?_
  exact sl_X12_runs hE jfu _ _ _ _ _ hf
def f_X12_emit (a1 : Int32) (a2 : Int32) (w : jw) : Option (jw) := jg (jin (w.1 162 26) 420) (jl (jsetX w 176 (Int32.toNatClampNeg (w.1 162 26)) a1) fun w2 => jg (jin (w2.1 162 26) 420) (jl (jsetX w2 177 (Int32.toNatClampNeg (w2.1 162 26)) a2) fun w4 => jl (jsetI w4 162 26 ((w4.1 162 26) + 1)) fun w5 => some w5))
set_option maxRecDepth 20000 in
set_option maxHeartbeats 2000000 in
theorem s_X12_emit {E : jE} (hE : jfull E) {a1 : Int32} {a2 : Int32} {w w' : jw} (hf : f_X12_emit a1 a2 w = some w') : jC E m_X12_emit 0 [.ref (E.2.2.2 + 162), .int a1, .int a2] w none w' := by
  refine jC_of (ls := [(0, .ref (E.2.2.2 + 162)), (1, .int a1), (2, .int a2)]) (by decide) rfl (fun _ => trivial) (Nat.le_of_ble_eq_true rfl) rfl rfl ?_
  unfold f_X12_emit at hf
  refine jx_aload_n dX12_emit_0 rfl ?_
  refine jx_getr dX12_emit_1 fl_X12_58 (kj_162 hE) sr_162_27 ?_
  refine jx_aload_n dX12_emit_4 rfl ?_
  refine jx_geti dX12_emit_5 fl_X12_193 (kj_162 hE) sr_162_26 ?_
  refine jx_iload_n dX12_emit_8 rfl ?_
  obtain ⟨c1, hf⟩ := jg_inv hf
  refine jx_iast dX12_emit_9 (kj_176 hE) (jin_vp c1) ?_
  obtain ⟨w2, hw2, hf⟩ := jl_inv hf
  refine jx_nw hw2 ?_
  refine jx_aload_n dX12_emit_10 rfl ?_
  refine jx_getr dX12_emit_11 fl_X12_61 (kj_162 hE) sr_162_28 ?_
  refine jx_aload_n dX12_emit_14 rfl ?_
  refine jx_geti dX12_emit_15 fl_X12_193 (kj_162 hE) sr_162_26 ?_
  refine jx_iload_n dX12_emit_18 rfl ?_
  obtain ⟨c3, hf⟩ := jg_inv hf
  refine jx_iast dX12_emit_19 (kj_177 hE) (jin_vp c3) ?_
  obtain ⟨w4, hw4, hf⟩ := jl_inv hf
  refine jx_nw hw4 ?_
  refine jx_aload_n dX12_emit_20 rfl ?_
  refine jx_dup dX12_emit_21 rfl ?_
  refine jx_geti dX12_emit_22 fl_X12_193 (kj_162 hE) sr_162_26 ?_
  refine jx_iconst (v := 1) dX12_emit_25 (by decide) ?_
  refine jx_iadd dX12_emit_26 ?_
  refine jx_puti dX12_emit_27 fp_X12_193 (kj_162 hE) sr_162_26 rfl rfl ?_
  obtain ⟨w5, hw5, hf⟩ := jl_inv hf
  refine jx_nw hw5 ?_
  cases hf
  exact jx_vret dX12_emit_30 rfl rfl
def l_X12_comesOut : Nat → Int32 → jw → Option (jw)
  | 0, _, _ => none
  | n + 1, b1, w => (if (w.1 162 30) ≤ 0 then some w else jg (jin ((w.1 162 30) - 1) 64) (jl (w.2.1 178 (Int32.toNatClampNeg ((w.1 162 30) - 1)) : Int32) fun x3 => (if x3 = 6 then some w else (if b1 = 0 then jl (jsetI w 162 30 ((w.1 162 30) - 1)) fun w6 => (if x3 = 8 then jbd (f_X12_emit 2 0 w6) fun q15 => (l_X12_comesOut n b1 q15) else (if x3 = 9 then jbd (f_X12_emit 3 0 w6) fun q14 => (l_X12_comesOut n b1 q14) else (if x3 = 10 then jbd (f_X12_emit 4 0 w6) fun q13 => (l_X12_comesOut n b1 q13) else (if x3 = 15 then jbd (f_X12_emit 5 0 w6) fun q12 => (l_X12_comesOut n b1 q12) else jbd (f_X12_emit 6 0 w6) fun q11 => (l_X12_comesOut n b1 q11))))) else (if x3 = 8 then some w else (if x3 = 9 then some w else jl (jsetI w 162 30 ((w.1 162 30) - 1)) fun w18 => (if x3 = 8 then jbd (f_X12_emit 2 0 w18) fun q27 => (l_X12_comesOut n b1 q27) else (if x3 = 9 then jbd (f_X12_emit 3 0 w18) fun q26 => (l_X12_comesOut n b1 q26) else (if x3 = 10 then jbd (f_X12_emit 4 0 w18) fun q25 => (l_X12_comesOut n b1 q25) else (if x3 = 15 then jbd (f_X12_emit 5 0 w18) fun q24 => (l_X12_comesOut n b1 q24) else jbd (f_X12_emit 6 0 w18) fun q23 => (l_X12_comesOut n b1 q23)))))))))))
set_option maxRecDepth 20000 in
set_option maxHeartbeats 2000000 in
theorem sl_X12_comesOut {E : jE} (hE : jfull E) : ∀ (n : Nat) (b1 : Int32) (w : jw) (w' : jw), l_X12_comesOut n b1 w = some w' → jX E m_X12_comesOut 1 0 [(0, .ref (E.2.2.2 + 162)), (1, .int b1)] [] w none w' := by
  intro n
  induction n with
  | zero => intro b1 w w' hf; cases hf
  | succ n ih =>
    intro b1 w w' hf
    unfold l_X12_comesOut at hf
    refine jx_aload_n dX12_comesOut_0 rfl ?_
    refine jx_geti dX12_comesOut_1 fl_X12_216 (kj_162 hE) sr_162_30 ?_
    refine jx_if_le (tgt := 102) dX12_comesOut_4 (by decide) (fun c1 => ?_) (fun c1 => ?_)
    · rw [if_pos c1] at hf
      cases hf
      exact jx_vret dX12_comesOut_102 rfl rfl
    · rw [if_neg c1] at hf
      refine jx_aload_n dX12_comesOut_7 rfl ?_
      refine jx_getr dX12_comesOut_8 fl_X12_64 (kj_162 hE) sr_162_29 ?_
      refine jx_aload_n dX12_comesOut_11 rfl ?_
      refine jx_geti dX12_comesOut_12 fl_X12_216 (kj_162 hE) sr_162_30 ?_
      refine jx_iconst (v := 1) dX12_comesOut_15 (by decide) ?_
      refine jx_isub dX12_comesOut_16 ?_
      obtain ⟨c2, hf⟩ := jg_inv hf
      refine jx_iald dX12_comesOut_17 (kj_178 hE) (jin_vp c2) ?_
      obtain ⟨x3, hx3, hf⟩ := jl_inv hf
      refine jx_nm hx3 ?_
      refine jx_istore_n (ls' := [(0, .ref (E.2.2.2 + 162)), (1, .int b1), (2, .int x3)]) dX12_comesOut_18 (by decide) rfl ?_
      refine jx_iload_n dX12_comesOut_19 rfl ?_
      refine jx_bipush (v := 6) dX12_comesOut_20 (by decide) ?_
      refine jx_icmp_eq (tgt := 41) dX12_comesOut_22 (by decide) (fun c4 => ?_) (fun c4 => ?_)
      · rw [if_pos c4] at hf
        cases hf
        exact jx_vret dX12_comesOut_41 rfl rfl
      · rw [if_neg c4] at hf
        refine jx_iload_n dX12_comesOut_25 rfl ?_
        refine jx_if_eq (tgt := 42) dX12_comesOut_26 (by decide) (fun c5 => ?_) (fun c5 => ?_)
        · rw [if_pos c5] at hf
          refine jx_aload_n dX12_comesOut_42 rfl ?_
          refine jx_dup dX12_comesOut_43 rfl ?_
          refine jx_geti dX12_comesOut_44 fl_X12_216 (kj_162 hE) sr_162_30 ?_
          refine jx_iconst (v := 1) dX12_comesOut_47 (by decide) ?_
          refine jx_isub dX12_comesOut_48 ?_
          refine jx_puti dX12_comesOut_49 fp_X12_216 (kj_162 hE) sr_162_30 rfl rfl ?_
          obtain ⟨w6, hw6, hf⟩ := jl_inv hf
          refine jx_nw hw6 ?_
          refine jx_aload_n dX12_comesOut_52 rfl ?_
          refine jx_iload_n dX12_comesOut_53 rfl ?_
          refine jx_bipush (v := 8) dX12_comesOut_54 (by decide) ?_
          refine jx_icmp_ne (tgt := 63) dX12_comesOut_56 (by decide) (fun c7 => ?_) (fun c7 => ?_)
          · rw [if_neg c7] at hf
            refine jx_iload_n dX12_comesOut_63 rfl ?_
            refine jx_bipush (v := 9) dX12_comesOut_64 (by decide) ?_
            refine jx_icmp_ne (tgt := 73) dX12_comesOut_66 (by decide) (fun c8 => ?_) (fun c8 => ?_)
            · rw [if_neg c8] at hf
              refine jx_iload_n dX12_comesOut_73 rfl ?_
              refine jx_bipush (v := 10) dX12_comesOut_74 (by decide) ?_
              refine jx_icmp_ne (tgt := 83) dX12_comesOut_76 (by decide) (fun c9 => ?_) (fun c9 => ?_)
              · rw [if_neg c9] at hf
                refine jx_iload_n dX12_comesOut_83 rfl ?_
                refine jx_bipush (v := 15) dX12_comesOut_84 (by decide) ?_
                refine jx_icmp_ne (tgt := 93) dX12_comesOut_86 (by decide) (fun c10 => ?_) (fun c10 => ?_)
                · rw [if_neg c10] at hf
                  refine jx_bipush (v := 6) dX12_comesOut_93 (by decide) ?_
                  refine jx_iconst (v := 0) dX12_comesOut_95 (by decide) ?_
                  obtain ⟨q11, hq11, hf⟩ := jbd_inv hf
                  refine jx_cVv (a := 162) (As := [.int 6, .int 0]) (rest := []) dX12_comesOut_96 ml_X12_219 mv_X12_emit (s_X12_emit hE hq11) rfl rfl (jc_162 hE) (by decide) (Nat.le_of_ble_eq_true rfl) ?_
                  refine jx_goto (tgt := 0) dX12_comesOut_99 (by decide) ?_
                  refine jx_pick [0, 1] rfl ?_
                  exact ih _ _ _ hf
                · rw [if_pos c10] at hf
                  refine jx_iconst (v := 5) dX12_comesOut_89 (by decide) ?_
                  refine jx_goto (tgt := 95) dX12_comesOut_90 (by decide) ?_
                  refine jx_iconst (v := 0) dX12_comesOut_95 (by decide) ?_
                  obtain ⟨q12, hq12, hf⟩ := jbd_inv hf
                  refine jx_cVv (a := 162) (As := [.int 5, .int 0]) (rest := []) dX12_comesOut_96 ml_X12_219 mv_X12_emit (s_X12_emit hE hq12) rfl rfl (jc_162 hE) (by decide) (Nat.le_of_ble_eq_true rfl) ?_
                  refine jx_goto (tgt := 0) dX12_comesOut_99 (by decide) ?_
                  refine jx_pick [0, 1] rfl ?_
                  exact ih _ _ _ hf
              · rw [if_pos c9] at hf
                refine jx_iconst (v := 4) dX12_comesOut_79 (by decide) ?_
                refine jx_goto (tgt := 95) dX12_comesOut_80 (by decide) ?_
                refine jx_iconst (v := 0) dX12_comesOut_95 (by decide) ?_
                obtain ⟨q13, hq13, hf⟩ := jbd_inv hf
                refine jx_cVv (a := 162) (As := [.int 4, .int 0]) (rest := []) dX12_comesOut_96 ml_X12_219 mv_X12_emit (s_X12_emit hE hq13) rfl rfl (jc_162 hE) (by decide) (Nat.le_of_ble_eq_true rfl) ?_
                refine jx_goto (tgt := 0) dX12_comesOut_99 (by decide) ?_
                refine jx_pick [0, 1] rfl ?_
                exact ih _ _ _ hf
            · rw [if_pos c8] at hf
              refine jx_iconst (v := 3) dX12_comesOut_69 (by decide) ?_
              refine jx_goto (tgt := 95) dX12_comesOut_70 (by decide) ?_
              refine jx_iconst (v := 0) dX12_comesOut_95 (by decide) ?_
              obtain ⟨q14, hq14, hf⟩ := jbd_inv hf
              refine jx_cVv (a := 162) (As := [.int 3, .int 0]) (rest := []) dX12_comesOut_96 ml_X12_219 mv_X12_emit (s_X12_emit hE hq14) rfl rfl (jc_162 hE) (by decide) (Nat.le_of_ble_eq_true rfl) ?_
              refine jx_goto (tgt := 0) dX12_comesOut_99 (by decide) ?_
              refine jx_pick [0, 1] rfl ?_
              exact ih _ _ _ hf
          · rw [if_pos c7] at hf
            refine jx_iconst (v := 2) dX12_comesOut_59 (by decide) ?_
            refine jx_goto (tgt := 95) dX12_comesOut_60 (by decide) ?_
            refine jx_iconst (v := 0) dX12_comesOut_95 (by decide) ?_
            obtain ⟨q15, hq15, hf⟩ := jbd_inv hf
            refine jx_cVv (a := 162) (As := [.int 2, .int 0]) (rest := []) dX12_comesOut_96 ml_X12_219 mv_X12_emit (s_X12_emit hE hq15) rfl rfl (jc_162 hE) (by decide) (Nat.le_of_ble_eq_true rfl) ?_
            refine jx_goto (tgt := 0) dX12_comesOut_99 (by decide) ?_
            refine jx_pick [0, 1] rfl ?_
            exact ih _ _ _ hf
        · rw [if_neg c5] at hf
          refine jx_iload_n dX12_comesOut_29 rfl ?_
          refine jx_bipush (v := 8) dX12_comesOut_30 (by decide) ?_
          refine jx_icmp_eq (tgt := 41) dX12_comesOut_32 (by decide) (fun c16 => ?_) (fun c16 => ?_)
          · rw [if_pos c16] at hf
            cases hf
            exact jx_vret dX12_comesOut_41 rfl rfl
          · rw [if_neg c16] at hf
            refine jx_iload_n dX12_comesOut_35 rfl ?_
            refine jx_bipush (v := 9) dX12_comesOut_36 (by decide) ?_
            refine jx_icmp_ne (tgt := 42) dX12_comesOut_38 (by decide) (fun c17 => ?_) (fun c17 => ?_)
            · rw [if_neg c17] at hf
              refine jx_aload_n dX12_comesOut_42 rfl ?_
              refine jx_dup dX12_comesOut_43 rfl ?_
              refine jx_geti dX12_comesOut_44 fl_X12_216 (kj_162 hE) sr_162_30 ?_
              refine jx_iconst (v := 1) dX12_comesOut_47 (by decide) ?_
              refine jx_isub dX12_comesOut_48 ?_
              refine jx_puti dX12_comesOut_49 fp_X12_216 (kj_162 hE) sr_162_30 rfl rfl ?_
              obtain ⟨w18, hw18, hf⟩ := jl_inv hf
              refine jx_nw hw18 ?_
              refine jx_aload_n dX12_comesOut_52 rfl ?_
              refine jx_iload_n dX12_comesOut_53 rfl ?_
              refine jx_bipush (v := 8) dX12_comesOut_54 (by decide) ?_
              refine jx_icmp_ne (tgt := 63) dX12_comesOut_56 (by decide) (fun c19 => ?_) (fun c19 => ?_)
              · rw [if_neg c19] at hf
                refine jx_iload_n dX12_comesOut_63 rfl ?_
                refine jx_bipush (v := 9) dX12_comesOut_64 (by decide) ?_
                refine jx_icmp_ne (tgt := 73) dX12_comesOut_66 (by decide) (fun c20 => ?_) (fun c20 => ?_)
                · rw [if_neg c20] at hf
                  refine jx_iload_n dX12_comesOut_73 rfl ?_
                  refine jx_bipush (v := 10) dX12_comesOut_74 (by decide) ?_
                  refine jx_icmp_ne (tgt := 83) dX12_comesOut_76 (by decide) (fun c21 => ?_) (fun c21 => ?_)
                  · rw [if_neg c21] at hf
                    refine jx_iload_n dX12_comesOut_83 rfl ?_
                    refine jx_bipush (v := 15) dX12_comesOut_84 (by decide) ?_
                    refine jx_icmp_ne (tgt := 93) dX12_comesOut_86 (by decide) (fun c22 => ?_) (fun c22 => ?_)
                    · rw [if_neg c22] at hf
                      refine jx_bipush (v := 6) dX12_comesOut_93 (by decide) ?_
                      refine jx_iconst (v := 0) dX12_comesOut_95 (by decide) ?_
                      obtain ⟨q23, hq23, hf⟩ := jbd_inv hf
                      refine jx_cVv (a := 162) (As := [.int 6, .int 0]) (rest := []) dX12_comesOut_96 ml_X12_219 mv_X12_emit (s_X12_emit hE hq23) rfl rfl (jc_162 hE) (by decide) (Nat.le_of_ble_eq_true rfl) ?_
                      refine jx_goto (tgt := 0) dX12_comesOut_99 (by decide) ?_
                      refine jx_pick [0, 1] rfl ?_
                      exact ih _ _ _ hf
                    · rw [if_pos c22] at hf
                      refine jx_iconst (v := 5) dX12_comesOut_89 (by decide) ?_
                      refine jx_goto (tgt := 95) dX12_comesOut_90 (by decide) ?_
                      refine jx_iconst (v := 0) dX12_comesOut_95 (by decide) ?_
                      obtain ⟨q24, hq24, hf⟩ := jbd_inv hf
                      refine jx_cVv (a := 162) (As := [.int 5, .int 0]) (rest := []) dX12_comesOut_96 ml_X12_219 mv_X12_emit (s_X12_emit hE hq24) rfl rfl (jc_162 hE) (by decide) (Nat.le_of_ble_eq_true rfl) ?_
                      refine jx_goto (tgt := 0) dX12_comesOut_99 (by decide) ?_
                      refine jx_pick [0, 1] rfl ?_
                      exact ih _ _ _ hf
                  · rw [if_pos c21] at hf
                    refine jx_iconst (v := 4) dX12_comesOut_79 (by decide) ?_
                    refine jx_goto (tgt := 95) dX12_comesOut_80 (by decide) ?_
                    refine jx_iconst (v := 0) dX12_comesOut_95 (by decide) ?_
                    obtain ⟨q25, hq25, hf⟩ := jbd_inv hf
                    refine jx_cVv (a := 162) (As := [.int 4, .int 0]) (rest := []) dX12_comesOut_96 ml_X12_219 mv_X12_emit (s_X12_emit hE hq25) rfl rfl (jc_162 hE) (by decide) (Nat.le_of_ble_eq_true rfl) ?_
                    refine jx_goto (tgt := 0) dX12_comesOut_99 (by decide) ?_
                    refine jx_pick [0, 1] rfl ?_
                    exact ih _ _ _ hf
                · rw [if_pos c20] at hf
                  refine jx_iconst (v := 3) dX12_comesOut_69 (by decide) ?_
                  refine jx_goto (tgt := 95) dX12_comesOut_70 (by decide) ?_
                  refine jx_iconst (v := 0) dX12_comesOut_95 (by decide) ?_
                  obtain ⟨q26, hq26, hf⟩ := jbd_inv hf
                  refine jx_cVv (a := 162) (As := [.int 3, .int 0]) (rest := []) dX12_comesOut_96 ml_X12_219 mv_X12_emit (s_X12_emit hE hq26) rfl rfl (jc_162 hE) (by decide) (Nat.le_of_ble_eq_true rfl) ?_
                  refine jx_goto (tgt := 0) dX12_comesOut_99 (by decide) ?_
                  refine jx_pick [0, 1] rfl ?_
                  exact ih _ _ _ hf
              · rw [if_pos c19] at hf
                refine jx_iconst (v := 2) dX12_comesOut_59 (by decide) ?_
                refine jx_goto (tgt := 95) dX12_comesOut_60 (by decide) ?_
                refine jx_iconst (v := 0) dX12_comesOut_95 (by decide) ?_
                obtain ⟨q27, hq27, hf⟩ := jbd_inv hf
                refine jx_cVv (a := 162) (As := [.int 2, .int 0]) (rest := []) dX12_comesOut_96 ml_X12_219 mv_X12_emit (s_X12_emit hE hq27) rfl rfl (jc_162 hE) (by decide) (Nat.le_of_ble_eq_true rfl) ?_
                refine jx_goto (tgt := 0) dX12_comesOut_99 (by decide) ?_
                refine jx_pick [0, 1] rfl ?_
                exact ih _ _ _ hf
            · rw [if_pos c17] at hf
              cases hf
              exact jx_vret dX12_comesOut_41 rfl rfl
def f_X12_comesOut (a1 : Int32) (w : jw) : Option (jw) := (l_X12_comesOut jfu a1 w)
set_option maxRecDepth 20000 in
set_option maxHeartbeats 2000000 in
theorem s_X12_comesOut {E : jE} (hE : jfull E) {a1 : Int32} {w w' : jw} (hf : f_X12_comesOut a1 w = some w') : jC E m_X12_comesOut 1 [.ref (E.2.2.2 + 162), .int a1] w none w' := by
  refine jC_of (ls := [(0, .ref (E.2.2.2 + 162)), (1, .int a1)]) (by decide) rfl (fun _ => trivial) (Nat.le_of_ble_eq_true rfl) rfl rfl ?_
  unfold f_X12_comesOut at hf
  exact sl_X12_comesOut hE jfu _ _ _ hf
def f_X12_unit  (w : jw) : Option (jw) := jbd2 (f_X12_is 2 w) fun x2 w3 => (if (jb x2) = 0 then (if (w3.1 162 13) = 0 then jg (jin (w3.1 162 11) 403) ((if (w3.2.1 165 (Int32.toNatClampNeg (w3.1 162 11))) < 25 then jbd (f_X12_fail 1 w3) fun q9 => some q9 else jg (jin (w3.1 162 11) 403) ((if 30 < (w3.2.1 165 (Int32.toNatClampNeg (w3.1 162 11))) then jbd (f_X12_fail 1 w3) fun q12 => some q12 else jg (jin (w3.1 162 11) 403) (jbd (f_X12_emit 1 ((w3.2.1 165 (Int32.toNatClampNeg (w3.1 162 11))) - 25) w3) fun q14 => jbd (f_X12_goesOn  q14) fun q15 => some q15))))) else jbd (f_X12_fail 1 w3) fun q6 => some q6) else jg (jin (w3.1 162 11) 403) (jbd (f_X12_emit 0 (w3.2.1 167 (Int32.toNatClampNeg (w3.1 162 11))) w3) fun q17 => jbd (f_X12_goesOn  q17) fun q18 => some q18))
set_option maxRecDepth 20000 in
set_option maxHeartbeats 2000000 in
theorem s_X12_unit {E : jE} (hE : jfull E)  {w w' : jw} (hf : f_X12_unit  w = some w') : jC E m_X12_unit 2 [.ref (E.2.2.2 + 162)] w none w' := by
  refine jC_of (ls := [(0, .ref (E.2.2.2 + 162))]) (by decide) rfl (fun _ => trivial) (Nat.le_of_ble_eq_true rfl) rfl rfl ?_
  unfold f_X12_unit at hf
  refine jx_aload_n dX12_unit_0 rfl ?_
  refine jx_iconst (v := 2) dX12_unit_1 (by decide) ?_
  obtain ⟨x2, w3, hq1, hf⟩ := jbd2_inv hf
  refine jx_cVi (a := 162) (As := [.int 2]) (rest := []) dX12_unit_2 ml_X12_175 mv_X12_is (s_X12_is hE hq1) rfl rfl (jc_162 hE) (by decide) (Nat.le_of_ble_eq_true rfl) ?_
  refine jx_if_eq (tgt := 29) dX12_unit_5 (by decide) (fun c4 => ?_) (fun c4 => ?_)
  · rw [if_pos c4] at hf
    refine jx_aload_n dX12_unit_29 rfl ?_
    refine jx_geti dX12_unit_30 fl_X12_157 (kj_162 hE) sr_162_13 ?_
    refine jx_if_ne (tgt := 88) dX12_unit_33 (by decide) (fun c5 => ?_) (fun c5 => ?_)
    · rw [if_neg c5] at hf
      refine jx_aload_n dX12_unit_88 rfl ?_
      refine jx_iconst (v := 1) dX12_unit_89 (by decide) ?_
      obtain ⟨q6, hq6, hf⟩ := jbd_inv hf
      refine jx_cVv (a := 162) (As := [.int 1]) (rest := []) dX12_unit_90 ml_X12_172 mv_X12_fail (s_X12_fail hE hq6) rfl rfl (jc_162 hE) (by decide) (Nat.le_of_ble_eq_true rfl) ?_
      cases hf
      exact jx_vret dX12_unit_93 rfl rfl
    · rw [if_pos c5] at hf
      refine jx_aload_n dX12_unit_36 rfl ?_
      refine jx_getr dX12_unit_37 fl_X12_20 (kj_162 hE) sr_162_5 ?_
      refine jx_aload_n dX12_unit_40 rfl ?_
      refine jx_geti dX12_unit_41 fl_X12_160 (kj_162 hE) sr_162_11 ?_
      obtain ⟨c7, hf⟩ := jg_inv hf
      refine jx_iald dX12_unit_44 (kj_165 hE) (jin_vp c7) ?_
      refine jx_bipush (v := 25) dX12_unit_45 (by decide) ?_
      refine jx_icmp_lt (tgt := 88) dX12_unit_47 (by decide) (fun c8 => ?_) (fun c8 => ?_)
      · rw [if_pos c8] at hf
        refine jx_aload_n dX12_unit_88 rfl ?_
        refine jx_iconst (v := 1) dX12_unit_89 (by decide) ?_
        obtain ⟨q9, hq9, hf⟩ := jbd_inv hf
        refine jx_cVv (a := 162) (As := [.int 1]) (rest := []) dX12_unit_90 ml_X12_172 mv_X12_fail (s_X12_fail hE hq9) rfl rfl (jc_162 hE) (by decide) (Nat.le_of_ble_eq_true rfl) ?_
        cases hf
        exact jx_vret dX12_unit_93 rfl rfl
      · rw [if_neg c8] at hf
        refine jx_aload_n dX12_unit_50 rfl ?_
        refine jx_getr dX12_unit_51 fl_X12_20 (kj_162 hE) sr_162_5 ?_
        refine jx_aload_n dX12_unit_54 rfl ?_
        refine jx_geti dX12_unit_55 fl_X12_160 (kj_162 hE) sr_162_11 ?_
        obtain ⟨c10, hf⟩ := jg_inv hf
        refine jx_iald dX12_unit_58 (kj_165 hE) (jin_vp c10) ?_
        refine jx_bipush (v := 30) dX12_unit_59 (by decide) ?_
        refine jx_icmp_gt (tgt := 88) dX12_unit_61 (by decide) (fun c11 => ?_) (fun c11 => ?_)
        · rw [if_pos c11] at hf
          refine jx_aload_n dX12_unit_88 rfl ?_
          refine jx_iconst (v := 1) dX12_unit_89 (by decide) ?_
          obtain ⟨q12, hq12, hf⟩ := jbd_inv hf
          refine jx_cVv (a := 162) (As := [.int 1]) (rest := []) dX12_unit_90 ml_X12_172 mv_X12_fail (s_X12_fail hE hq12) rfl rfl (jc_162 hE) (by decide) (Nat.le_of_ble_eq_true rfl) ?_
          cases hf
          exact jx_vret dX12_unit_93 rfl rfl
        · rw [if_neg c11] at hf
          refine jx_aload_n dX12_unit_64 rfl ?_
          refine jx_iconst (v := 1) dX12_unit_65 (by decide) ?_
          refine jx_aload_n dX12_unit_66 rfl ?_
          refine jx_getr dX12_unit_67 fl_X12_20 (kj_162 hE) sr_162_5 ?_
          refine jx_aload_n dX12_unit_70 rfl ?_
          refine jx_geti dX12_unit_71 fl_X12_160 (kj_162 hE) sr_162_11 ?_
          obtain ⟨c13, hf⟩ := jg_inv hf
          refine jx_iald dX12_unit_74 (kj_165 hE) (jin_vp c13) ?_
          refine jx_bipush (v := 25) dX12_unit_75 (by decide) ?_
          refine jx_isub dX12_unit_77 ?_
          obtain ⟨q14, hq14, hf⟩ := jbd_inv hf
          refine jx_cVv (a := 162) (As := [.int 1, .int ((w3.2.1 165 (Int32.toNatClampNeg (w3.1 162 11))) - 25)]) (rest := []) dX12_unit_78 ml_X12_219 mv_X12_emit (s_X12_emit hE hq14) rfl rfl (jc_162 hE) (by decide) (Nat.le_of_ble_eq_true rfl) ?_
          refine jx_aload_n dX12_unit_81 rfl ?_
          obtain ⟨q15, hq15, hf⟩ := jbd_inv hf
          refine jx_cVv (a := 162) (As := []) (rest := []) dX12_unit_82 ml_X12_178 mv_X12_goesOn (s_X12_goesOn hE hq15) rfl rfl (jc_162 hE) (by decide) (Nat.le_of_ble_eq_true rfl) ?_
          refine jx_goto (tgt := 93) dX12_unit_85 (by decide) ?_
          cases hf
          exact jx_vret dX12_unit_93 rfl rfl
  · rw [if_neg c4] at hf
    refine jx_aload_n dX12_unit_8 rfl ?_
    refine jx_iconst (v := 0) dX12_unit_9 (by decide) ?_
    refine jx_aload_n dX12_unit_10 rfl ?_
    refine jx_getr dX12_unit_11 fl_X12_27 (kj_162 hE) sr_162_7 ?_
    refine jx_aload_n dX12_unit_14 rfl ?_
    refine jx_geti dX12_unit_15 fl_X12_160 (kj_162 hE) sr_162_11 ?_
    obtain ⟨c16, hf⟩ := jg_inv hf
    refine jx_iald dX12_unit_18 (kj_167 hE) (jin_vp c16) ?_
    obtain ⟨q17, hq17, hf⟩ := jbd_inv hf
    refine jx_cVv (a := 162) (As := [.int 0, .int (w3.2.1 167 (Int32.toNatClampNeg (w3.1 162 11)))]) (rest := []) dX12_unit_19 ml_X12_219 mv_X12_emit (s_X12_emit hE hq17) rfl rfl (jc_162 hE) (by decide) (Nat.le_of_ble_eq_true rfl) ?_
    refine jx_aload_n dX12_unit_22 rfl ?_
    obtain ⟨q18, hq18, hf⟩ := jbd_inv hf
    refine jx_cVv (a := 162) (As := []) (rest := []) dX12_unit_23 ml_X12_178 mv_X12_goesOn (s_X12_goesOn hE hq18) rfl rfl (jc_162 hE) (by decide) (Nat.le_of_ble_eq_true rfl) ?_
    refine jx_goto (tgt := 93) dX12_unit_26 (by decide) ?_
    cases hf
    exact jx_vret dX12_unit_93 rfl rfl
def l_X12_expression : Nat → Nat → Int32 → Int32 → jw → Option (jw)
  | 0, _, _, _, _ => none
  | n + 1, t, b1, b2, w => (if t = 0 then (if b2 = 0 then some w else (if (w.1 162 13) = 0 then (l_X12_expression n 1 b1 b2 w) else some w)) else (if t = 1 then jbd2 (f_X12_is 6 w) fun x4 w5 => (if (jb x4) = 0 then jbd (f_X12_unit  w5) fun q7 => (if (q7.1 162 13) ≤ 0 then (l_X12_expression n 2 b1 b2 q7) else some q7) else jbd (if (w5.1 162 12) = 6 then jbd (f_X12_fail 2 w5) fun q17 => some q17 else some w5) fun w10 => jl (jsetI w10 162 12 ((w10.1 162 12) + 1)) fun w12 => jbd (f_X12_goesOn  w12) fun q13 => jg (jin (q13.1 162 30) 64) (jl (jsetX q13 178 (Int32.toNatClampNeg (q13.1 162 30)) 6) fun w15 => jl (jsetI w15 162 30 ((w15.1 162 30) + 1)) fun w16 => (l_X12_expression n 1 b1 b2 w16))) else jbd2 (f_X12_is 7 w) fun x19 w20 => (if (jb x19) = 0 then jbd2 (f_X12_is 8 w20) fun x23 w24 => jbd2 (if (jb x23) = 0 then jbd2 (f_X12_is 9 w24) fun x57 w58 => (if (jb x57) = 0 then jbd2 (f_X12_is 10 w58) fun x61 w62 => (if (jb x61) = 0 then jbd2 (f_X12_is 15 w62) fun x65 w66 => (if (jb x65) = 0 then jbd2 (f_X12_is 16 w66) fun x69 w70 => (if (jb x69) = 0 then some ((0 : Int32), w70) else some ((1 : Int32), w70)) else some ((1 : Int32), w66)) else some ((1 : Int32), w62)) else some ((1 : Int32), w58)) else some ((1 : Int32), w24)) fun x26 w27 => (if x26 = 0 then jbd (if (w27.1 162 12) ≤ b1 then some w27 else jbd (f_X12_fail 1 w27) fun q55 => some q55) fun w52 => jbd (f_X12_comesOut 0 w52) fun q54 => some q54 else jbd2 (f_X12_is 10 w27) fun x31 w32 => jbd2 (if (jb x31) = 0 then jbd2 (f_X12_is 15 w32) fun x44 w45 => (if (jb x44) = 0 then jbd2 (f_X12_is 16 w45) fun x48 w49 => (if (jb x48) = 0 then some ((0 : Int32), w49) else some ((1 : Int32), w49)) else some ((1 : Int32), w45)) else some ((1 : Int32), w32)) fun x34 w35 => jbd (f_X12_comesOut x34 w35) fun q37 => jg (jin (q37.1 162 11) 403) (jg (jin (q37.1 162 30) 64) (jl (jsetX q37 178 (Int32.toNatClampNeg (q37.1 162 30)) (q37.2.1 165 (Int32.toNatClampNeg (q37.1 162 11)))) fun w40 => jl (jsetI w40 162 30 ((w40.1 162 30) + 1)) fun w41 => jbd (f_X12_goesOn  w41) fun q42 => (l_X12_expression n 0 b1 x26 q42)))) else (if (w20.1 162 12) ≤ b1 then jbd2 (f_X12_is 8 w20) fun x74 w75 => jbd2 (if (jb x74) = 0 then jbd2 (f_X12_is 9 w75) fun x108 w109 => (if (jb x108) = 0 then jbd2 (f_X12_is 10 w109) fun x112 w113 => (if (jb x112) = 0 then jbd2 (f_X12_is 15 w113) fun x116 w117 => (if (jb x116) = 0 then jbd2 (f_X12_is 16 w117) fun x120 w121 => (if (jb x120) = 0 then some ((0 : Int32), w121) else some ((1 : Int32), w121)) else some ((1 : Int32), w117)) else some ((1 : Int32), w113)) else some ((1 : Int32), w109)) else some ((1 : Int32), w75)) fun x77 w78 => (if x77 = 0 then jbd (if (w78.1 162 12) ≤ b1 then some w78 else jbd (f_X12_fail 1 w78) fun q106 => some q106) fun w103 => jbd (f_X12_comesOut 0 w103) fun q105 => some q105 else jbd2 (f_X12_is 10 w78) fun x82 w83 => jbd2 (if (jb x82) = 0 then jbd2 (f_X12_is 15 w83) fun x95 w96 => (if (jb x95) = 0 then jbd2 (f_X12_is 16 w96) fun x99 w100 => (if (jb x99) = 0 then some ((0 : Int32), w100) else some ((1 : Int32), w100)) else some ((1 : Int32), w96)) else some ((1 : Int32), w83)) fun x85 w86 => jbd (f_X12_comesOut x85 w86) fun q88 => jg (jin (q88.1 162 11) 403) (jg (jin (q88.1 162 30) 64) (jl (jsetX q88 178 (Int32.toNatClampNeg (q88.1 162 30)) (q88.2.1 165 (Int32.toNatClampNeg (q88.1 162 11)))) fun w91 => jl (jsetI w91 162 30 ((w91.1 162 30) + 1)) fun w92 => jbd (f_X12_goesOn  w92) fun q93 => (l_X12_expression n 0 b1 x77 q93)))) else jbd (f_X12_comesOut 0 w20) fun q123 => jl (jsetI q123 162 30 ((q123.1 162 30) - 1)) fun w124 => jl (jsetI w124 162 12 ((w124.1 162 12) - 1)) fun w125 => jbd (f_X12_goesOn  w125) fun q126 => (l_X12_expression n 2 b1 b2 q126)))))
set_option maxRecDepth 20000 in
set_option maxHeartbeats 2000000 in
theorem sl_X12_expression {E : jE} (hE : jfull E) : ∀ (n : Nat), (∀ (b1 : Int32) (b2 : Int32) (w : jw) (w' : jw), l_X12_expression n 0 b1 b2 w = some w' → jX E m_X12_expression 3 12 [(0, .ref (E.2.2.2 + 162)), (1, .int b1), (2, .int b2)] [] w none w') ∧ (∀ (b1 : Int32) (b2 : Int32) (w : jw) (w' : jw), l_X12_expression n 1 b1 b2 w = some w' → jX E m_X12_expression 3 23 [(0, .ref (E.2.2.2 + 162)), (1, .int b1), (2, .int b2)] [] w none w') ∧ (∀ (b1 : Int32) (b2 : Int32) (w : jw) (w' : jw), l_X12_expression n 2 b1 b2 w = some w' → jX E m_X12_expression 3 96 [(0, .ref (E.2.2.2 + 162)), (1, .int b1), (2, .int b2)] [] w none w') := by
  intro n
  induction n with
  | zero => refine ⟨?_, ?_, ?_⟩ <;> (intros; rename_i hf; cases hf)
  | succ n ih =>
    refine ⟨?_, ?_, ?_⟩
    · intro b1 b2 w w' hf
      unfold l_X12_expression at hf
      rw [if_pos (by decide)] at hf
      refine jx_iload_n dX12_expression_12 rfl ?_
      refine jx_if_eq (tgt := 290) dX12_expression_13 (by decide) (fun c1 => ?_) (fun c1 => ?_)
      · rw [if_pos c1] at hf
        cases hf
        exact jx_vret dX12_expression_290 rfl rfl
      · rw [if_neg c1] at hf
        refine jx_aload_n dX12_expression_16 rfl ?_
        refine jx_geti dX12_expression_17 fl_X12_157 (kj_162 hE) sr_162_13 ?_
        refine jx_if_ne (tgt := 290) dX12_expression_20 (by decide) (fun c2 => ?_) (fun c2 => ?_)
        · rw [if_neg c2] at hf
          cases hf
          exact jx_vret dX12_expression_290 rfl rfl
        · rw [if_pos c2] at hf
          exact ih.2.1 _ _ _ _ hf
    · intro b1 b2 w w' hf
      unfold l_X12_expression at hf
      rw [if_neg (by decide)] at hf
      rw [if_pos (by decide)] at hf
      refine jx_aload_n dX12_expression_23 rfl ?_
      refine jx_bipush (v := 6) dX12_expression_24 (by decide) ?_
      obtain ⟨x4, w5, hq3, hf⟩ := jbd2_inv hf
      refine jx_cVi (a := 162) (As := [.int 6]) (rest := []) dX12_expression_26 ml_X12_175 mv_X12_is (s_X12_is hE hq3) rfl rfl (jc_162 hE) (by decide) (Nat.le_of_ble_eq_true rfl) ?_
      refine jx_if_eq (tgt := 84) dX12_expression_29 (by decide) (fun c6 => ?_) (fun c6 => ?_)
      · rw [if_pos c6] at hf
        refine jx_aload_n dX12_expression_84 rfl ?_
        obtain ⟨q7, hq7, hf⟩ := jbd_inv hf
        refine jx_cVv (a := 162) (As := []) (rest := []) dX12_expression_85 ml_X12_222 mv_X12_unit (s_X12_unit hE hq7) rfl rfl (jc_162 hE) (by decide) (Nat.le_of_ble_eq_true rfl) ?_
        refine jx_aload_n dX12_expression_88 rfl ?_
        refine jx_geti dX12_expression_89 fl_X12_157 (kj_162 hE) sr_162_13 ?_
        refine jx_if_le (tgt := 96) dX12_expression_92 (by decide) (fun c8 => ?_) (fun c8 => ?_)
        · rw [if_pos c8] at hf
          exact ih.2.2 _ _ _ _ hf
        · rw [if_neg c8] at hf
          cases hf
          exact jx_vret dX12_expression_95 rfl rfl
      · rw [if_neg c6] at hf
        refine jx_aload_n dX12_expression_32 rfl ?_
        refine jx_geti dX12_expression_33 fl_X12_184 (kj_162 hE) sr_162_12 ?_
        refine jx_bipush (v := 6) dX12_expression_36 (by decide) ?_
        obtain ⟨w10, hqhJ11, hf⟩ := jbd_inv hf
        have hJ11 : jX E m_X12_expression 3 46 [(0, .ref (E.2.2.2 + 162)), (1, .int b1), (2, .int b2)] [] w10 none w' := by
          refine jx_aload_n dX12_expression_46 rfl ?_
          refine jx_dup dX12_expression_47 rfl ?_
          refine jx_geti dX12_expression_48 fl_X12_184 (kj_162 hE) sr_162_12 ?_
          refine jx_iconst (v := 1) dX12_expression_51 (by decide) ?_
          refine jx_iadd dX12_expression_52 ?_
          refine jx_puti dX12_expression_53 fp_X12_184 (kj_162 hE) sr_162_12 rfl rfl ?_
          obtain ⟨w12, hw12, hf⟩ := jl_inv hf
          refine jx_nw hw12 ?_
          refine jx_aload_n dX12_expression_56 rfl ?_
          obtain ⟨q13, hq13, hf⟩ := jbd_inv hf
          refine jx_cVv (a := 162) (As := []) (rest := []) dX12_expression_57 ml_X12_178 mv_X12_goesOn (s_X12_goesOn hE hq13) rfl rfl (jc_162 hE) (by decide) (Nat.le_of_ble_eq_true rfl) ?_
          refine jx_aload_n dX12_expression_60 rfl ?_
          refine jx_getr dX12_expression_61 fl_X12_64 (kj_162 hE) sr_162_29 ?_
          refine jx_aload_n dX12_expression_64 rfl ?_
          refine jx_geti dX12_expression_65 fl_X12_216 (kj_162 hE) sr_162_30 ?_
          refine jx_bipush (v := 6) dX12_expression_68 (by decide) ?_
          obtain ⟨c14, hf⟩ := jg_inv hf
          refine jx_iast dX12_expression_70 (kj_178 hE) (jin_vp c14) ?_
          obtain ⟨w15, hw15, hf⟩ := jl_inv hf
          refine jx_nw hw15 ?_
          refine jx_aload_n dX12_expression_71 rfl ?_
          refine jx_dup dX12_expression_72 rfl ?_
          refine jx_geti dX12_expression_73 fl_X12_216 (kj_162 hE) sr_162_30 ?_
          refine jx_iconst (v := 1) dX12_expression_76 (by decide) ?_
          refine jx_iadd dX12_expression_77 ?_
          refine jx_puti dX12_expression_78 fp_X12_216 (kj_162 hE) sr_162_30 rfl rfl ?_
          obtain ⟨w16, hw16, hf⟩ := jl_inv hf
          refine jx_nw hw16 ?_
          refine jx_goto (tgt := 23) dX12_expression_81 (by decide) ?_
          exact ih.2.1 _ _ _ _ hf
        clear hf
        have hf := hqhJ11
        clear hqhJ11
        refine jx_icmp_ne (tgt := 46) dX12_expression_38 (by decide) (fun c9 => ?_) (fun c9 => ?_)
        · rw [if_neg c9] at hf
          cases hf
          exact hJ11
        · rw [if_pos c9] at hf
          refine jx_aload_n dX12_expression_41 rfl ?_
          refine jx_iconst (v := 2) dX12_expression_42 (by decide) ?_
          obtain ⟨q17, hq17, hf⟩ := jbd_inv hf
          refine jx_cVv (a := 162) (As := [.int 2]) (rest := []) dX12_expression_43 ml_X12_172 mv_X12_fail (s_X12_fail hE hq17) rfl rfl (jc_162 hE) (by decide) (Nat.le_of_ble_eq_true rfl) ?_
          cases hf
          exact hJ11
    · intro b1 b2 w w' hf
      unfold l_X12_expression at hf
      rw [if_neg (by decide)] at hf
      rw [if_neg (by decide)] at hf
      refine jx_aload_n dX12_expression_96 rfl ?_
      refine jx_bipush (v := 7) dX12_expression_97 (by decide) ?_
      obtain ⟨x19, w20, hq18, hf⟩ := jbd2_inv hf
      refine jx_cVi (a := 162) (As := [.int 7]) (rest := []) dX12_expression_99 ml_X12_175 mv_X12_is (s_X12_is hE hq18) rfl rfl (jc_162 hE) (by decide) (Nat.le_of_ble_eq_true rfl) ?_
      refine jx_if_eq (tgt := 145) dX12_expression_102 (by decide) (fun c21 => ?_) (fun c21 => ?_)
      · rw [if_pos c21] at hf
        refine jx_aload_n dX12_expression_145 rfl ?_
        refine jx_bipush (v := 8) dX12_expression_146 (by decide) ?_
        obtain ⟨x23, w24, hq22, hf⟩ := jbd2_inv hf
        refine jx_cVi (a := 162) (As := [.int 8]) (rest := []) dX12_expression_148 ml_X12_175 mv_X12_is (s_X12_is hE hq22) rfl rfl (jc_162 hE) (by decide) (Nat.le_of_ble_eq_true rfl) ?_
        obtain ⟨x26, w27, hqhJ28, hf⟩ := jbd2_inv hf
        have hJ28 : jX E m_X12_expression 3 195 [(0, .ref (E.2.2.2 + 162)), (1, .int b1), (2, .int b2)] [.int x26] w27 none w' := by
          refine jx_istore_n (ls' := [(0, .ref (E.2.2.2 + 162)), (1, .int b1), (2, .int x26)]) dX12_expression_195 (by decide) rfl ?_
          refine jx_iload_n dX12_expression_196 rfl ?_
          refine jx_if_ne (tgt := 219) dX12_expression_197 (by decide) (fun c29 => ?_) (fun c29 => ?_)
          · rw [if_neg c29] at hf
            refine jx_aload_n dX12_expression_219 rfl ?_
            refine jx_aload_n dX12_expression_220 rfl ?_
            refine jx_bipush (v := 10) dX12_expression_221 (by decide) ?_
            obtain ⟨x31, w32, hq30, hf⟩ := jbd2_inv hf
            refine jx_cVi (a := 162) (As := [.int 10]) (rest := [.ref (E.2.2.2 + 162)]) dX12_expression_223 ml_X12_175 mv_X12_is (s_X12_is hE hq30) rfl rfl (jc_162 hE) (by decide) (Nat.le_of_ble_eq_true rfl) ?_
            obtain ⟨x34, w35, hqhJ36, hf⟩ := jbd2_inv hf
            have hJ36 : jX E m_X12_expression 3 252 [(0, .ref (E.2.2.2 + 162)), (1, .int b1), (2, .int x26)] [.int x34, .ref (E.2.2.2 + 162)] w35 none w' := by
              obtain ⟨q37, hq37, hf⟩ := jbd_inv hf
              refine jx_cVv (a := 162) (As := [.int x34]) (rest := []) dX12_expression_252 ml_X12_225 mv_X12_comesOut (s_X12_comesOut hE hq37) rfl rfl (jc_162 hE) (by decide) (Nat.le_of_ble_eq_true rfl) ?_
              refine jx_aload_n dX12_expression_255 rfl ?_
              refine jx_getr dX12_expression_256 fl_X12_64 (kj_162 hE) sr_162_29 ?_
              refine jx_aload_n dX12_expression_259 rfl ?_
              refine jx_geti dX12_expression_260 fl_X12_216 (kj_162 hE) sr_162_30 ?_
              refine jx_aload_n dX12_expression_263 rfl ?_
              refine jx_getr dX12_expression_264 fl_X12_20 (kj_162 hE) sr_162_5 ?_
              refine jx_aload_n dX12_expression_267 rfl ?_
              refine jx_geti dX12_expression_268 fl_X12_160 (kj_162 hE) sr_162_11 ?_
              obtain ⟨c38, hf⟩ := jg_inv hf
              refine jx_iald dX12_expression_271 (kj_165 hE) (jin_vp c38) ?_
              obtain ⟨c39, hf⟩ := jg_inv hf
              refine jx_iast dX12_expression_272 (kj_178 hE) (jin_vp c39) ?_
              obtain ⟨w40, hw40, hf⟩ := jl_inv hf
              refine jx_nw hw40 ?_
              refine jx_aload_n dX12_expression_273 rfl ?_
              refine jx_dup dX12_expression_274 rfl ?_
              refine jx_geti dX12_expression_275 fl_X12_216 (kj_162 hE) sr_162_30 ?_
              refine jx_iconst (v := 1) dX12_expression_278 (by decide) ?_
              refine jx_iadd dX12_expression_279 ?_
              refine jx_puti dX12_expression_280 fp_X12_216 (kj_162 hE) sr_162_30 rfl rfl ?_
              obtain ⟨w41, hw41, hf⟩ := jl_inv hf
              refine jx_nw hw41 ?_
              refine jx_aload_n dX12_expression_283 rfl ?_
              obtain ⟨q42, hq42, hf⟩ := jbd_inv hf
              refine jx_cVv (a := 162) (As := []) (rest := []) dX12_expression_284 ml_X12_178 mv_X12_goesOn (s_X12_goesOn hE hq42) rfl rfl (jc_162 hE) (by decide) (Nat.le_of_ble_eq_true rfl) ?_
              refine jx_goto (tgt := 12) dX12_expression_287 (by decide) ?_
              exact ih.1 _ _ _ _ hf
            clear hf
            have hf := hqhJ36
            clear hqhJ36
            refine jx_if_ne (tgt := 247) dX12_expression_226 (by decide) (fun c33 => ?_) (fun c33 => ?_)
            · rw [if_neg c33] at hf
              refine jx_iconst (v := 1) dX12_expression_247 (by decide) ?_
              refine jx_goto (tgt := 252) dX12_expression_248 (by decide) ?_
              cases hf
              exact hJ36
            · rw [if_pos c33] at hf
              refine jx_aload_n dX12_expression_229 rfl ?_
              refine jx_bipush (v := 15) dX12_expression_230 (by decide) ?_
              obtain ⟨x44, w45, hq43, hf⟩ := jbd2_inv hf
              refine jx_cVi (a := 162) (As := [.int 15]) (rest := [.ref (E.2.2.2 + 162)]) dX12_expression_232 ml_X12_175 mv_X12_is (s_X12_is hE hq43) rfl rfl (jc_162 hE) (by decide) (Nat.le_of_ble_eq_true rfl) ?_
              refine jx_if_ne (tgt := 247) dX12_expression_235 (by decide) (fun c46 => ?_) (fun c46 => ?_)
              · rw [if_neg c46] at hf
                refine jx_iconst (v := 1) dX12_expression_247 (by decide) ?_
                refine jx_goto (tgt := 252) dX12_expression_248 (by decide) ?_
                cases hf
                exact hJ36
              · rw [if_pos c46] at hf
                refine jx_aload_n dX12_expression_238 rfl ?_
                refine jx_bipush (v := 16) dX12_expression_239 (by decide) ?_
                obtain ⟨x48, w49, hq47, hf⟩ := jbd2_inv hf
                refine jx_cVi (a := 162) (As := [.int 16]) (rest := [.ref (E.2.2.2 + 162)]) dX12_expression_241 ml_X12_175 mv_X12_is (s_X12_is hE hq47) rfl rfl (jc_162 hE) (by decide) (Nat.le_of_ble_eq_true rfl) ?_
                refine jx_if_eq (tgt := 251) dX12_expression_244 (by decide) (fun c50 => ?_) (fun c50 => ?_)
                · rw [if_pos c50] at hf
                  refine jx_iconst (v := 0) dX12_expression_251 (by decide) ?_
                  cases hf
                  exact hJ36
                · rw [if_neg c50] at hf
                  refine jx_iconst (v := 1) dX12_expression_247 (by decide) ?_
                  refine jx_goto (tgt := 252) dX12_expression_248 (by decide) ?_
                  cases hf
                  exact hJ36
          · rw [if_pos c29] at hf
            refine jx_aload_n dX12_expression_200 rfl ?_
            refine jx_geti dX12_expression_201 fl_X12_184 (kj_162 hE) sr_162_12 ?_
            refine jx_iload_n dX12_expression_204 rfl ?_
            obtain ⟨w52, hqhJ53, hf⟩ := jbd_inv hf
            have hJ53 : jX E m_X12_expression 3 213 [(0, .ref (E.2.2.2 + 162)), (1, .int b1), (2, .int x26)] [] w52 none w' := by
              refine jx_aload_n dX12_expression_213 rfl ?_
              refine jx_iconst (v := 0) dX12_expression_214 (by decide) ?_
              obtain ⟨q54, hq54, hf⟩ := jbd_inv hf
              refine jx_cVv (a := 162) (As := [.int 0]) (rest := []) dX12_expression_215 ml_X12_225 mv_X12_comesOut (s_X12_comesOut hE hq54) rfl rfl (jc_162 hE) (by decide) (Nat.le_of_ble_eq_true rfl) ?_
              cases hf
              exact jx_vret dX12_expression_218 rfl rfl
            clear hf
            have hf := hqhJ53
            clear hqhJ53
            refine jx_icmp_le (tgt := 213) dX12_expression_205 (by decide) (fun c51 => ?_) (fun c51 => ?_)
            · rw [if_pos c51] at hf
              cases hf
              exact hJ53
            · rw [if_neg c51] at hf
              refine jx_aload_n dX12_expression_208 rfl ?_
              refine jx_iconst (v := 1) dX12_expression_209 (by decide) ?_
              obtain ⟨q55, hq55, hf⟩ := jbd_inv hf
              refine jx_cVv (a := 162) (As := [.int 1]) (rest := []) dX12_expression_210 ml_X12_172 mv_X12_fail (s_X12_fail hE hq55) rfl rfl (jc_162 hE) (by decide) (Nat.le_of_ble_eq_true rfl) ?_
              cases hf
              exact hJ53
        clear hf
        have hf := hqhJ28
        clear hqhJ28
        refine jx_if_ne (tgt := 190) dX12_expression_151 (by decide) (fun c25 => ?_) (fun c25 => ?_)
        · rw [if_neg c25] at hf
          refine jx_iconst (v := 1) dX12_expression_190 (by decide) ?_
          refine jx_goto (tgt := 195) dX12_expression_191 (by decide) ?_
          cases hf
          exact hJ28
        · rw [if_pos c25] at hf
          refine jx_aload_n dX12_expression_154 rfl ?_
          refine jx_bipush (v := 9) dX12_expression_155 (by decide) ?_
          obtain ⟨x57, w58, hq56, hf⟩ := jbd2_inv hf
          refine jx_cVi (a := 162) (As := [.int 9]) (rest := []) dX12_expression_157 ml_X12_175 mv_X12_is (s_X12_is hE hq56) rfl rfl (jc_162 hE) (by decide) (Nat.le_of_ble_eq_true rfl) ?_
          refine jx_if_ne (tgt := 190) dX12_expression_160 (by decide) (fun c59 => ?_) (fun c59 => ?_)
          · rw [if_neg c59] at hf
            refine jx_iconst (v := 1) dX12_expression_190 (by decide) ?_
            refine jx_goto (tgt := 195) dX12_expression_191 (by decide) ?_
            cases hf
            exact hJ28
          · rw [if_pos c59] at hf
            refine jx_aload_n dX12_expression_163 rfl ?_
            refine jx_bipush (v := 10) dX12_expression_164 (by decide) ?_
            obtain ⟨x61, w62, hq60, hf⟩ := jbd2_inv hf
            refine jx_cVi (a := 162) (As := [.int 10]) (rest := []) dX12_expression_166 ml_X12_175 mv_X12_is (s_X12_is hE hq60) rfl rfl (jc_162 hE) (by decide) (Nat.le_of_ble_eq_true rfl) ?_
            refine jx_if_ne (tgt := 190) dX12_expression_169 (by decide) (fun c63 => ?_) (fun c63 => ?_)
            · rw [if_neg c63] at hf
              refine jx_iconst (v := 1) dX12_expression_190 (by decide) ?_
              refine jx_goto (tgt := 195) dX12_expression_191 (by decide) ?_
              cases hf
              exact hJ28
            · rw [if_pos c63] at hf
              refine jx_aload_n dX12_expression_172 rfl ?_
              refine jx_bipush (v := 15) dX12_expression_173 (by decide) ?_
              obtain ⟨x65, w66, hq64, hf⟩ := jbd2_inv hf
              refine jx_cVi (a := 162) (As := [.int 15]) (rest := []) dX12_expression_175 ml_X12_175 mv_X12_is (s_X12_is hE hq64) rfl rfl (jc_162 hE) (by decide) (Nat.le_of_ble_eq_true rfl) ?_
              refine jx_if_ne (tgt := 190) dX12_expression_178 (by decide) (fun c67 => ?_) (fun c67 => ?_)
              · rw [if_neg c67] at hf
                refine jx_iconst (v := 1) dX12_expression_190 (by decide) ?_
                refine jx_goto (tgt := 195) dX12_expression_191 (by decide) ?_
                cases hf
                exact hJ28
              · rw [if_pos c67] at hf
                refine jx_aload_n dX12_expression_181 rfl ?_
                refine jx_bipush (v := 16) dX12_expression_182 (by decide) ?_
                obtain ⟨x69, w70, hq68, hf⟩ := jbd2_inv hf
                refine jx_cVi (a := 162) (As := [.int 16]) (rest := []) dX12_expression_184 ml_X12_175 mv_X12_is (s_X12_is hE hq68) rfl rfl (jc_162 hE) (by decide) (Nat.le_of_ble_eq_true rfl) ?_
                refine jx_if_eq (tgt := 194) dX12_expression_187 (by decide) (fun c71 => ?_) (fun c71 => ?_)
                · rw [if_pos c71] at hf
                  refine jx_iconst (v := 0) dX12_expression_194 (by decide) ?_
                  cases hf
                  exact hJ28
                · rw [if_neg c71] at hf
                  refine jx_iconst (v := 1) dX12_expression_190 (by decide) ?_
                  refine jx_goto (tgt := 195) dX12_expression_191 (by decide) ?_
                  cases hf
                  exact hJ28
      · rw [if_neg c21] at hf
        refine jx_aload_n dX12_expression_105 rfl ?_
        refine jx_geti dX12_expression_106 fl_X12_184 (kj_162 hE) sr_162_12 ?_
        refine jx_iload_n dX12_expression_109 rfl ?_
        refine jx_icmp_le (tgt := 145) dX12_expression_110 (by decide) (fun c72 => ?_) (fun c72 => ?_)
        · rw [if_pos c72] at hf
          refine jx_aload_n dX12_expression_145 rfl ?_
          refine jx_bipush (v := 8) dX12_expression_146 (by decide) ?_
          obtain ⟨x74, w75, hq73, hf⟩ := jbd2_inv hf
          refine jx_cVi (a := 162) (As := [.int 8]) (rest := []) dX12_expression_148 ml_X12_175 mv_X12_is (s_X12_is hE hq73) rfl rfl (jc_162 hE) (by decide) (Nat.le_of_ble_eq_true rfl) ?_
          obtain ⟨x77, w78, hqhJ79, hf⟩ := jbd2_inv hf
          have hJ79 : jX E m_X12_expression 3 195 [(0, .ref (E.2.2.2 + 162)), (1, .int b1), (2, .int b2)] [.int x77] w78 none w' := by
            refine jx_istore_n (ls' := [(0, .ref (E.2.2.2 + 162)), (1, .int b1), (2, .int x77)]) dX12_expression_195 (by decide) rfl ?_
            refine jx_iload_n dX12_expression_196 rfl ?_
            refine jx_if_ne (tgt := 219) dX12_expression_197 (by decide) (fun c80 => ?_) (fun c80 => ?_)
            · rw [if_neg c80] at hf
              refine jx_aload_n dX12_expression_219 rfl ?_
              refine jx_aload_n dX12_expression_220 rfl ?_
              refine jx_bipush (v := 10) dX12_expression_221 (by decide) ?_
              obtain ⟨x82, w83, hq81, hf⟩ := jbd2_inv hf
              refine jx_cVi (a := 162) (As := [.int 10]) (rest := [.ref (E.2.2.2 + 162)]) dX12_expression_223 ml_X12_175 mv_X12_is (s_X12_is hE hq81) rfl rfl (jc_162 hE) (by decide) (Nat.le_of_ble_eq_true rfl) ?_
              obtain ⟨x85, w86, hqhJ87, hf⟩ := jbd2_inv hf
              have hJ87 : jX E m_X12_expression 3 252 [(0, .ref (E.2.2.2 + 162)), (1, .int b1), (2, .int x77)] [.int x85, .ref (E.2.2.2 + 162)] w86 none w' := by
                obtain ⟨q88, hq88, hf⟩ := jbd_inv hf
                refine jx_cVv (a := 162) (As := [.int x85]) (rest := []) dX12_expression_252 ml_X12_225 mv_X12_comesOut (s_X12_comesOut hE hq88) rfl rfl (jc_162 hE) (by decide) (Nat.le_of_ble_eq_true rfl) ?_
                refine jx_aload_n dX12_expression_255 rfl ?_
                refine jx_getr dX12_expression_256 fl_X12_64 (kj_162 hE) sr_162_29 ?_
                refine jx_aload_n dX12_expression_259 rfl ?_
                refine jx_geti dX12_expression_260 fl_X12_216 (kj_162 hE) sr_162_30 ?_
                refine jx_aload_n dX12_expression_263 rfl ?_
                refine jx_getr dX12_expression_264 fl_X12_20 (kj_162 hE) sr_162_5 ?_
                refine jx_aload_n dX12_expression_267 rfl ?_
                refine jx_geti dX12_expression_268 fl_X12_160 (kj_162 hE) sr_162_11 ?_
                obtain ⟨c89, hf⟩ := jg_inv hf
                refine jx_iald dX12_expression_271 (kj_165 hE) (jin_vp c89) ?_
                obtain ⟨c90, hf⟩ := jg_inv hf
                refine jx_iast dX12_expression_272 (kj_178 hE) (jin_vp c90) ?_
                obtain ⟨w91, hw91, hf⟩ := jl_inv hf
                refine jx_nw hw91 ?_
                refine jx_aload_n dX12_expression_273 rfl ?_
                refine jx_dup dX12_expression_274 rfl ?_
                refine jx_geti dX12_expression_275 fl_X12_216 (kj_162 hE) sr_162_30 ?_
                refine jx_iconst (v := 1) dX12_expression_278 (by decide) ?_
                refine jx_iadd dX12_expression_279 ?_
                refine jx_puti dX12_expression_280 fp_X12_216 (kj_162 hE) sr_162_30 rfl rfl ?_
                obtain ⟨w92, hw92, hf⟩ := jl_inv hf
                refine jx_nw hw92 ?_
                refine jx_aload_n dX12_expression_283 rfl ?_
                obtain ⟨q93, hq93, hf⟩ := jbd_inv hf
                refine jx_cVv (a := 162) (As := []) (rest := []) dX12_expression_284 ml_X12_178 mv_X12_goesOn (s_X12_goesOn hE hq93) rfl rfl (jc_162 hE) (by decide) (Nat.le_of_ble_eq_true rfl) ?_
                refine jx_goto (tgt := 12) dX12_expression_287 (by decide) ?_
                exact ih.1 _ _ _ _ hf
              clear hf
              have hf := hqhJ87
              clear hqhJ87
              refine jx_if_ne (tgt := 247) dX12_expression_226 (by decide) (fun c84 => ?_) (fun c84 => ?_)
              · rw [if_neg c84] at hf
                refine jx_iconst (v := 1) dX12_expression_247 (by decide) ?_
                refine jx_goto (tgt := 252) dX12_expression_248 (by decide) ?_
                cases hf
                exact hJ87
              · rw [if_pos c84] at hf
                refine jx_aload_n dX12_expression_229 rfl ?_
                refine jx_bipush (v := 15) dX12_expression_230 (by decide) ?_
                obtain ⟨x95, w96, hq94, hf⟩ := jbd2_inv hf
                refine jx_cVi (a := 162) (As := [.int 15]) (rest := [.ref (E.2.2.2 + 162)]) dX12_expression_232 ml_X12_175 mv_X12_is (s_X12_is hE hq94) rfl rfl (jc_162 hE) (by decide) (Nat.le_of_ble_eq_true rfl) ?_
                refine jx_if_ne (tgt := 247) dX12_expression_235 (by decide) (fun c97 => ?_) (fun c97 => ?_)
                · rw [if_neg c97] at hf
                  refine jx_iconst (v := 1) dX12_expression_247 (by decide) ?_
                  refine jx_goto (tgt := 252) dX12_expression_248 (by decide) ?_
                  cases hf
                  exact hJ87
                · rw [if_pos c97] at hf
                  refine jx_aload_n dX12_expression_238 rfl ?_
                  refine jx_bipush (v := 16) dX12_expression_239 (by decide) ?_
                  obtain ⟨x99, w100, hq98, hf⟩ := jbd2_inv hf
                  refine jx_cVi (a := 162) (As := [.int 16]) (rest := [.ref (E.2.2.2 + 162)]) dX12_expression_241 ml_X12_175 mv_X12_is (s_X12_is hE hq98) rfl rfl (jc_162 hE) (by decide) (Nat.le_of_ble_eq_true rfl) ?_
                  refine jx_if_eq (tgt := 251) dX12_expression_244 (by decide) (fun c101 => ?_) (fun c101 => ?_)
                  · rw [if_pos c101] at hf
                    refine jx_iconst (v := 0) dX12_expression_251 (by decide) ?_
                    cases hf
                    exact hJ87
                  · rw [if_neg c101] at hf
                    refine jx_iconst (v := 1) dX12_expression_247 (by decide) ?_
                    refine jx_goto (tgt := 252) dX12_expression_248 (by decide) ?_
                    cases hf
                    exact hJ87
            · rw [if_pos c80] at hf
              refine jx_aload_n dX12_expression_200 rfl ?_
              refine jx_geti dX12_expression_201 fl_X12_184 (kj_162 hE) sr_162_12 ?_
              refine jx_iload_n dX12_expression_204 rfl ?_
              obtain ⟨w103, hqhJ104, hf⟩ := jbd_inv hf
              have hJ104 : jX E m_X12_expression 3 213 [(0, .ref (E.2.2.2 + 162)), (1, .int b1), (2, .int x77)] [] w103 none w' := by
                refine jx_aload_n dX12_expression_213 rfl ?_
                refine jx_iconst (v := 0) dX12_expression_214 (by decide) ?_
                obtain ⟨q105, hq105, hf⟩ := jbd_inv hf
                refine jx_cVv (a := 162) (As := [.int 0]) (rest := []) dX12_expression_215 ml_X12_225 mv_X12_comesOut (s_X12_comesOut hE hq105) rfl rfl (jc_162 hE) (by decide) (Nat.le_of_ble_eq_true rfl) ?_
                cases hf
                exact jx_vret dX12_expression_218 rfl rfl
              clear hf
              have hf := hqhJ104
              clear hqhJ104
              refine jx_icmp_le (tgt := 213) dX12_expression_205 (by decide) (fun c102 => ?_) (fun c102 => ?_)
              · rw [if_pos c102] at hf
                cases hf
                exact hJ104
              · rw [if_neg c102] at hf
                refine jx_aload_n dX12_expression_208 rfl ?_
                refine jx_iconst (v := 1) dX12_expression_209 (by decide) ?_
                obtain ⟨q106, hq106, hf⟩ := jbd_inv hf
                refine jx_cVv (a := 162) (As := [.int 1]) (rest := []) dX12_expression_210 ml_X12_172 mv_X12_fail (s_X12_fail hE hq106) rfl rfl (jc_162 hE) (by decide) (Nat.le_of_ble_eq_true rfl) ?_
                cases hf
                exact hJ104
          clear hf
          have hf := hqhJ79
          clear hqhJ79
          refine jx_if_ne (tgt := 190) dX12_expression_151 (by decide) (fun c76 => ?_) (fun c76 => ?_)
          · rw [if_neg c76] at hf
            refine jx_iconst (v := 1) dX12_expression_190 (by decide) ?_
            refine jx_goto (tgt := 195) dX12_expression_191 (by decide) ?_
            cases hf
            exact hJ79
          · rw [if_pos c76] at hf
            refine jx_aload_n dX12_expression_154 rfl ?_
            refine jx_bipush (v := 9) dX12_expression_155 (by decide) ?_
            obtain ⟨x108, w109, hq107, hf⟩ := jbd2_inv hf
            refine jx_cVi (a := 162) (As := [.int 9]) (rest := []) dX12_expression_157 ml_X12_175 mv_X12_is (s_X12_is hE hq107) rfl rfl (jc_162 hE) (by decide) (Nat.le_of_ble_eq_true rfl) ?_
            refine jx_if_ne (tgt := 190) dX12_expression_160 (by decide) (fun c110 => ?_) (fun c110 => ?_)
            · rw [if_neg c110] at hf
              refine jx_iconst (v := 1) dX12_expression_190 (by decide) ?_
              refine jx_goto (tgt := 195) dX12_expression_191 (by decide) ?_
              cases hf
              exact hJ79
            · rw [if_pos c110] at hf
              refine jx_aload_n dX12_expression_163 rfl ?_
              refine jx_bipush (v := 10) dX12_expression_164 (by decide) ?_
              obtain ⟨x112, w113, hq111, hf⟩ := jbd2_inv hf
              refine jx_cVi (a := 162) (As := [.int 10]) (rest := []) dX12_expression_166 ml_X12_175 mv_X12_is (s_X12_is hE hq111) rfl rfl (jc_162 hE) (by decide) (Nat.le_of_ble_eq_true rfl) ?_
              refine jx_if_ne (tgt := 190) dX12_expression_169 (by decide) (fun c114 => ?_) (fun c114 => ?_)
              · rw [if_neg c114] at hf
                refine jx_iconst (v := 1) dX12_expression_190 (by decide) ?_
                refine jx_goto (tgt := 195) dX12_expression_191 (by decide) ?_
                cases hf
                exact hJ79
              · rw [if_pos c114] at hf
                refine jx_aload_n dX12_expression_172 rfl ?_
                refine jx_bipush (v := 15) dX12_expression_173 (by decide) ?_
                obtain ⟨x116, w117, hq115, hf⟩ := jbd2_inv hf
                refine jx_cVi (a := 162) (As := [.int 15]) (rest := []) dX12_expression_175 ml_X12_175 mv_X12_is (s_X12_is hE hq115) rfl rfl (jc_162 hE) (by decide) (Nat.le_of_ble_eq_true rfl) ?_
                refine jx_if_ne (tgt := 190) dX12_expression_178 (by decide) (fun c118 => ?_) (fun c118 => ?_)
                · rw [if_neg c118] at hf
                  refine jx_iconst (v := 1) dX12_expression_190 (by decide) ?_
                  refine jx_goto (tgt := 195) dX12_expression_191 (by decide) ?_
                  cases hf
                  exact hJ79
                · rw [if_pos c118] at hf
                  refine jx_aload_n dX12_expression_181 rfl ?_
                  refine jx_bipush (v := 16) dX12_expression_182 (by decide) ?_
                  obtain ⟨x120, w121, hq119, hf⟩ := jbd2_inv hf
                  refine jx_cVi (a := 162) (As := [.int 16]) (rest := []) dX12_expression_184 ml_X12_175 mv_X12_is (s_X12_is hE hq119) rfl rfl (jc_162 hE) (by decide) (Nat.le_of_ble_eq_true rfl) ?_
                  refine jx_if_eq (tgt := 194) dX12_expression_187 (by decide) (fun c122 => ?_) (fun c122 => ?_)
                  · rw [if_pos c122] at hf
                    refine jx_iconst (v := 0) dX12_expression_194 (by decide) ?_
                    cases hf
                    exact hJ79
                  · rw [if_neg c122] at hf
                    refine jx_iconst (v := 1) dX12_expression_190 (by decide) ?_
                    refine jx_goto (tgt := 195) dX12_expression_191 (by decide) ?_
                    cases hf
                    exact hJ79
        · rw [if_neg c72] at hf
          refine jx_aload_n dX12_expression_113 rfl ?_
          refine jx_iconst (v := 0) dX12_expression_114 (by decide) ?_
          obtain ⟨q123, hq123, hf⟩ := jbd_inv hf
          refine jx_cVv (a := 162) (As := [.int 0]) (rest := []) dX12_expression_115 ml_X12_225 mv_X12_comesOut (s_X12_comesOut hE hq123) rfl rfl (jc_162 hE) (by decide) (Nat.le_of_ble_eq_true rfl) ?_
          refine jx_aload_n dX12_expression_118 rfl ?_
          refine jx_dup dX12_expression_119 rfl ?_
          refine jx_geti dX12_expression_120 fl_X12_216 (kj_162 hE) sr_162_30 ?_
          refine jx_iconst (v := 1) dX12_expression_123 (by decide) ?_
          refine jx_isub dX12_expression_124 ?_
          refine jx_puti dX12_expression_125 fp_X12_216 (kj_162 hE) sr_162_30 rfl rfl ?_
          obtain ⟨w124, hw124, hf⟩ := jl_inv hf
          refine jx_nw hw124 ?_
          refine jx_aload_n dX12_expression_128 rfl ?_
          refine jx_dup dX12_expression_129 rfl ?_
          refine jx_geti dX12_expression_130 fl_X12_184 (kj_162 hE) sr_162_12 ?_
          refine jx_iconst (v := 1) dX12_expression_133 (by decide) ?_
          refine jx_isub dX12_expression_134 ?_
          refine jx_puti dX12_expression_135 fp_X12_184 (kj_162 hE) sr_162_12 rfl rfl ?_
          obtain ⟨w125, hw125, hf⟩ := jl_inv hf
          refine jx_nw hw125 ?_
          refine jx_aload_n dX12_expression_138 rfl ?_
          obtain ⟨q126, hq126, hf⟩ := jbd_inv hf
          refine jx_cVv (a := 162) (As := []) (rest := []) dX12_expression_139 ml_X12_178 mv_X12_goesOn (s_X12_goesOn hE hq126) rfl rfl (jc_162 hE) (by decide) (Nat.le_of_ble_eq_true rfl) ?_
          refine jx_goto (tgt := 96) dX12_expression_142 (by decide) ?_
          exact ih.2.2 _ _ _ _ hf
def f_X12_expression  (w : jw) : Option (jw) := jl (jsetI w 162 30 0) fun w127 => jl (w127.1 162 12 : Int32) fun x128 => (l_X12_expression jfu 0 x128 1 w127)
set_option maxRecDepth 20000 in
set_option maxHeartbeats 2000000 in
theorem s_X12_expression {E : jE} (hE : jfull E)  {w w' : jw} (hf : f_X12_expression  w = some w') : jC E m_X12_expression 3 [.ref (E.2.2.2 + 162)] w none w' := by
  refine jC_of (ls := [(0, .ref (E.2.2.2 + 162))]) (by decide) rfl (fun _ => trivial) (Nat.le_of_ble_eq_true rfl) rfl rfl ?_
  unfold f_X12_expression at hf
  refine jx_aload_n dX12_expression_0 rfl ?_
  refine jx_iconst (v := 0) dX12_expression_1 (by decide) ?_
  refine jx_puti dX12_expression_2 fp_X12_216 (kj_162 hE) sr_162_30 rfl rfl ?_
  obtain ⟨w127, hw127, hf⟩ := jl_inv hf
  refine jx_nw hw127 ?_
  refine jx_aload_n dX12_expression_5 rfl ?_
  refine jx_geti dX12_expression_6 fl_X12_184 (kj_162 hE) sr_162_12 ?_
  obtain ⟨x128, hx128, hf⟩ := jl_inv hf
  refine jx_nm hx128 ?_
  refine jx_istore_n (ls' := [(0, .ref (E.2.2.2 + 162)), (1, .int x128)]) dX12_expression_9 (by decide) rfl ?_
  refine jx_iconst (v := 1) dX12_expression_10 (by decide) ?_
  refine jx_istore_n (ls' := [(0, .ref (E.2.2.2 + 162)), (1, .int x128), (2, .int 1)]) dX12_expression_11 (by decide) rfl ?_
  exact (sl_X12_expression hE jfu).1 _ _ _ _ hf
def f_X12_tellOne  (w : jw) : Option (jw) := jl (w.1 162 18 : Int32) fun x1 => jg (jin (w.1 162 11) 403) (jg (jin x1 210) (jl (jsetX w 170 (Int32.toNatClampNeg x1) ((w.2.1 165 (Int32.toNatClampNeg (w.1 162 11))) - 21)) fun w4 => jg (jin (w4.1 162 11) 403) ((if (w4.2.1 165 (Int32.toNatClampNeg (w4.1 162 11))).toInt = 21 then jbd (f_X12_goesOn  w4) fun q7 => jg (jin x1 210) (jl (jsetX q7 171 (Int32.toNatClampNeg x1) (q7.1 162 26)) fun w9 => jbd (if (w9.1 162 13) = 0 then jbd (f_X12_expression  w9) fun q25 => some q25 else some w9) fun w11 => jg (jin x1 210) (jl (jsetX w11 172 (Int32.toNatClampNeg x1) (w11.1 162 26)) fun w14 => jbd (if (w14.1 162 13) = 0 then jg (jin x1 210) ((if (w14.2.1 170 (Int32.toNatClampNeg x1)) = 0 then jbd (f_X12_expression  w14) fun q24 => some q24 else some w14)) else some w14) fun w16 => jg (jin x1 210) (jl (jsetX w16 173 (Int32.toNatClampNeg x1) (w16.1 162 26)) fun w19 => jbd (f_X12_must 4 w19) fun q20 => jl (jsetI q20 162 18 ((q20.1 162 18) + 1)) fun w21 => some w21))) else (if (w4.2.1 165 (Int32.toNatClampNeg (w4.1 162 11))).toInt = 22 then jbd (f_X12_goesOn  w4) fun q27 => jg (jin x1 210) (jl (jsetX q27 171 (Int32.toNatClampNeg x1) (q27.1 162 26)) fun w29 => jbd (if (w29.1 162 13) = 0 then jbd (f_X12_expression  w29) fun q45 => some q45 else some w29) fun w31 => jg (jin x1 210) (jl (jsetX w31 172 (Int32.toNatClampNeg x1) (w31.1 162 26)) fun w34 => jbd (if (w34.1 162 13) = 0 then jg (jin x1 210) ((if (w34.2.1 170 (Int32.toNatClampNeg x1)) = 0 then jbd (f_X12_expression  w34) fun q44 => some q44 else some w34)) else some w34) fun w36 => jg (jin x1 210) (jl (jsetX w36 173 (Int32.toNatClampNeg x1) (w36.1 162 26)) fun w39 => jbd (f_X12_must 4 w39) fun q40 => jl (jsetI q40 162 18 ((q40.1 162 18) + 1)) fun w41 => some w41))) else (if (w4.2.1 165 (Int32.toNatClampNeg (w4.1 162 11))).toInt = 23 then jbd (if (w4.1 162 24) = 3 then jbd (f_X12_fail 2 w4) fun q62 => some q62 else some w4) fun w48 => (if (w48.1 162 13) ≤ 0 then jbd (f_X12_goesOn  w48) fun q51 => jbd2 (f_X12_bounded 0 99 q51) fun x53 w54 => jg (jin x1 210) (jl (jsetX w54 171 (Int32.toNatClampNeg x1) x53) fun w56 => jg (jin (w56.1 162 24) 3) (jl (jsetX w56 175 (Int32.toNatClampNeg (w56.1 162 24)) x1) fun w58 => jl (jsetI w58 162 24 ((w58.1 162 24) + 1)) fun w59 => jbd (f_X12_must 4 w59) fun q60 => jl (jsetI q60 162 18 ((q60.1 162 18) + 1)) fun w61 => some w61)) else some w48) else (if (w4.2.1 165 (Int32.toNatClampNeg (w4.1 162 11))).toInt = 24 then jbd (if (w4.1 162 24) = 0 then jbd (f_X12_fail 1 w4) fun q78 => some q78 else some w4) fun w65 => (if (w65.1 162 13) ≤ 0 then jbd (f_X12_goesOn  w65) fun q68 => jl (jsetI q68 162 24 ((q68.1 162 24) - 1)) fun w69 => jg (jin (w69.1 162 24) 3) (jg (jin x1 210) (jl (jsetX w69 174 (Int32.toNatClampNeg x1) (w69.2.1 175 (Int32.toNatClampNeg (w69.1 162 24)))) fun w72 => jg (jin (w72.1 162 24) 3) (jg (jin (w72.2.1 175 (Int32.toNatClampNeg (w72.1 162 24))) 210) (jl (jsetX w72 174 (Int32.toNatClampNeg (w72.2.1 175 (Int32.toNatClampNeg (w72.1 162 24)))) x1) fun w75 => jbd (f_X12_must 4 w75) fun q76 => jl (jsetI q76 162 18 ((q76.1 162 18) + 1)) fun w77 => some w77)))) else some w65) else jbd (f_X12_fail 1 w4) fun q79 => jbd (f_X12_must 4 q79) fun q80 => jl (jsetI q80 162 18 ((q80.1 162 18) + 1)) fun w81 => some w81)))))))
set_option maxRecDepth 20000 in
set_option maxHeartbeats 2000000 in
theorem s_X12_tellOne {E : jE} (hE : jfull E)  {w w' : jw} (hf : f_X12_tellOne  w = some w') : jC E m_X12_tellOne 4 [.ref (E.2.2.2 + 162)] w none w' := by
  refine jC_of (ls := [(0, .ref (E.2.2.2 + 162))]) (by decide) rfl (fun _ => trivial) (Nat.le_of_ble_eq_true rfl) rfl rfl ?_
  unfold f_X12_tellOne at hf
  refine jx_aload_n dX12_tellOne_0 rfl ?_
  refine jx_geti dX12_tellOne_1 fl_X12_187 (kj_162 hE) sr_162_18 ?_
  obtain ⟨x1, hx1, hf⟩ := jl_inv hf
  refine jx_nm hx1 ?_
  refine jx_istore_n (ls' := [(0, .ref (E.2.2.2 + 162)), (1, .int x1)]) dX12_tellOne_4 (by decide) rfl ?_
  refine jx_aload_n dX12_tellOne_5 rfl ?_
  refine jx_getr dX12_tellOne_6 fl_X12_40 (kj_162 hE) sr_162_19 ?_
  refine jx_iload_n dX12_tellOne_9 rfl ?_
  refine jx_aload_n dX12_tellOne_10 rfl ?_
  refine jx_getr dX12_tellOne_11 fl_X12_20 (kj_162 hE) sr_162_5 ?_
  refine jx_aload_n dX12_tellOne_14 rfl ?_
  refine jx_geti dX12_tellOne_15 fl_X12_160 (kj_162 hE) sr_162_11 ?_
  obtain ⟨c2, hf⟩ := jg_inv hf
  refine jx_iald dX12_tellOne_18 (kj_165 hE) (jin_vp c2) ?_
  refine jx_bipush (v := 21) dX12_tellOne_19 (by decide) ?_
  refine jx_isub dX12_tellOne_21 ?_
  obtain ⟨c3, hf⟩ := jg_inv hf
  refine jx_iast dX12_tellOne_22 (kj_170 hE) (jin_vp c3) ?_
  obtain ⟨w4, hw4, hf⟩ := jl_inv hf
  refine jx_nw hw4 ?_
  refine jx_aload_n dX12_tellOne_23 rfl ?_
  refine jx_getr dX12_tellOne_24 fl_X12_20 (kj_162 hE) sr_162_5 ?_
  refine jx_aload_n dX12_tellOne_27 rfl ?_
  refine jx_geti dX12_tellOne_28 fl_X12_160 (kj_162 hE) sr_162_11 ?_
  obtain ⟨c5, hf⟩ := jg_inv hf
  refine jx_iald dX12_tellOne_31 (kj_165 hE) (jin_vp c5) ?_
  by_cases c6 : (w4.2.1 165 (Int32.toNatClampNeg (w4.1 162 11))).toInt = 21
  · rw [if_pos c6] at hf
    refine jx_tableIn (off := 32) (tgt := 64) dX12_tellOne_32 (by omega) (by omega) (by rw [c6]; rfl) (by decide) ?_
    refine jx_aload_n dX12_tellOne_64 rfl ?_
    obtain ⟨q7, hq7, hf⟩ := jbd_inv hf
    refine jx_cVv (a := 162) (As := []) (rest := []) dX12_tellOne_65 ml_X12_178 mv_X12_goesOn (s_X12_goesOn hE hq7) rfl rfl (jc_162 hE) (by decide) (Nat.le_of_ble_eq_true rfl) ?_
    refine jx_aload_n dX12_tellOne_68 rfl ?_
    refine jx_getr dX12_tellOne_69 fl_X12_43 (kj_162 hE) sr_162_20 ?_
    refine jx_iload_n dX12_tellOne_72 rfl ?_
    refine jx_aload_n dX12_tellOne_73 rfl ?_
    refine jx_geti dX12_tellOne_74 fl_X12_193 (kj_162 hE) sr_162_26 ?_
    obtain ⟨c8, hf⟩ := jg_inv hf
    refine jx_iast dX12_tellOne_77 (kj_171 hE) (jin_vp c8) ?_
    obtain ⟨w9, hw9, hf⟩ := jl_inv hf
    refine jx_nw hw9 ?_
    refine jx_aload_n dX12_tellOne_78 rfl ?_
    refine jx_geti dX12_tellOne_79 fl_X12_157 (kj_162 hE) sr_162_13 ?_
    obtain ⟨w11, hqhJ12, hf⟩ := jbd_inv hf
    have hJ12 : jX E m_X12_tellOne 4 89 [(0, .ref (E.2.2.2 + 162)), (1, .int x1)] [] w11 none w' := by
      refine jx_aload_n dX12_tellOne_89 rfl ?_
      refine jx_getr dX12_tellOne_90 fl_X12_46 (kj_162 hE) sr_162_21 ?_
      refine jx_iload_n dX12_tellOne_93 rfl ?_
      refine jx_aload_n dX12_tellOne_94 rfl ?_
      refine jx_geti dX12_tellOne_95 fl_X12_193 (kj_162 hE) sr_162_26 ?_
      obtain ⟨c13, hf⟩ := jg_inv hf
      refine jx_iast dX12_tellOne_98 (kj_172 hE) (jin_vp c13) ?_
      obtain ⟨w14, hw14, hf⟩ := jl_inv hf
      refine jx_nw hw14 ?_
      refine jx_aload_n dX12_tellOne_99 rfl ?_
      refine jx_geti dX12_tellOne_100 fl_X12_157 (kj_162 hE) sr_162_13 ?_
      obtain ⟨w16, hqhJ17, hf⟩ := jbd_inv hf
      have hJ17 : jX E m_X12_tellOne 4 119 [(0, .ref (E.2.2.2 + 162)), (1, .int x1)] [] w16 none w' := by
        refine jx_aload_n dX12_tellOne_119 rfl ?_
        refine jx_getr dX12_tellOne_120 fl_X12_49 (kj_162 hE) sr_162_22 ?_
        refine jx_iload_n dX12_tellOne_123 rfl ?_
        refine jx_aload_n dX12_tellOne_124 rfl ?_
        refine jx_geti dX12_tellOne_125 fl_X12_193 (kj_162 hE) sr_162_26 ?_
        obtain ⟨c18, hf⟩ := jg_inv hf
        refine jx_iast dX12_tellOne_128 (kj_173 hE) (jin_vp c18) ?_
        obtain ⟨w19, hw19, hf⟩ := jl_inv hf
        refine jx_nw hw19 ?_
        refine jx_goto (tgt := 265) dX12_tellOne_129 (by decide) ?_
        refine jx_aload_n dX12_tellOne_265 rfl ?_
        refine jx_iconst (v := 4) dX12_tellOne_266 (by decide) ?_
        obtain ⟨q20, hq20, hf⟩ := jbd_inv hf
        refine jx_cVv (a := 162) (As := [.int 4]) (rest := []) dX12_tellOne_267 ml_X12_200 mv_X12_must (s_X12_must hE hq20) rfl rfl (jc_162 hE) (by decide) (Nat.le_of_ble_eq_true rfl) ?_
        refine jx_aload_n dX12_tellOne_270 rfl ?_
        refine jx_dup dX12_tellOne_271 rfl ?_
        refine jx_geti dX12_tellOne_272 fl_X12_187 (kj_162 hE) sr_162_18 ?_
        refine jx_iconst (v := 1) dX12_tellOne_275 (by decide) ?_
        refine jx_iadd dX12_tellOne_276 ?_
        refine jx_puti dX12_tellOne_277 fp_X12_187 (kj_162 hE) sr_162_18 rfl rfl ?_
        obtain ⟨w21, hw21, hf⟩ := jl_inv hf
        refine jx_nw hw21 ?_
        cases hf
        exact jx_vret dX12_tellOne_280 rfl rfl
      clear hf
      have hf := hqhJ17
      clear hqhJ17
      refine jx_if_ne (tgt := 119) dX12_tellOne_103 (by decide) (fun c15 => ?_) (fun c15 => ?_)
      · rw [if_neg c15] at hf
        cases hf
        exact hJ17
      · rw [if_pos c15] at hf
        refine jx_aload_n dX12_tellOne_106 rfl ?_
        refine jx_getr dX12_tellOne_107 fl_X12_40 (kj_162 hE) sr_162_19 ?_
        refine jx_iload_n dX12_tellOne_110 rfl ?_
        obtain ⟨c22, hf⟩ := jg_inv hf
        refine jx_iald dX12_tellOne_111 (kj_170 hE) (jin_vp c22) ?_
        refine jx_if_ne (tgt := 119) dX12_tellOne_112 (by decide) (fun c23 => ?_) (fun c23 => ?_)
        · rw [if_neg c23] at hf
          cases hf
          exact hJ17
        · rw [if_pos c23] at hf
          refine jx_aload_n dX12_tellOne_115 rfl ?_
          obtain ⟨q24, hq24, hf⟩ := jbd_inv hf
          refine jx_cVv (a := 162) (As := []) (rest := []) dX12_tellOne_116 ml_X12_213 mv_X12_expression (s_X12_expression hE hq24) rfl rfl (jc_162 hE) (by decide) (Nat.le_of_ble_eq_true rfl) ?_
          cases hf
          exact hJ17
    clear hf
    have hf := hqhJ12
    clear hqhJ12
    refine jx_if_ne (tgt := 89) dX12_tellOne_82 (by decide) (fun c10 => ?_) (fun c10 => ?_)
    · rw [if_neg c10] at hf
      cases hf
      exact hJ12
    · rw [if_pos c10] at hf
      refine jx_aload_n dX12_tellOne_85 rfl ?_
      obtain ⟨q25, hq25, hf⟩ := jbd_inv hf
      refine jx_cVv (a := 162) (As := []) (rest := []) dX12_tellOne_86 ml_X12_213 mv_X12_expression (s_X12_expression hE hq25) rfl rfl (jc_162 hE) (by decide) (Nat.le_of_ble_eq_true rfl) ?_
      cases hf
      exact hJ12
  rw [if_neg c6] at hf
  by_cases c26 : (w4.2.1 165 (Int32.toNatClampNeg (w4.1 162 11))).toInt = 22
  · rw [if_pos c26] at hf
    refine jx_tableIn (off := 32) (tgt := 64) dX12_tellOne_32 (by omega) (by omega) (by rw [c26]; rfl) (by decide) ?_
    refine jx_aload_n dX12_tellOne_64 rfl ?_
    obtain ⟨q27, hq27, hf⟩ := jbd_inv hf
    refine jx_cVv (a := 162) (As := []) (rest := []) dX12_tellOne_65 ml_X12_178 mv_X12_goesOn (s_X12_goesOn hE hq27) rfl rfl (jc_162 hE) (by decide) (Nat.le_of_ble_eq_true rfl) ?_
    refine jx_aload_n dX12_tellOne_68 rfl ?_
    refine jx_getr dX12_tellOne_69 fl_X12_43 (kj_162 hE) sr_162_20 ?_
    refine jx_iload_n dX12_tellOne_72 rfl ?_
    refine jx_aload_n dX12_tellOne_73 rfl ?_
    refine jx_geti dX12_tellOne_74 fl_X12_193 (kj_162 hE) sr_162_26 ?_
    obtain ⟨c28, hf⟩ := jg_inv hf
    refine jx_iast dX12_tellOne_77 (kj_171 hE) (jin_vp c28) ?_
    obtain ⟨w29, hw29, hf⟩ := jl_inv hf
    refine jx_nw hw29 ?_
    refine jx_aload_n dX12_tellOne_78 rfl ?_
    refine jx_geti dX12_tellOne_79 fl_X12_157 (kj_162 hE) sr_162_13 ?_
    obtain ⟨w31, hqhJ32, hf⟩ := jbd_inv hf
    have hJ32 : jX E m_X12_tellOne 4 89 [(0, .ref (E.2.2.2 + 162)), (1, .int x1)] [] w31 none w' := by
      refine jx_aload_n dX12_tellOne_89 rfl ?_
      refine jx_getr dX12_tellOne_90 fl_X12_46 (kj_162 hE) sr_162_21 ?_
      refine jx_iload_n dX12_tellOne_93 rfl ?_
      refine jx_aload_n dX12_tellOne_94 rfl ?_
      refine jx_geti dX12_tellOne_95 fl_X12_193 (kj_162 hE) sr_162_26 ?_
      obtain ⟨c33, hf⟩ := jg_inv hf
      refine jx_iast dX12_tellOne_98 (kj_172 hE) (jin_vp c33) ?_
      obtain ⟨w34, hw34, hf⟩ := jl_inv hf
      refine jx_nw hw34 ?_
      refine jx_aload_n dX12_tellOne_99 rfl ?_
      refine jx_geti dX12_tellOne_100 fl_X12_157 (kj_162 hE) sr_162_13 ?_
      obtain ⟨w36, hqhJ37, hf⟩ := jbd_inv hf
      have hJ37 : jX E m_X12_tellOne 4 119 [(0, .ref (E.2.2.2 + 162)), (1, .int x1)] [] w36 none w' := by
        refine jx_aload_n dX12_tellOne_119 rfl ?_
        refine jx_getr dX12_tellOne_120 fl_X12_49 (kj_162 hE) sr_162_22 ?_
        refine jx_iload_n dX12_tellOne_123 rfl ?_
        refine jx_aload_n dX12_tellOne_124 rfl ?_
        refine jx_geti dX12_tellOne_125 fl_X12_193 (kj_162 hE) sr_162_26 ?_
        obtain ⟨c38, hf⟩ := jg_inv hf
        refine jx_iast dX12_tellOne_128 (kj_173 hE) (jin_vp c38) ?_
        obtain ⟨w39, hw39, hf⟩ := jl_inv hf
        refine jx_nw hw39 ?_
        refine jx_goto (tgt := 265) dX12_tellOne_129 (by decide) ?_
        refine jx_aload_n dX12_tellOne_265 rfl ?_
        refine jx_iconst (v := 4) dX12_tellOne_266 (by decide) ?_
        obtain ⟨q40, hq40, hf⟩ := jbd_inv hf
        refine jx_cVv (a := 162) (As := [.int 4]) (rest := []) dX12_tellOne_267 ml_X12_200 mv_X12_must (s_X12_must hE hq40) rfl rfl (jc_162 hE) (by decide) (Nat.le_of_ble_eq_true rfl) ?_
        refine jx_aload_n dX12_tellOne_270 rfl ?_
        refine jx_dup dX12_tellOne_271 rfl ?_
        refine jx_geti dX12_tellOne_272 fl_X12_187 (kj_162 hE) sr_162_18 ?_
        refine jx_iconst (v := 1) dX12_tellOne_275 (by decide) ?_
        refine jx_iadd dX12_tellOne_276 ?_
        refine jx_puti dX12_tellOne_277 fp_X12_187 (kj_162 hE) sr_162_18 rfl rfl ?_
        obtain ⟨w41, hw41, hf⟩ := jl_inv hf
        refine jx_nw hw41 ?_
        cases hf
        exact jx_vret dX12_tellOne_280 rfl rfl
      clear hf
      have hf := hqhJ37
      clear hqhJ37
      refine jx_if_ne (tgt := 119) dX12_tellOne_103 (by decide) (fun c35 => ?_) (fun c35 => ?_)
      · rw [if_neg c35] at hf
        cases hf
        exact hJ37
      · rw [if_pos c35] at hf
        refine jx_aload_n dX12_tellOne_106 rfl ?_
        refine jx_getr dX12_tellOne_107 fl_X12_40 (kj_162 hE) sr_162_19 ?_
        refine jx_iload_n dX12_tellOne_110 rfl ?_
        obtain ⟨c42, hf⟩ := jg_inv hf
        refine jx_iald dX12_tellOne_111 (kj_170 hE) (jin_vp c42) ?_
        refine jx_if_ne (tgt := 119) dX12_tellOne_112 (by decide) (fun c43 => ?_) (fun c43 => ?_)
        · rw [if_neg c43] at hf
          cases hf
          exact hJ37
        · rw [if_pos c43] at hf
          refine jx_aload_n dX12_tellOne_115 rfl ?_
          obtain ⟨q44, hq44, hf⟩ := jbd_inv hf
          refine jx_cVv (a := 162) (As := []) (rest := []) dX12_tellOne_116 ml_X12_213 mv_X12_expression (s_X12_expression hE hq44) rfl rfl (jc_162 hE) (by decide) (Nat.le_of_ble_eq_true rfl) ?_
          cases hf
          exact hJ37
    clear hf
    have hf := hqhJ32
    clear hqhJ32
    refine jx_if_ne (tgt := 89) dX12_tellOne_82 (by decide) (fun c30 => ?_) (fun c30 => ?_)
    · rw [if_neg c30] at hf
      cases hf
      exact hJ32
    · rw [if_pos c30] at hf
      refine jx_aload_n dX12_tellOne_85 rfl ?_
      obtain ⟨q45, hq45, hf⟩ := jbd_inv hf
      refine jx_cVv (a := 162) (As := []) (rest := []) dX12_tellOne_86 ml_X12_213 mv_X12_expression (s_X12_expression hE hq45) rfl rfl (jc_162 hE) (by decide) (Nat.le_of_ble_eq_true rfl) ?_
      cases hf
      exact hJ32
  rw [if_neg c26] at hf
  by_cases c46 : (w4.2.1 165 (Int32.toNatClampNeg (w4.1 162 11))).toInt = 23
  · rw [if_pos c46] at hf
    refine jx_tableIn (off := 100) (tgt := 132) dX12_tellOne_32 (by omega) (by omega) (by rw [c46]; rfl) (by decide) ?_
    refine jx_aload_n dX12_tellOne_132 rfl ?_
    refine jx_geti dX12_tellOne_133 fl_X12_190 (kj_162 hE) sr_162_24 ?_
    refine jx_iconst (v := 3) dX12_tellOne_136 (by decide) ?_
    obtain ⟨w48, hqhJ49, hf⟩ := jbd_inv hf
    have hJ49 : jX E m_X12_tellOne 4 145 [(0, .ref (E.2.2.2 + 162)), (1, .int x1)] [] w48 none w' := by
      refine jx_aload_n dX12_tellOne_145 rfl ?_
      refine jx_geti dX12_tellOne_146 fl_X12_157 (kj_162 hE) sr_162_13 ?_
      refine jx_if_le (tgt := 153) dX12_tellOne_149 (by decide) (fun c50 => ?_) (fun c50 => ?_)
      · rw [if_pos c50] at hf
        refine jx_aload_n dX12_tellOne_153 rfl ?_
        obtain ⟨q51, hq51, hf⟩ := jbd_inv hf
        refine jx_cVv (a := 162) (As := []) (rest := []) dX12_tellOne_154 ml_X12_178 mv_X12_goesOn (s_X12_goesOn hE hq51) rfl rfl (jc_162 hE) (by decide) (Nat.le_of_ble_eq_true rfl) ?_
        refine jx_aload_n dX12_tellOne_157 rfl ?_
        refine jx_getr dX12_tellOne_158 fl_X12_43 (kj_162 hE) sr_162_20 ?_
        refine jx_iload_n dX12_tellOne_161 rfl ?_
        refine jx_aload_n dX12_tellOne_162 rfl ?_
        refine jx_iconst (v := 0) dX12_tellOne_163 (by decide) ?_
        refine jx_bipush (v := 99) dX12_tellOne_164 (by decide) ?_
        obtain ⟨x53, w54, hq52, hf⟩ := jbd2_inv hf
        refine jx_cVi (a := 162) (As := [.int 0, .int 99]) (rest := [.int x1, .ref (E.2.2.2 + 171)]) dX12_tellOne_166 ml_X12_196 mv_X12_bounded (s_X12_bounded hE hq52) rfl rfl (jc_162 hE) (by decide) (Nat.le_of_ble_eq_true rfl) ?_
        obtain ⟨c55, hf⟩ := jg_inv hf
        refine jx_iast dX12_tellOne_169 (kj_171 hE) (jin_vp c55) ?_
        obtain ⟨w56, hw56, hf⟩ := jl_inv hf
        refine jx_nw hw56 ?_
        refine jx_aload_n dX12_tellOne_170 rfl ?_
        refine jx_getr dX12_tellOne_171 fl_X12_55 (kj_162 hE) sr_162_25 ?_
        refine jx_aload_n dX12_tellOne_174 rfl ?_
        refine jx_geti dX12_tellOne_175 fl_X12_190 (kj_162 hE) sr_162_24 ?_
        refine jx_iload_n dX12_tellOne_178 rfl ?_
        obtain ⟨c57, hf⟩ := jg_inv hf
        refine jx_iast dX12_tellOne_179 (kj_175 hE) (jin_vp c57) ?_
        obtain ⟨w58, hw58, hf⟩ := jl_inv hf
        refine jx_nw hw58 ?_
        refine jx_aload_n dX12_tellOne_180 rfl ?_
        refine jx_dup dX12_tellOne_181 rfl ?_
        refine jx_geti dX12_tellOne_182 fl_X12_190 (kj_162 hE) sr_162_24 ?_
        refine jx_iconst (v := 1) dX12_tellOne_185 (by decide) ?_
        refine jx_iadd dX12_tellOne_186 ?_
        refine jx_puti dX12_tellOne_187 fp_X12_190 (kj_162 hE) sr_162_24 rfl rfl ?_
        obtain ⟨w59, hw59, hf⟩ := jl_inv hf
        refine jx_nw hw59 ?_
        refine jx_goto (tgt := 265) dX12_tellOne_190 (by decide) ?_
        refine jx_aload_n dX12_tellOne_265 rfl ?_
        refine jx_iconst (v := 4) dX12_tellOne_266 (by decide) ?_
        obtain ⟨q60, hq60, hf⟩ := jbd_inv hf
        refine jx_cVv (a := 162) (As := [.int 4]) (rest := []) dX12_tellOne_267 ml_X12_200 mv_X12_must (s_X12_must hE hq60) rfl rfl (jc_162 hE) (by decide) (Nat.le_of_ble_eq_true rfl) ?_
        refine jx_aload_n dX12_tellOne_270 rfl ?_
        refine jx_dup dX12_tellOne_271 rfl ?_
        refine jx_geti dX12_tellOne_272 fl_X12_187 (kj_162 hE) sr_162_18 ?_
        refine jx_iconst (v := 1) dX12_tellOne_275 (by decide) ?_
        refine jx_iadd dX12_tellOne_276 ?_
        refine jx_puti dX12_tellOne_277 fp_X12_187 (kj_162 hE) sr_162_18 rfl rfl ?_
        obtain ⟨w61, hw61, hf⟩ := jl_inv hf
        refine jx_nw hw61 ?_
        cases hf
        exact jx_vret dX12_tellOne_280 rfl rfl
      · rw [if_neg c50] at hf
        cases hf
        exact jx_vret dX12_tellOne_152 rfl rfl
    clear hf
    have hf := hqhJ49
    clear hqhJ49
    refine jx_icmp_ne (tgt := 145) dX12_tellOne_137 (by decide) (fun c47 => ?_) (fun c47 => ?_)
    · rw [if_neg c47] at hf
      cases hf
      exact hJ49
    · rw [if_pos c47] at hf
      refine jx_aload_n dX12_tellOne_140 rfl ?_
      refine jx_iconst (v := 2) dX12_tellOne_141 (by decide) ?_
      obtain ⟨q62, hq62, hf⟩ := jbd_inv hf
      refine jx_cVv (a := 162) (As := [.int 2]) (rest := []) dX12_tellOne_142 ml_X12_172 mv_X12_fail (s_X12_fail hE hq62) rfl rfl (jc_162 hE) (by decide) (Nat.le_of_ble_eq_true rfl) ?_
      cases hf
      exact hJ49
  rw [if_neg c46] at hf
  by_cases c63 : (w4.2.1 165 (Int32.toNatClampNeg (w4.1 162 11))).toInt = 24
  · rw [if_pos c63] at hf
    refine jx_tableIn (off := 161) (tgt := 193) dX12_tellOne_32 (by omega) (by omega) (by rw [c63]; rfl) (by decide) ?_
    refine jx_aload_n dX12_tellOne_193 rfl ?_
    refine jx_geti dX12_tellOne_194 fl_X12_190 (kj_162 hE) sr_162_24 ?_
    obtain ⟨w65, hqhJ66, hf⟩ := jbd_inv hf
    have hJ66 : jX E m_X12_tellOne 4 205 [(0, .ref (E.2.2.2 + 162)), (1, .int x1)] [] w65 none w' := by
      refine jx_aload_n dX12_tellOne_205 rfl ?_
      refine jx_geti dX12_tellOne_206 fl_X12_157 (kj_162 hE) sr_162_13 ?_
      refine jx_if_le (tgt := 213) dX12_tellOne_209 (by decide) (fun c67 => ?_) (fun c67 => ?_)
      · rw [if_pos c67] at hf
        refine jx_aload_n dX12_tellOne_213 rfl ?_
        obtain ⟨q68, hq68, hf⟩ := jbd_inv hf
        refine jx_cVv (a := 162) (As := []) (rest := []) dX12_tellOne_214 ml_X12_178 mv_X12_goesOn (s_X12_goesOn hE hq68) rfl rfl (jc_162 hE) (by decide) (Nat.le_of_ble_eq_true rfl) ?_
        refine jx_aload_n dX12_tellOne_217 rfl ?_
        refine jx_dup dX12_tellOne_218 rfl ?_
        refine jx_geti dX12_tellOne_219 fl_X12_190 (kj_162 hE) sr_162_24 ?_
        refine jx_iconst (v := 1) dX12_tellOne_222 (by decide) ?_
        refine jx_isub dX12_tellOne_223 ?_
        refine jx_puti dX12_tellOne_224 fp_X12_190 (kj_162 hE) sr_162_24 rfl rfl ?_
        obtain ⟨w69, hw69, hf⟩ := jl_inv hf
        refine jx_nw hw69 ?_
        refine jx_aload_n dX12_tellOne_227 rfl ?_
        refine jx_getr dX12_tellOne_228 fl_X12_52 (kj_162 hE) sr_162_23 ?_
        refine jx_iload_n dX12_tellOne_231 rfl ?_
        refine jx_aload_n dX12_tellOne_232 rfl ?_
        refine jx_getr dX12_tellOne_233 fl_X12_55 (kj_162 hE) sr_162_25 ?_
        refine jx_aload_n dX12_tellOne_236 rfl ?_
        refine jx_geti dX12_tellOne_237 fl_X12_190 (kj_162 hE) sr_162_24 ?_
        obtain ⟨c70, hf⟩ := jg_inv hf
        refine jx_iald dX12_tellOne_240 (kj_175 hE) (jin_vp c70) ?_
        obtain ⟨c71, hf⟩ := jg_inv hf
        refine jx_iast dX12_tellOne_241 (kj_174 hE) (jin_vp c71) ?_
        obtain ⟨w72, hw72, hf⟩ := jl_inv hf
        refine jx_nw hw72 ?_
        refine jx_aload_n dX12_tellOne_242 rfl ?_
        refine jx_getr dX12_tellOne_243 fl_X12_52 (kj_162 hE) sr_162_23 ?_
        refine jx_aload_n dX12_tellOne_246 rfl ?_
        refine jx_getr dX12_tellOne_247 fl_X12_55 (kj_162 hE) sr_162_25 ?_
        refine jx_aload_n dX12_tellOne_250 rfl ?_
        refine jx_geti dX12_tellOne_251 fl_X12_190 (kj_162 hE) sr_162_24 ?_
        obtain ⟨c73, hf⟩ := jg_inv hf
        refine jx_iald dX12_tellOne_254 (kj_175 hE) (jin_vp c73) ?_
        refine jx_iload_n dX12_tellOne_255 rfl ?_
        obtain ⟨c74, hf⟩ := jg_inv hf
        refine jx_iast dX12_tellOne_256 (kj_174 hE) (jin_vp c74) ?_
        obtain ⟨w75, hw75, hf⟩ := jl_inv hf
        refine jx_nw hw75 ?_
        refine jx_goto (tgt := 265) dX12_tellOne_257 (by decide) ?_
        refine jx_aload_n dX12_tellOne_265 rfl ?_
        refine jx_iconst (v := 4) dX12_tellOne_266 (by decide) ?_
        obtain ⟨q76, hq76, hf⟩ := jbd_inv hf
        refine jx_cVv (a := 162) (As := [.int 4]) (rest := []) dX12_tellOne_267 ml_X12_200 mv_X12_must (s_X12_must hE hq76) rfl rfl (jc_162 hE) (by decide) (Nat.le_of_ble_eq_true rfl) ?_
        refine jx_aload_n dX12_tellOne_270 rfl ?_
        refine jx_dup dX12_tellOne_271 rfl ?_
        refine jx_geti dX12_tellOne_272 fl_X12_187 (kj_162 hE) sr_162_18 ?_
        refine jx_iconst (v := 1) dX12_tellOne_275 (by decide) ?_
        refine jx_iadd dX12_tellOne_276 ?_
        refine jx_puti dX12_tellOne_277 fp_X12_187 (kj_162 hE) sr_162_18 rfl rfl ?_
        obtain ⟨w77, hw77, hf⟩ := jl_inv hf
        refine jx_nw hw77 ?_
        cases hf
        exact jx_vret dX12_tellOne_280 rfl rfl
      · rw [if_neg c67] at hf
        cases hf
        exact jx_vret dX12_tellOne_212 rfl rfl
    clear hf
    have hf := hqhJ66
    clear hqhJ66
    refine jx_if_ne (tgt := 205) dX12_tellOne_197 (by decide) (fun c64 => ?_) (fun c64 => ?_)
    · rw [if_neg c64] at hf
      cases hf
      exact hJ66
    · rw [if_pos c64] at hf
      refine jx_aload_n dX12_tellOne_200 rfl ?_
      refine jx_iconst (v := 1) dX12_tellOne_201 (by decide) ?_
      obtain ⟨q78, hq78, hf⟩ := jbd_inv hf
      refine jx_cVv (a := 162) (As := [.int 1]) (rest := []) dX12_tellOne_202 ml_X12_172 mv_X12_fail (s_X12_fail hE hq78) rfl rfl (jc_162 hE) (by decide) (Nat.le_of_ble_eq_true rfl) ?_
      cases hf
      exact hJ66
  rw [if_neg c63] at hf
  refine jx_tableOut (tgt := 260) dX12_tellOne_32 (by omega) (by decide) ?_
  refine jx_aload_n dX12_tellOne_260 rfl ?_
  refine jx_iconst (v := 1) dX12_tellOne_261 (by decide) ?_
  obtain ⟨q79, hq79, hf⟩ := jbd_inv hf
  refine jx_cVv (a := 162) (As := [.int 1]) (rest := []) dX12_tellOne_262 ml_X12_172 mv_X12_fail (s_X12_fail hE hq79) rfl rfl (jc_162 hE) (by decide) (Nat.le_of_ble_eq_true rfl) ?_
  refine jx_aload_n dX12_tellOne_265 rfl ?_
  refine jx_iconst (v := 4) dX12_tellOne_266 (by decide) ?_
  obtain ⟨q80, hq80, hf⟩ := jbd_inv hf
  refine jx_cVv (a := 162) (As := [.int 4]) (rest := []) dX12_tellOne_267 ml_X12_200 mv_X12_must (s_X12_must hE hq80) rfl rfl (jc_162 hE) (by decide) (Nat.le_of_ble_eq_true rfl) ?_
  refine jx_aload_n dX12_tellOne_270 rfl ?_
  refine jx_dup dX12_tellOne_271 rfl ?_
  refine jx_geti dX12_tellOne_272 fl_X12_187 (kj_162 hE) sr_162_18 ?_
  refine jx_iconst (v := 1) dX12_tellOne_275 (by decide) ?_
  refine jx_iadd dX12_tellOne_276 ?_
  refine jx_puti dX12_tellOne_277 fp_X12_187 (kj_162 hE) sr_162_18 rfl rfl ?_
  obtain ⟨w81, hw81, hf⟩ := jl_inv hf
  refine jx_nw hw81 ?_
  cases hf
  exact jx_vret dX12_tellOne_280 rfl rfl
def l_X12_read_215 : Nat → Int32 → Int32 → jw → Option (Int32 × jw)
  | 0, _, _, _ => none
  | n + 1, b1, b2, w => (if 3 ≤ b2 then jbd (f_X12_runs  w) fun q2 => some (0, q2) else jg (jin b2 3) (jl (jsetX w 191 (Int32.toNatClampNeg b2) 0) fun w4 => jl (b2 + 1) fun x5 => (l_X12_read_215 n b1 x5 w4)))
set_option maxRecDepth 20000 in
set_option maxHeartbeats 2000000 in
theorem sl_X12_read_215 {E : jE} (hE : jfull E) : ∀ (n : Nat) (b1 : Int32) (b2 : Int32) (w : jw) (v : Int32) (w' : jw), l_X12_read_215 n b1 b2 w = some (v, w') → jX E m_X12_read 7 215 [(0, .ref (E.2.2.2 + 162)), (1, .int b1), (2, .int b2)] [] w (some (.int v)) w' := by
  intro n
  induction n with
  | zero => intro b1 b2 w v w' hf; cases hf
  | succ n ih =>
    intro b1 b2 w v w' hf
    unfold l_X12_read_215 at hf
    refine jx_iload_n dX12_read_215 rfl ?_
    refine jx_iconst (v := 3) dX12_read_216 (by decide) ?_
    refine jx_icmp_ge (tgt := 233) dX12_read_217 (by decide) (fun c1 => ?_) (fun c1 => ?_)
    · rw [if_pos c1] at hf
      refine jx_aload_n dX12_read_233 rfl ?_
      obtain ⟨q2, hq2, hf⟩ := jbd_inv hf
      refine jx_cVv (a := 162) (As := []) (rest := []) dX12_read_234 ml_X12_206 mv_X12_runs (s_X12_runs hE hq2) rfl rfl (jc_162 hE) (by decide) (Nat.le_of_ble_eq_true rfl) ?_
      refine jx_iconst (v := 0) dX12_read_237 (by decide) ?_
      cases hf
      exact jx_iret dX12_read_238 rfl rfl
    · rw [if_neg c1] at hf
      refine jx_aload_n dX12_read_220 rfl ?_
      refine jx_getr dX12_read_221 fl_X12_104 (kj_162 hE) sr_162_46 ?_
      refine jx_iload_n dX12_read_224 rfl ?_
      refine jx_iconst (v := 0) dX12_read_225 (by decide) ?_
      obtain ⟨c3, hf⟩ := jg_inv hf
      refine jx_zast dX12_read_226 (kj_191 hE) (jin_vp c3) rfl ?_
      obtain ⟨w4, hw4, hf⟩ := jl_inv hf
      refine jx_nw hw4 ?_
      obtain ⟨x5, hx5, hf⟩ := jl_inv hf
      refine jx_iinc (v := x5) (ls' := [(0, .ref (E.2.2.2 + 162)), (1, .int b1), (2, .int x5)]) dX12_read_227 rfl (by rw [hx5]; rfl) (by decide) rfl ?_
      refine jx_goto (tgt := 215) dX12_read_230 (by decide) ?_
      exact ih _ _ _ _ _ hf
def l_X12_read_110 : Nat → Int32 → jw → Option (Int32 × jw)
  | 0, _, _ => none
  | n + 1, b1, w => (if (w.1 162 13) = 0 then jbd2 (f_X12_is 0 w) fun x21 w22 => (if (jb x21) = 0 then jbd (f_X12_tellOne  w22) fun q37 => (l_X12_read_110 n b1 q37) else jbd (if (w22.1 162 13) = 0 then (if (w22.1 162 24) ≤ 0 then some w22 else jbd (f_X12_fail 1 w22) fun q36 => some q36) else some w22) fun w25 => jbd (if (w25.1 162 13) ≤ 0 then (if (w25.1 162 15) ≤ 0 then some ((-1) : Int32) else some (w25.1 162 16)) else some (w25.1 162 14)) fun x28 => jl (jsetI w25 162 17 x28) fun w30 => (if (w30.1 162 13) ≤ 0 then (if (w30.1 162 15) ≤ 0 then jbd (f_X12_begins b1 w30) fun q33 => (l_X12_read_215 jfu b1 0 q33) else some (w30.1 162 15, w30)) else some (w30.1 162 13, w30))) else jbd (if (w.1 162 13) = 0 then (if (w.1 162 24) ≤ 0 then some w else jbd (f_X12_fail 1 w) fun q19 => some q19) else some w) fun w8 => jbd (if (w8.1 162 13) ≤ 0 then (if (w8.1 162 15) ≤ 0 then some ((-1) : Int32) else some (w8.1 162 16)) else some (w8.1 162 14)) fun x11 => jl (jsetI w8 162 17 x11) fun w13 => (if (w13.1 162 13) ≤ 0 then (if (w13.1 162 15) ≤ 0 then jbd (f_X12_begins b1 w13) fun q16 => (l_X12_read_215 jfu b1 0 q16) else some (w13.1 162 15, w13)) else some (w13.1 162 13, w13)))
set_option maxRecDepth 20000 in
set_option maxHeartbeats 2000000 in
theorem sl_X12_read_110 {E : jE} (hE : jfull E) : ∀ (n : Nat) (b1 : Int32) (w : jw) (v : Int32) (w' : jw), l_X12_read_110 n b1 w = some (v, w') → jX E m_X12_read 7 110 [(0, .ref (E.2.2.2 + 162)), (1, .int b1)] [] w (some (.int v)) w' := by
  intro n
  induction n with
  | zero => intro b1 w v w' hf; cases hf
  | succ n ih =>
    intro b1 w v w' hf
    unfold l_X12_read_110 at hf
    refine jx_aload_n dX12_read_110 rfl ?_
    refine jx_geti dX12_read_111 fl_X12_157 (kj_162 hE) sr_162_13 ?_
    refine jx_if_ne (tgt := 132) dX12_read_114 (by decide) (fun c6 => ?_) (fun c6 => ?_)
    · rw [if_neg c6] at hf
      refine jx_aload_n dX12_read_132 rfl ?_
      refine jx_geti dX12_read_133 fl_X12_157 (kj_162 hE) sr_162_13 ?_
      obtain ⟨w8, hqhJ9, hf⟩ := jbd_inv hf
      have hJ9 : jX E m_X12_read 7 151 [(0, .ref (E.2.2.2 + 162)), (1, .int b1)] [] w8 (some (.int v)) w' := by
        refine jx_aload_n dX12_read_151 rfl ?_
        refine jx_aload_n dX12_read_152 rfl ?_
        refine jx_geti dX12_read_153 fl_X12_157 (kj_162 hE) sr_162_13 ?_
        obtain ⟨x11, hqhJ12, hf⟩ := jbd_inv hf
        have hJ12 : jX E m_X12_read 7 181 [(0, .ref (E.2.2.2 + 162)), (1, .int b1)] [.int x11, .ref (E.2.2.2 + 162)] w8 (some (.int v)) w' := by
          refine jx_puti dX12_read_181 fp_X12_37 (kj_162 hE) sr_162_17 rfl rfl ?_
          obtain ⟨w13, hw13, hf⟩ := jl_inv hf
          refine jx_nw hw13 ?_
          refine jx_aload_n dX12_read_184 rfl ?_
          refine jx_geti dX12_read_185 fl_X12_157 (kj_162 hE) sr_162_13 ?_
          refine jx_if_le (tgt := 196) dX12_read_188 (by decide) (fun c14 => ?_) (fun c14 => ?_)
          · rw [if_pos c14] at hf
            refine jx_aload_n dX12_read_196 rfl ?_
            refine jx_geti dX12_read_197 fl_X12_166 (kj_162 hE) sr_162_15 ?_
            refine jx_if_le (tgt := 208) dX12_read_200 (by decide) (fun c15 => ?_) (fun c15 => ?_)
            · rw [if_pos c15] at hf
              refine jx_aload_n dX12_read_208 rfl ?_
              refine jx_iload_n dX12_read_209 rfl ?_
              obtain ⟨q16, hq16, hf⟩ := jbd_inv hf
              refine jx_cVv (a := 162) (As := [.int b1]) (rest := []) dX12_read_210 ml_X12_116 mv_X12_begins (s_X12_begins hE hq16) rfl rfl (jc_162 hE) (by decide) (Nat.le_of_ble_eq_true rfl) ?_
              refine jx_iconst (v := 0) dX12_read_213 (by decide) ?_
              refine jx_istore_n (ls' := [(0, .ref (E.2.2.2 + 162)), (1, .int b1), (2, .int 0)]) dX12_read_214 (by decide) rfl ?_
              exact sl_X12_read_215 hE jfu _ _ _ _ _ hf
            · rw [if_neg c15] at hf
              refine jx_aload_n dX12_read_203 rfl ?_
              refine jx_geti dX12_read_204 fl_X12_166 (kj_162 hE) sr_162_15 ?_
              cases hf
              exact jx_iret dX12_read_207 rfl rfl
          · rw [if_neg c14] at hf
            refine jx_aload_n dX12_read_191 rfl ?_
            refine jx_geti dX12_read_192 fl_X12_157 (kj_162 hE) sr_162_13 ?_
            cases hf
            exact jx_iret dX12_read_195 rfl rfl
        clear hf
        have hf := hqhJ12
        clear hqhJ12
        refine jx_if_le (tgt := 166) dX12_read_156 (by decide) (fun c10 => ?_) (fun c10 => ?_)
        · rw [if_pos c10] at hf
          refine jx_aload_n dX12_read_166 rfl ?_
          refine jx_geti dX12_read_167 fl_X12_166 (kj_162 hE) sr_162_15 ?_
          refine jx_if_le (tgt := 180) dX12_read_170 (by decide) (fun c17 => ?_) (fun c17 => ?_)
          · rw [if_pos c17] at hf
            refine jx_iconst (v := (-1)) dX12_read_180 (by decide) ?_
            cases hf
            exact hJ12
          · rw [if_neg c17] at hf
            refine jx_aload_n dX12_read_173 rfl ?_
            refine jx_geti dX12_read_174 fl_X12_169 (kj_162 hE) sr_162_16 ?_
            refine jx_goto (tgt := 181) dX12_read_177 (by decide) ?_
            cases hf
            exact hJ12
        · rw [if_neg c10] at hf
          refine jx_aload_n dX12_read_159 rfl ?_
          refine jx_geti dX12_read_160 fl_X12_163 (kj_162 hE) sr_162_14 ?_
          refine jx_goto (tgt := 181) dX12_read_163 (by decide) ?_
          cases hf
          exact hJ12
      clear hf
      have hf := hqhJ9
      clear hqhJ9
      refine jx_if_ne (tgt := 151) dX12_read_136 (by decide) (fun c7 => ?_) (fun c7 => ?_)
      · rw [if_neg c7] at hf
        cases hf
        exact hJ9
      · rw [if_pos c7] at hf
        refine jx_aload_n dX12_read_139 rfl ?_
        refine jx_geti dX12_read_140 fl_X12_190 (kj_162 hE) sr_162_24 ?_
        refine jx_if_le (tgt := 151) dX12_read_143 (by decide) (fun c18 => ?_) (fun c18 => ?_)
        · rw [if_pos c18] at hf
          cases hf
          exact hJ9
        · rw [if_neg c18] at hf
          refine jx_aload_n dX12_read_146 rfl ?_
          refine jx_iconst (v := 1) dX12_read_147 (by decide) ?_
          obtain ⟨q19, hq19, hf⟩ := jbd_inv hf
          refine jx_cVv (a := 162) (As := [.int 1]) (rest := []) dX12_read_148 ml_X12_172 mv_X12_fail (s_X12_fail hE hq19) rfl rfl (jc_162 hE) (by decide) (Nat.le_of_ble_eq_true rfl) ?_
          cases hf
          exact hJ9
    · rw [if_pos c6] at hf
      refine jx_aload_n dX12_read_117 rfl ?_
      refine jx_iconst (v := 0) dX12_read_118 (by decide) ?_
      obtain ⟨x21, w22, hq20, hf⟩ := jbd2_inv hf
      refine jx_cVi (a := 162) (As := [.int 0]) (rest := []) dX12_read_119 ml_X12_175 mv_X12_is (s_X12_is hE hq20) rfl rfl (jc_162 hE) (by decide) (Nat.le_of_ble_eq_true rfl) ?_
      refine jx_if_ne (tgt := 132) dX12_read_122 (by decide) (fun c23 => ?_) (fun c23 => ?_)
      · rw [if_neg c23] at hf
        refine jx_aload_n dX12_read_132 rfl ?_
        refine jx_geti dX12_read_133 fl_X12_157 (kj_162 hE) sr_162_13 ?_
        obtain ⟨w25, hqhJ26, hf⟩ := jbd_inv hf
        have hJ26 : jX E m_X12_read 7 151 [(0, .ref (E.2.2.2 + 162)), (1, .int b1)] [] w25 (some (.int v)) w' := by
          refine jx_aload_n dX12_read_151 rfl ?_
          refine jx_aload_n dX12_read_152 rfl ?_
          refine jx_geti dX12_read_153 fl_X12_157 (kj_162 hE) sr_162_13 ?_
          obtain ⟨x28, hqhJ29, hf⟩ := jbd_inv hf
          have hJ29 : jX E m_X12_read 7 181 [(0, .ref (E.2.2.2 + 162)), (1, .int b1)] [.int x28, .ref (E.2.2.2 + 162)] w25 (some (.int v)) w' := by
            refine jx_puti dX12_read_181 fp_X12_37 (kj_162 hE) sr_162_17 rfl rfl ?_
            obtain ⟨w30, hw30, hf⟩ := jl_inv hf
            refine jx_nw hw30 ?_
            refine jx_aload_n dX12_read_184 rfl ?_
            refine jx_geti dX12_read_185 fl_X12_157 (kj_162 hE) sr_162_13 ?_
            refine jx_if_le (tgt := 196) dX12_read_188 (by decide) (fun c31 => ?_) (fun c31 => ?_)
            · rw [if_pos c31] at hf
              refine jx_aload_n dX12_read_196 rfl ?_
              refine jx_geti dX12_read_197 fl_X12_166 (kj_162 hE) sr_162_15 ?_
              refine jx_if_le (tgt := 208) dX12_read_200 (by decide) (fun c32 => ?_) (fun c32 => ?_)
              · rw [if_pos c32] at hf
                refine jx_aload_n dX12_read_208 rfl ?_
                refine jx_iload_n dX12_read_209 rfl ?_
                obtain ⟨q33, hq33, hf⟩ := jbd_inv hf
                refine jx_cVv (a := 162) (As := [.int b1]) (rest := []) dX12_read_210 ml_X12_116 mv_X12_begins (s_X12_begins hE hq33) rfl rfl (jc_162 hE) (by decide) (Nat.le_of_ble_eq_true rfl) ?_
                refine jx_iconst (v := 0) dX12_read_213 (by decide) ?_
                refine jx_istore_n (ls' := [(0, .ref (E.2.2.2 + 162)), (1, .int b1), (2, .int 0)]) dX12_read_214 (by decide) rfl ?_
                exact sl_X12_read_215 hE jfu _ _ _ _ _ hf
              · rw [if_neg c32] at hf
                refine jx_aload_n dX12_read_203 rfl ?_
                refine jx_geti dX12_read_204 fl_X12_166 (kj_162 hE) sr_162_15 ?_
                cases hf
                exact jx_iret dX12_read_207 rfl rfl
            · rw [if_neg c31] at hf
              refine jx_aload_n dX12_read_191 rfl ?_
              refine jx_geti dX12_read_192 fl_X12_157 (kj_162 hE) sr_162_13 ?_
              cases hf
              exact jx_iret dX12_read_195 rfl rfl
          clear hf
          have hf := hqhJ29
          clear hqhJ29
          refine jx_if_le (tgt := 166) dX12_read_156 (by decide) (fun c27 => ?_) (fun c27 => ?_)
          · rw [if_pos c27] at hf
            refine jx_aload_n dX12_read_166 rfl ?_
            refine jx_geti dX12_read_167 fl_X12_166 (kj_162 hE) sr_162_15 ?_
            refine jx_if_le (tgt := 180) dX12_read_170 (by decide) (fun c34 => ?_) (fun c34 => ?_)
            · rw [if_pos c34] at hf
              refine jx_iconst (v := (-1)) dX12_read_180 (by decide) ?_
              cases hf
              exact hJ29
            · rw [if_neg c34] at hf
              refine jx_aload_n dX12_read_173 rfl ?_
              refine jx_geti dX12_read_174 fl_X12_169 (kj_162 hE) sr_162_16 ?_
              refine jx_goto (tgt := 181) dX12_read_177 (by decide) ?_
              cases hf
              exact hJ29
          · rw [if_neg c27] at hf
            refine jx_aload_n dX12_read_159 rfl ?_
            refine jx_geti dX12_read_160 fl_X12_163 (kj_162 hE) sr_162_14 ?_
            refine jx_goto (tgt := 181) dX12_read_163 (by decide) ?_
            cases hf
            exact hJ29
        clear hf
        have hf := hqhJ26
        clear hqhJ26
        refine jx_if_ne (tgt := 151) dX12_read_136 (by decide) (fun c24 => ?_) (fun c24 => ?_)
        · rw [if_neg c24] at hf
          cases hf
          exact hJ26
        · rw [if_pos c24] at hf
          refine jx_aload_n dX12_read_139 rfl ?_
          refine jx_geti dX12_read_140 fl_X12_190 (kj_162 hE) sr_162_24 ?_
          refine jx_if_le (tgt := 151) dX12_read_143 (by decide) (fun c35 => ?_) (fun c35 => ?_)
          · rw [if_pos c35] at hf
            cases hf
            exact hJ26
          · rw [if_neg c35] at hf
            refine jx_aload_n dX12_read_146 rfl ?_
            refine jx_iconst (v := 1) dX12_read_147 (by decide) ?_
            obtain ⟨q36, hq36, hf⟩ := jbd_inv hf
            refine jx_cVv (a := 162) (As := [.int 1]) (rest := []) dX12_read_148 ml_X12_172 mv_X12_fail (s_X12_fail hE hq36) rfl rfl (jc_162 hE) (by decide) (Nat.le_of_ble_eq_true rfl) ?_
            cases hf
            exact hJ26
      · rw [if_pos c23] at hf
        refine jx_aload_n dX12_read_125 rfl ?_
        obtain ⟨q37, hq37, hf⟩ := jbd_inv hf
        refine jx_cVv (a := 162) (As := []) (rest := []) dX12_read_126 ml_X12_203 mv_X12_tellOne (s_X12_tellOne hE hq37) rfl rfl (jc_162 hE) (by decide) (Nat.le_of_ble_eq_true rfl) ?_
        refine jx_goto (tgt := 110) dX12_read_129 (by decide) ?_
        exact ih _ _ _ _ hf
def l_X12_read_10 : Nat → Int32 → jw → Option (Int32 × jw)
  | 0, _, _ => none
  | n + 1, b1, w => (if (w.1 162 4) ≤ b1 then jl (jsetI w 162 2 0) fun w39 => jbd (f_X12_cutsUp  w39) fun q40 => jl (jsetI q40 162 11 0) fun w41 => jl (jsetI w41 162 12 0) fun w42 => jl (jsetI w42 162 13 0) fun w43 => jl (jsetI w43 162 15 0) fun w44 => jl (jsetI w44 162 18 0) fun w45 => jl (jsetI w45 162 24 0) fun w46 => jl (jsetI w46 162 26 0) fun w47 => jbd2 (f_X12_is 20 w47) fun x49 w50 => (if (jb x49) = 0 then (l_X12_read_110 jfu 8 w50) else jbd (f_X12_goesOn  w50) fun q52 => jbd2 (f_X12_bounded 6 12 q52) fun x54 w55 => jbd (f_X12_must 4 w55) fun q56 => (l_X12_read_110 jfu x54 q56)) else jg (jin b1 2000) (jg (jin b1 2000) (jl (jsetX w 164 (Int32.toNatClampNeg b1) ((Int32.toInt8 (w.2.1 163 (Int32.toNatClampNeg b1))).toInt32)) fun w59 => jl (b1 + 1) fun x60 => (l_X12_read_10 n x60 w59))))
set_option maxRecDepth 20000 in
set_option maxHeartbeats 2000000 in
theorem sl_X12_read_10 {E : jE} (hE : jfull E) : ∀ (n : Nat) (b1 : Int32) (w : jw) (v : Int32) (w' : jw), l_X12_read_10 n b1 w = some (v, w') → jX E m_X12_read 7 10 [(0, .ref (E.2.2.2 + 162)), (1, .int b1)] [] w (some (.int v)) w' := by
  intro n
  induction n with
  | zero => intro b1 w v w' hf; cases hf
  | succ n ih =>
    intro b1 w v w' hf
    unfold l_X12_read_10 at hf
    refine jx_iload_n dX12_read_10 rfl ?_
    refine jx_aload_n dX12_read_11 rfl ?_
    refine jx_geti dX12_read_12 fl_X12_126 (kj_162 hE) sr_162_4 ?_
    refine jx_icmp_ge (tgt := 36) dX12_read_15 (by decide) (fun c38 => ?_) (fun c38 => ?_)
    · rw [if_pos c38] at hf
      refine jx_aload_n dX12_read_36 rfl ?_
      refine jx_iconst (v := 0) dX12_read_37 (by decide) ?_
      refine jx_puti dX12_read_38 fp_X12_120 (kj_162 hE) sr_162_2 rfl rfl ?_
      obtain ⟨w39, hw39, hf⟩ := jl_inv hf
      refine jx_nw hw39 ?_
      refine jx_aload_n dX12_read_41 rfl ?_
      obtain ⟨q40, hq40, hf⟩ := jbd_inv hf
      refine jx_cVv (a := 162) (As := []) (rest := []) dX12_read_42 ml_X12_181 mv_X12_cutsUp (s_X12_cutsUp hE hq40) rfl rfl (jc_162 hE) (by decide) (Nat.le_of_ble_eq_true rfl) ?_
      refine jx_aload_n dX12_read_45 rfl ?_
      refine jx_iconst (v := 0) dX12_read_46 (by decide) ?_
      refine jx_puti dX12_read_47 fp_X12_160 (kj_162 hE) sr_162_11 rfl rfl ?_
      obtain ⟨w41, hw41, hf⟩ := jl_inv hf
      refine jx_nw hw41 ?_
      refine jx_aload_n dX12_read_50 rfl ?_
      refine jx_iconst (v := 0) dX12_read_51 (by decide) ?_
      refine jx_puti dX12_read_52 fp_X12_184 (kj_162 hE) sr_162_12 rfl rfl ?_
      obtain ⟨w42, hw42, hf⟩ := jl_inv hf
      refine jx_nw hw42 ?_
      refine jx_aload_n dX12_read_55 rfl ?_
      refine jx_iconst (v := 0) dX12_read_56 (by decide) ?_
      refine jx_puti dX12_read_57 fp_X12_157 (kj_162 hE) sr_162_13 rfl rfl ?_
      obtain ⟨w43, hw43, hf⟩ := jl_inv hf
      refine jx_nw hw43 ?_
      refine jx_aload_n dX12_read_60 rfl ?_
      refine jx_iconst (v := 0) dX12_read_61 (by decide) ?_
      refine jx_puti dX12_read_62 fp_X12_166 (kj_162 hE) sr_162_15 rfl rfl ?_
      obtain ⟨w44, hw44, hf⟩ := jl_inv hf
      refine jx_nw hw44 ?_
      refine jx_aload_n dX12_read_65 rfl ?_
      refine jx_iconst (v := 0) dX12_read_66 (by decide) ?_
      refine jx_puti dX12_read_67 fp_X12_187 (kj_162 hE) sr_162_18 rfl rfl ?_
      obtain ⟨w45, hw45, hf⟩ := jl_inv hf
      refine jx_nw hw45 ?_
      refine jx_aload_n dX12_read_70 rfl ?_
      refine jx_iconst (v := 0) dX12_read_71 (by decide) ?_
      refine jx_puti dX12_read_72 fp_X12_190 (kj_162 hE) sr_162_24 rfl rfl ?_
      obtain ⟨w46, hw46, hf⟩ := jl_inv hf
      refine jx_nw hw46 ?_
      refine jx_aload_n dX12_read_75 rfl ?_
      refine jx_iconst (v := 0) dX12_read_76 (by decide) ?_
      refine jx_puti dX12_read_77 fp_X12_193 (kj_162 hE) sr_162_26 rfl rfl ?_
      obtain ⟨w47, hw47, hf⟩ := jl_inv hf
      refine jx_nw hw47 ?_
      refine jx_bipush (v := 8) dX12_read_80 (by decide) ?_
      refine jx_istore_n (ls' := [(0, .ref (E.2.2.2 + 162)), (1, .int 8)]) dX12_read_82 (by decide) rfl ?_
      refine jx_aload_n dX12_read_83 rfl ?_
      refine jx_bipush (v := 20) dX12_read_84 (by decide) ?_
      obtain ⟨x49, w50, hq48, hf⟩ := jbd2_inv hf
      refine jx_cVi (a := 162) (As := [.int 20]) (rest := []) dX12_read_86 ml_X12_175 mv_X12_is (s_X12_is hE hq48) rfl rfl (jc_162 hE) (by decide) (Nat.le_of_ble_eq_true rfl) ?_
      refine jx_if_eq (tgt := 110) dX12_read_89 (by decide) (fun c51 => ?_) (fun c51 => ?_)
      · rw [if_pos c51] at hf
        exact sl_X12_read_110 hE jfu _ _ _ _ hf
      · rw [if_neg c51] at hf
        refine jx_aload_n dX12_read_92 rfl ?_
        obtain ⟨q52, hq52, hf⟩ := jbd_inv hf
        refine jx_cVv (a := 162) (As := []) (rest := []) dX12_read_93 ml_X12_178 mv_X12_goesOn (s_X12_goesOn hE hq52) rfl rfl (jc_162 hE) (by decide) (Nat.le_of_ble_eq_true rfl) ?_
        refine jx_aload_n dX12_read_96 rfl ?_
        refine jx_bipush (v := 6) dX12_read_97 (by decide) ?_
        refine jx_bipush (v := 12) dX12_read_99 (by decide) ?_
        obtain ⟨x54, w55, hq53, hf⟩ := jbd2_inv hf
        refine jx_cVi (a := 162) (As := [.int 6, .int 12]) (rest := []) dX12_read_101 ml_X12_196 mv_X12_bounded (s_X12_bounded hE hq53) rfl rfl (jc_162 hE) (by decide) (Nat.le_of_ble_eq_true rfl) ?_
        refine jx_istore_n (ls' := [(0, .ref (E.2.2.2 + 162)), (1, .int x54)]) dX12_read_104 (by decide) rfl ?_
        refine jx_aload_n dX12_read_105 rfl ?_
        refine jx_iconst (v := 4) dX12_read_106 (by decide) ?_
        obtain ⟨q56, hq56, hf⟩ := jbd_inv hf
        refine jx_cVv (a := 162) (As := [.int 4]) (rest := []) dX12_read_107 ml_X12_200 mv_X12_must (s_X12_must hE hq56) rfl rfl (jc_162 hE) (by decide) (Nat.le_of_ble_eq_true rfl) ?_
        exact sl_X12_read_110 hE jfu _ _ _ _ hf
    · rw [if_neg c38] at hf
      refine jx_aload_n dX12_read_18 rfl ?_
      refine jx_getr dX12_read_19 fl_X12_17 (kj_162 hE) sr_162_3 ?_
      refine jx_iload_n dX12_read_22 rfl ?_
      refine jx_aload_n dX12_read_23 rfl ?_
      refine jx_getr dX12_read_24 fl_X12_13 (kj_162 hE) sr_162_1 ?_
      refine jx_iload_n dX12_read_27 rfl ?_
      obtain ⟨c57, hf⟩ := jg_inv hf
      refine jx_bald dX12_read_28 (kj_163 hE) (jin_vp c57) ?_
      obtain ⟨c58, hf⟩ := jg_inv hf
      refine jx_bast dX12_read_29 (kj_164 hE) (jin_vp c58) ?_
      obtain ⟨w59, hw59, hf⟩ := jl_inv hf
      refine jx_nw hw59 ?_
      obtain ⟨x60, hx60, hf⟩ := jl_inv hf
      refine jx_iinc (v := x60) (ls' := [(0, .ref (E.2.2.2 + 162)), (1, .int x60)]) dX12_read_30 rfl (by rw [hx60]; rfl) (by decide) rfl ?_
      refine jx_goto (tgt := 10) dX12_read_33 (by decide) ?_
      exact ih _ _ _ _ hf
def f_X12_read  (w : jw) : Option (Int32 × jw) := jl (jsetI w 162 4 (w.1 162 2)) fun w61 => (l_X12_read_10 jfu 0 w61)
set_option maxRecDepth 20000 in
set_option maxHeartbeats 2000000 in
theorem s_X12_read {E : jE} (hE : jfull E)  {w w' : jw} {v : Int32} (hf : f_X12_read  w = some (v, w')) : jC E m_X12_read 7 [.ref (E.2.2.2 + 162)] w (some (.int v)) w' := by
  refine jC_of (ls := [(0, .ref (E.2.2.2 + 162))]) (by decide) rfl (fun _ => trivial) (Nat.le_of_ble_eq_true rfl) rfl ⟨.int, rfl, rfl⟩ ?_
  unfold f_X12_read at hf
  refine jx_aload_n dX12_read_0 rfl ?_
  refine jx_aload_n dX12_read_1 rfl ?_
  refine jx_geti dX12_read_2 fl_X12_120 (kj_162 hE) sr_162_2 ?_
  refine jx_puti dX12_read_5 fp_X12_126 (kj_162 hE) sr_162_4 rfl rfl ?_
  obtain ⟨w61, hw61, hf⟩ := jl_inv hf
  refine jx_nw hw61 ?_
  refine jx_iconst (v := 0) dX12_read_8 (by decide) ?_
  refine jx_istore_n (ls' := [(0, .ref (E.2.2.2 + 162)), (1, .int 0)]) dX12_read_9 (by decide) rfl ?_
  exact sl_X12_read_10 hE jfu _ _ _ _ hf
