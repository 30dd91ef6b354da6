section
theorem z_tellAct {T : List zT} {n cb : Nat} {P : zPrg} {stk : List Nat} {w wm : jw} (tk : zTok T) (h : zPS T n P stk cb w wm) (hk : (zt T (qps P n)).1 = kPut ∨ (zt T (qps P n)).1 = kCut) : zTo T n w wm (f_X7_parseTell (zpA w (qps P n) 0)) (f_X12_tellOne wm) := by
  have h0 := h
  obtain ⟨hg, hwc, hwm, h11, h13, hwr, hi, h2n, hs3, hC, hT, h00, h01⟩ := h
  have hl := tk.2.1
  have nl : n < 210 := by omega
  obtain ⟨w1, m1, m2, m3, m4, m5, m6, m7, m8⟩ := z_mark hg hwc hi hl (qps P n) 0
  have hC1 := zTC_c hC m2
  have nk : (zt T (qps P n)).1 ≠ kStop ∧ (zt T (qps P n)).1 ≠ kNo := by rcases hk with z | z <;> rw [z] <;> decide
  obtain ⟨s, hs, hs2, hks⟩ : ∃ s : Nat, s ≤ 1 ∧ (if (zt T (qps P n)).1 = kPut then 0 else 1) = s ∧ (zt T (qps P n)).1 = if s = 0 then kPut else kCut := by
    rcases hk with z | z
    · exact ⟨0, by decide, by rw [if_pos z], by rw [z]; rfl⟩
    · exact ⟨1, by decide, by rw [if_neg (by rw [z]; decide)], by rw [z]; rfl⟩
  have eC : f_X7_parseTell (zpA w (qps P n) 0) = jbd (f_X7_take (zpA w1 (qps P n) 0)) (fun q6 => jbd (f_X7_parseExpression q6) fun q7 => jbd (zc2 s q7) fun q8 => jbd (f_X7_takeKind 59 q8) fun q9 => some q9) := by
    unfold f_X7_parseTell zc2
    rw [z_aheadC hC (by omega), z_jbd2, m1, z_jbd, z_jbd]
    rcases hk with z | z
    · rw [if_pos (by rw [z]; decide), show s = 0 by rw [← hs2, if_pos z]]
      simp only [if_pos, z_jas, z_jbd]
    · rw [if_neg (by rw [z]; decide), if_pos (by rw [z]; decide), show s = 1 by rw [← hs2, if_neg (by rw [z]; decide)]]
      simp only [if_neg (show ¬ (1 : Nat) = 0 by decide), z_jbd]
  rw [eC, z_tellSel hT hi hl h11 hwm.1 nl hk, show (nI (if (zt T (qps P n)).1 = kPut then 0 else 1)) = nI s from by rw [hs2]]
  have f0 : zfPm wm (jsetX wm 170 n (nI s)) := zfPm_X (by decide) (by decide)
  have a0 : zAr n cb wm (jsetX wm 170 n (nI s)) := zAr_X (by decide) (by decide)
  rcases z_go (w := w1) (wm := jsetX wm 170 n (nI s)) tk (zTRx_m hT f0) hi h11 h13 nk.1 nk.2 with ⟨i4, i1, t1, t2⟩ | ⟨t1, t2⟩
  · rw [t1, z_jbd, t2, z_jbd]
    have f1 : zfPm wm (jsetX (jsetI (jsetX wm 170 n (nI s)) 162 11 (nI (qps P n + 1))) 171 n (nI cb)) := zfPm_trans f0 (zfPm_trans (zfPm_I (by decide) (by decide)) (zfPm_X (by decide) (by decide)))
    have a1 : zAr n cb wm (jsetX (jsetI (jsetX wm 170 n (nI s)) 162 11 (nI (qps P n + 1))) 171 n (nI cb)) := zAr_trans a0 (zAr_trans (zAr_I (by decide)) (zAr_X (by decide) (by decide)))
    have u11 : (jsetX (jsetI (jsetX wm 170 n (nI s)) 162 11 (nI (qps P n + 1))) 171 n (nI cb)).1 162 11 = nI (qps P n + 1) := by show (jsetI (jsetX wm 170 n (nI s)) 162 11 (nI (qps P n + 1))).1 162 11 = _; rw [zI_eq]
    have u12 : (jsetX (jsetI (jsetX wm 170 n (nI s)) 162 11 (nI (qps P n + 1))) 171 n (nI cb)).1 162 12 = 0 := by show (jsetI (jsetX wm 170 n (nI s)) 162 11 (nI (qps P n + 1))).1 162 12 = _; rw [zI_ne (by decide)]; exact hwm.2.2.2.1
    have u13 : (jsetX (jsetI (jsetX wm 170 n (nI s)) 162 11 (nI (qps P n + 1))) 171 n (nI cb)).1 162 13 = 0 := by show (jsetI (jsetX wm 170 n (nI s)) 162 11 (nI (qps P n + 1))).1 162 13 = _; rw [zI_ne (by decide)]; exact h13
    have u26 : (jsetX (jsetI (jsetX wm 170 n (nI s)) 162 11 (nI (qps P n + 1))) 171 n (nI cb)).1 162 26 = nI cb := by show (jsetI (jsetX wm 170 n (nI s)) 162 11 (nI (qps P n + 1))).1 162 26 = _; rw [zI_ne (by decide)]; exact hwm.2.2.1
    have u170 : (jsetX (jsetI (jsetX wm 170 n (nI s)) 162 11 (nI (qps P n + 1))) 171 n (nI cb)).2.1 170 n = nI s := by rw [z_jX2 (by decide)]; show (jsetX wm 170 n (nI s)).2.1 170 n = _; rw [z_jX1, zup_eq]
    have u171 : (jsetX (jsetI (jsetX wm 170 n (nI s)) 162 11 (nI (qps P n + 1))) 171 n (nI cb)).2.1 171 n = nI cb := by rw [z_jX1, zup_eq]
    have r1 : zr1 (nI n) (jsetI (jsetX wm 170 n (nI s)) 162 11 (nI (qps P n + 1))) = jbd (f_X12_expression (jsetX (jsetI (jsetX wm 170 n (nI s)) 162 11 (nI (qps P n + 1))) 171 n (nI cb))) fun w11 => zr2 (nI n) w11 := by
      unfold zr1
      rw [z_jg (z_in nl (by decide)), nI_clamp (show n < 2 ^ 31 by omega), show (jsetI (jsetX wm 170 n (nI s)) 162 11 (nI (qps P n + 1))).1 162 26 = nI cb from by rw [zI_ne (by decide)]; exact hwm.2.2.1, z_jl, if_pos u13, z_jsm]
    rw [r1]
    generalize hq : jsetX (jsetI (jsetX wm 170 n (nI s)) 162 11 (nI (qps P n + 1))) 171 n (nI cb) = w6 at f1 a1 u11 u12 u13 u26 u170 u171 ⊢
    rcases z_expr (cb := cb) tk hC1 i1 (zTRx_m hT f1) u11 u12 u13 u26 (by have := hwm.2.2.2.2.1; omega) with ⟨j, c, w7, b1, b2, b3, b4, b5, b6, b7, b8, b9, b10, b11⟩ | ⟨j, f, w7, b1, b2, b3, b4, b5, b6, b7⟩
    · rw [b1, z_jbd, b2, z_jbd]
      have f2 : zfPm wm (jsetX w7 172 n (nI (cb + c.length))) := zfPm_trans f1 (zfPm_trans (zfPm_E b11) (zfPm_X (by decide) (by decide)))
      have a2 : zAr n cb wm (jsetX w7 172 n (nI (cb + c.length))) := zAr_trans a1 (zAr_trans (zAr_E b11 (Nat.le_refl _)) (zAr_X (by decide) (by decide)))
      have v170 : (jsetX w7 172 n (nI (cb + c.length))).2.1 170 n = nI s := by rw [z_jX2 (by decide), b11.2.2.2.1 170 (by decide) (by decide) (by decide)]; exact u170
      have v171 : (jsetX w7 172 n (nI (cb + c.length))).2.1 171 n = nI cb := by rw [z_jX2 (by decide), b11.2.2.2.1 171 (by decide) (by decide) (by decide)]; exact u171
      have v172 : (jsetX w7 172 n (nI (cb + c.length))).2.1 172 n = nI (cb + c.length) := by rw [z_jX1, zup_eq]
      have r2 : zr2 (nI n) w7 = jbd (if s = 0 then jbd (f_X12_expression (jsetX w7 172 n (nI (cb + c.length)))) fun q24 => some q24 else some (jsetX w7 172 n (nI (cb + c.length)))) fun w16 => zr3 (nI n) w16 := by
        unfold zr2
        rw [z_jg (z_in nl (by decide)), nI_clamp (show n < 2 ^ 31 by omega), b9.1, z_jl, if_pos (show (jsetX w7 172 n (nI (cb + c.length))).1 162 13 = 0 from b8), z_jg (z_in nl (by decide)), v170]
        by_cases s0 : s = 0
        · rw [if_pos (by rw [s0]; rfl), if_pos s0]
        · rw [if_neg (show ¬ nI s = 0 from fun z => s0 ((nI_eq (a := s) (b := 0) (by omega) (by decide)).mp z)), if_neg s0]
      have cm1 : zCm cb c (jsetX w7 172 n (nI (cb + c.length))) := fun a x hx => by rw [z_jX2 (by decide), z_jX2 (by decide)]; exact b9.2 a x hx
      rw [r2]
      by_cases s0 : s = 0
      · rw [if_pos s0, z_jsm, show zc2 s (zpA w1 j 0) = f_X7_parseExpression (zpA w1 j 0) from by unfold zc2; rw [if_pos s0, z_jsm]]
        rcases z_expr (cb := cb + c.length) (wm := jsetX w7 172 n (nI (cb + c.length))) tk hC1 b4 (zTRx_m hT f2) b6 b7 b8 b9.1 b10 with ⟨j', c', w9, d1, d2, d3, d4, d5, d6, d7, d8, d9, d10, d11⟩ | ⟨j', f, w9, d1, d2, d3, d4, d5, d6, d7⟩
        · rw [d1, z_jbd, d2, z_jbd]
          refine z_actEnd tk h0 hs hks m2 m3 m4 m5 m6 m7 m8 b5 (Or.inl ⟨s0, d5⟩) (by omega) (by omega) d4 d6 d7 d8 d9.1 d10 (zfPm_trans f2 (zfPm_E d11)) (zAr_trans a2 (zAr_E d11 (by omega))) (by rw [d11.2.2.2.1 170 (by decide) (by decide) (by decide)]; exact v170) (by rw [d11.2.2.2.1 171 (by decide) (by decide) (by decide)]; exact v171) (by rw [d11.2.2.2.1 172 (by decide) (by decide) (by decide)]; exact v172) (zCm_fr cm1 (Nat.le_refl _) d11.2.2.2.2) d9.2
        · obtain ⟨w', g1, g2⟩ := zr3F nl (w := w9) (by rw [d5]; exact d1)
          rw [d3, z_jbd, d4, z_jbd, z_tkF hC1 (by omega) 59 (zf12 d1).1, z_jbd, g1]
          exact Or.inr (zFail_mk d1 d2 rfl rfl d5 d6 g2 m2 (zfPm_trans f2 (zfPm_E d7)))
      · rw [if_neg s0, z_jbd, show zc2 s (zpA w1 j 0) = some (zpA w1 j 0) from by unfold zc2; rw [if_neg s0], z_jbd]
        refine z_actEnd (c2 := []) tk h0 hs hks m2 m3 m4 m5 m6 m7 m8 b5 (Or.inr ⟨by omega, rfl, rfl⟩) (by omega) (Nat.le_refl _) b4 b6 b7 b8 b9.1 b10 f2 a2 v170 v171 v172 cm1 (fun a x hx => by cases hx)
    · obtain ⟨w', g1, g2⟩ := zr2F nl (w := w7) (by rw [b5]; exact b1)
      rw [b3, z_jbd, zc2F s w1 j (zf12 b1).1, z_jbd, z_tkF hC1 (by omega) 59 (zf12 b1).1, z_jbd, b4, z_jbd, g1]
      exact Or.inr (zFail_mk b1 b2 rfl rfl b5 b6 g2 m2 (zfPm_trans f1 (zfPm_E b7)))
  · obtain ⟨v1, v2⟩ := zR_f (jsetX wm 170 n (nI s)) 2 (zt T (qps P n)).2.1
    obtain ⟨w', g1, g2⟩ := zr1F nl (w := jsetI (jsetI (jsetX wm 170 n (nI s)) 162 13 2) 162 14 (zt T (qps P n)).2.1) (Or.inr v1)
    rw [t1, z_jbd, z_exF w1 _ (by decide), z_jbd, zc2F s w1 _ (by decide), z_jbd, z_tkF hC1 (by omega) 59 (by decide), z_jbd, t2, z_jbd, g1]
    exact Or.inr (zFail_mk (Or.inr rfl) hi rfl rfl v1 v2 g2 m2 (zfPm_trans f0 (zfPm_trans (zfPm_I (by decide) (by decide)) (zfPm_I (by decide) (by decide)))))
end
