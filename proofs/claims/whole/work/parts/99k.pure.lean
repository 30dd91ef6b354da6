section
/-! tells: a do, in both parsers -/
theorem z_numF {T : List zT} {w : jw} (hC : zTC T w) {i : Nat} (hi : i < 1000) {f : Int32} (hf : f ≠ 0) (lo hi' : Int32) : ∃ x w', f_X7_takeNumber lo hi' (zpA w i f) = some (x, zpA w' i f) ∧ zfPc w w' := by
  have t0 := z_tkF hC hi 2 hf
  have w5 : zfPc w (jsetI w 10 5 (zt T i).2.1) := ⟨fun a ha => z_jI2 ha, rfl, rfl, fun _ _ _ _ => rfl, fun j hj => zI_ne hj⟩
  have t5 := z_tkF (zTC_c hC w5) hi 2 hf
  unfold f_X7_takeNumber
  rw [zpA_4, z_jl, z_aheadC hC hi, z_jbd2, zpA_5, zpA_4, show rat ((zpA w i f).2.2.2 8) (nI i) = (zt T i).2.1 from zTC_p hC (by omega), zpA_s5, t0, z_jbd, z_jl, t5, z_jbd]
  split
  · split
    · split
      · exact ⟨_, _, rfl, w5⟩
      · split
        · exact ⟨_, _, rfl, zfPc_rfl w⟩
        · exact ⟨_, _, rfl, w5⟩
    · exact ⟨_, _, rfl, zfPc_rfl w⟩
  · exact ⟨_, _, rfl, zfPc_rfl w⟩
def zrD (x1 x53 : Int32) (w54 : jw) : Option jw := jg (jin x1 210) (jl (jsetX w54 171 (Int32.toNatClampNeg x1) x53) fun w56 => jg (jin (w56.1 162 24) 3) (jl (jsetX w56 175 (Int32.toNatClampNeg (w56.1 162 24)) x1) fun w58 => jl (jsetI w58 162 24 ((w58.1 162 24) + 1)) fun w59 => jbd (f_X12_must 4 w59) fun q60 => jl (jsetI q60 162 18 ((q60.1 162 18) + 1)) fun w61 => some w61))
theorem zrDF {n d : Nat} (hn : n < 210) (hd : d < 3) {w : jw} (h : w.1 162 13 = 1 ∨ w.1 162 13 = 2) (h24 : w.1 162 24 = nI d) (x : Int32) : ∃ w', zrD (nI n) x w = some w' ∧ zSt13 w w' := by
  unfold zrD
  rw [z_jg (z_in hn (by decide)), z_jl, show (jsetX w 171 (Int32.toNatClampNeg (nI n)) x).1 162 24 = nI d from h24, z_jg (z_in hd (by decide)), z_jl, z_jl]
  rw [z_muF (by rw [zI_ne (by decide)]; exact h), z_jbd, z_jl]
  exact ⟨_, rfl, by rw [zI_ne (by decide), zI_ne (by decide)]; rfl, by rw [zI_ne (by decide), zI_ne (by decide)]; rfl, zfPm_trans (zfPm_X (by decide) (by decide)) (zfPm_trans (zfPm_X (by decide) (by decide)) (zfPm_trans (zfPm_I (by decide) (by decide)) (zfPm_I (by decide) (by decide))))⟩
theorem z_tellSelD {T : List zT} {wm : jw} {i n : Nat} (hT : zTRx T wm) (hi : i < T.length) (hl : T.length ≤ 401) (h11 : wm.1 162 11 = nI i) (h18 : wm.1 162 18 = nI n) (hn : n < 210) (hk : (zt T i).1 = kDo) : f_X12_tellOne wm = jbd (if (wm.1 162 24) = 3 then jbd (f_X12_fail 2 (jsetX wm 170 n 2)) fun q62 => some q62 else some (jsetX wm 170 n 2)) fun w48 => (if (w48.1 162 13) ≤ 0 then jbd (f_X12_goesOn w48) fun q51 => jbd2 (f_X12_bounded 0 99 q51) fun x53 w54 => zrD (nI n) x53 w54 else some w48) := by
  have gi : jin (nI i) 403 = true := z_in (by omega) (by decide)
  have gn : jin (nI n) 210 = true := z_in hn (by decide)
  unfold f_X12_tellOne
  rw [h18, z_jl, h11, z_jg gi, z_jg gn, nI_clamp (show i < 2 ^ 31 by omega), nI_clamp (show n < 2 ^ 31 by omega), z_jl]
  rw [show (jsetX wm 170 n (wm.2.1 165 i - 21)).1 162 11 = nI i from h11, z_jg gi, nI_clamp (show i < 2 ^ 31 by omega), z_jX2 (show 165 ≠ 170 by decide)]
  have r : wm.2.1 165 i = zkR (zt T i).1 := zR_r hT hi (by rw [hk]; decide)
  rw [r, hk, if_neg (by decide), if_neg (by decide), if_pos (by decide)]
  unfold zrD
  rw [show Int32.toNatClampNeg (nI n) = n from nI_clamp (by omega)]
  rfl
theorem z_tellDo {T : List zT} {n cb : Nat} {P : zPrg} {stk : List Nat} {w wm : jw} (tk : zTok T) (pl : zPl T) (h : zPS T n P stk cb w wm) (hk : (zt T (qps P n)).1 = kDo) : zTo T n w wm (f_X7_parseTell (zpA w (qps P n) 0)) (f_X12_tellOne wm) := by
  obtain ⟨hg, hwc, hwm, h11, h13, hwr, hi, h2n, hs3, hC, hT, h00, h01⟩ := h
  have hl := tk.2.1
  have nl : n < 210 := by omega
  have nk : (zt T (qps P n)).1 ≠ kStop ∧ (zt T (qps P n)).1 ≠ kNo := z_kne hk (by decide)
  have l11 : (w.2.2.2 11).length = stk.length := by rw [hwc.1, List.length_map, List.length_reverse]
  have f0 : zfPm wm (jsetX wm 170 n 2) := zfPm_X (by decide) (by decide)
  have eC : f_X7_parseTell (zpA w (qps P n) 0) = if stk.length < 3 then jbd (f_X7_take (zpA (jsetR w 11 (w.2.2.2 11 ++ [nI (qps P n)])) (qps P n) 0)) fun q4 => jbd2 (f_X7_takeNumber 0 99 q4) fun x6 w7 => jbd (f_X7_takeKind 59 w7) fun q8 => some q8 else some (zpA w (qps P n) 2) := by
    unfold f_X7_parseTell f_X7_parseDo
    rw [z_aheadC hC (by omega), z_jbd2, if_neg (by rw [hk]; decide), if_neg (by rw [hk]; decide), if_pos (by rw [hk]; decide), z_jsm]
    rw [show ((zpA w (qps P n) 0).2.2.2 11) = w.2.2.2 11 from rfl, l11, zpA_4, z_failC, z_jbd]
    by_cases c : stk.length < 3
    · rw [if_pos (show nI stk.length < 3 from nI_lt (b := 3) c (by decide)), if_pos c, z_jg (decide_eq_true (by omega)), z_jl]
      rfl
    · rw [if_neg (show ¬ nI stk.length < 3 from nI_nlt (b := 3) (by omega) (by omega)), if_neg c]
  rw [eC, z_tellSelD hT hi hl h11 hwm.1 nl hk, hwm.2.1]
  by_cases c3 : stk.length < 3
  · rw [if_pos c3, if_neg (show ¬ nI stk.length = 3 from fun z => by have := (nI_eq (a := stk.length) (b := 3) (by omega) (by decide)).mp z; omega), z_jbd, if_pos (show (jsetX wm 170 n 2).1 162 13 ≤ 0 from by show wm.1 162 13 ≤ 0; rw [h13]; decide)]
    have fc : zfPc w (jsetR w 11 (w.2.2.2 11 ++ [nI (qps P n)])) := ⟨fun _ _ => rfl, rfl, rfl, fun k k1 _ _ => z_jR2 k1, fun _ _ => rfl⟩
    have hC1 := zTC_c hC fc
    have hwr1 : zWr T (qps P n) (jsetR w 11 (w.2.2.2 11 ++ [nI (qps P n)])) wm := hwr
    have r11 : (jsetR w 11 (w.2.2.2 11 ++ [nI (qps P n)])).2.2.2 11 = w.2.2.2 11 ++ [nI (qps P n)] := z_jR1 _ _ _
    have r13 : (jsetR w 11 (w.2.2.2 11 ++ [nI (qps P n)])).2.2.2 13 = w.2.2.2 13 := z_jR2 (by decide)
    have r15 : (jsetR w 11 (w.2.2.2 11 ++ [nI (qps P n)])).2.2.2 15 = w.2.2.2 15 := z_jR2 (by decide)
    generalize hw1 : jsetR w 11 (w.2.2.2 11 ++ [nI (qps P n)]) = w1 at fc hC1 hwr1 r11 r13 r15 ⊢
    rcases z_go (w := w1) (wm := jsetX wm 170 n 2) tk (zTRx_m hT f0) hi h11 h13 nk.1 nk.2 with ⟨i4, i1, t1, t2⟩ | ⟨t1, t2⟩
    · rw [t1, z_jbd, t2, z_jbd]
      have f1 : zfPm wm (jsetI (jsetX wm 170 n 2) 162 11 (nI (qps P n + 1))) := zfPm_trans f0 (zfPm_I (by decide) (by decide))
      have hwr2 : zWr T (qps P n + 1) w1 (jsetI (jsetX wm 170 n 2) 162 11 (nI (qps P n + 1))) := by
        unfold zWr
        rw [zI_ne (by decide), zI_ne (by decide)]
        rcases hwr1 with z | ⟨t, z1, z2⟩
        · exact Or.inl z
        · exact Or.inr ⟨t, by omega, z2⟩
      rcases z_num (wm := jsetI (jsetX wm 170 n 2) 162 11 (nI (qps P n + 1))) tk pl hC1 (zTRx_m hT f1) i1 (zI_eq _ _ _ _) (by rw [zI_ne (by decide)]; exact h13) hwr2 0 99 with ⟨w2, wm2, b1, b2, b3, b4, b5, b6, b7, b8, b9, b10, b11, b12, b13, b14⟩ | ⟨f, x, x', w2, wm2, b1, b2, b3, b4, b5, b6, b7, b8, b9⟩
      · rw [b4, z_jbd2, b5, z_jbd2]
        unfold zrD
        have m24 : wm2.1 162 24 = nI stk.length := by rw [b11 24 (by decide) (by decide) (by decide), zI_ne (by decide)]; exact hwm.2.1
        rw [z_jg (z_in nl (by decide)), nI_clamp (show n < 2 ^ 31 by omega), z_jl, show (jsetX wm2 171 n (zt T (qps P n + 1)).2.2).1 162 24 = nI stk.length from m24, z_jg (z_in c3 (by decide)), nI_clamp (by omega), z_jl, z_jl]
        rw [show (jsetX (jsetX wm2 171 n (zt T (qps P n + 1)).2.2) 175 stk.length (nI n)).1 162 24 = nI stk.length from m24, nI_1]
        have g11 : (jsetI (jsetX (jsetX wm2 171 n (zt T (qps P n + 1)).2.2) 175 stk.length (nI n)) 162 24 (nI (stk.length + 1))).1 162 11 = nI (qps P n + 2) := by rw [zI_ne (by decide)]; exact b8
        have gI : ∀ j, j ≠ 24 → j ≠ 11 → j ≠ 15 → j ≠ 16 → (jsetI (jsetX (jsetX wm2 171 n (zt T (qps P n + 1)).2.2) 175 stk.length (nI n)) 162 24 (nI (stk.length + 1))).1 162 j = wm.1 162 j := fun j j1 j2 j3 j4 => by rw [zI_ne j1]; show wm2.1 162 j = _; rw [b11 j j2 j3 j4, zI_ne j2]; rfl
        have gW : ∀ j, j = 15 ∨ j = 16 → (jsetI (jsetX (jsetX wm2 171 n (zt T (qps P n + 1)).2.2) 175 stk.length (nI n)) 162 24 (nI (stk.length + 1))).1 162 j = wm2.1 162 j := fun j hj => by rw [zI_ne (by omega)]; rfl
        have g24 : (jsetI (jsetX (jsetX wm2 171 n (zt T (qps P n + 1)).2.2) 175 stk.length (nI n)) 162 24 (nI (stk.length + 1))).1 162 24 = nI (stk.length + 1) := zI_eq _ _ _ _
        have gm : zfPm wm (jsetI (jsetX (jsetX wm2 171 n (zt T (qps P n + 1)).2.2) 175 stk.length (nI n)) 162 24 (nI (stk.length + 1))) := zfPm_trans f1 (zfPm_trans b10 (zfPm_trans (zfPm_X (by decide) (by decide)) (zfPm_trans (zfPm_X (by decide) (by decide)) (zfPm_I (by decide) (by decide)))))
        have gX : ∀ k, (jsetI (jsetX (jsetX wm2 171 n (zt T (qps P n + 1)).2.2) 175 stk.length (nI n)) 162 24 (nI (stk.length + 1))).2.1 k = if k = 175 then zup (wm.2.1 175) stk.length (nI n) else if k = 171 then zup (wm.2.1 171) n (zt T (qps P n + 1)).2.2 else if k = 170 then zup (wm.2.1 170) n 2 else wm.2.1 k := fun k => by
          show (jsetX (jsetX wm2 171 n (zt T (qps P n + 1)).2.2) 175 stk.length (nI n)).2.1 k = _
          have e2 : wm2.2.1 = (jsetX wm 170 n 2).2.1 := by rw [b12]; rfl
          by_cases k5 : k = 175
          · rw [if_pos k5, k5, z_jX1, z_jX2 (by decide), e2, z_jX2 (by decide)]
          · rw [if_neg k5, z_jX2 k5]
            by_cases k1 : k = 171
            · rw [if_pos k1, k1, z_jX1, e2, z_jX2 (by decide)]
            · rw [if_neg k1, z_jX2 k1, e2]
              by_cases k0 : k = 170
              · rw [if_pos k0, k0, z_jX1]
              · rw [if_neg k0, z_jX2 k0]
        generalize hwa : jsetI (jsetX (jsetX wm2 171 n (zt T (qps P n + 1)).2.2) 175 stk.length (nI n)) 162 24 (nI (stk.length + 1)) = wa at g11 gI gW g24 gm gX ⊢
        have fc2 : zfPc w w2 := zfPc_trans fc b9
        have hC2 := zTC_c hC fc2
        have g13 : wa.1 162 13 = 0 := by rw [gI 13 (by decide) (by decide) (by decide) (by decide)]; exact h13
        rcases z_must (w := w2) (b := kSemi) tk hC2 (zTRx_m hT gm) b3 g11 g13 (by decide) with ⟨a1, a2, a3, a4, a5⟩ | ⟨f, a1, a2, a3⟩
        · rw [show f_X7_takeKind 59 (zpA w2 (qps P n + 1 + 1) 0) = _ from a4, z_jbd, show f_X12_must 4 wa = _ from a5, z_jbd, z_jl]
          rw [show (jsetI wa 162 11 (nI (qps P n + 1 + 1 + 1))).1 162 18 = nI n from by rw [zI_ne (by decide), gI 18 (by decide) (by decide) (by decide) (by decide)]; exact hwm.1, nI_1]
          obtain ⟨x1, x2, x3, x4, x5, x6, x7, x8, x9, x10, x11⟩ := hwm
          obtain ⟨d1, d2, d3, d4, d5, d6, d7⟩ := hwc
          have wmF : zfPm wm (jsetI (jsetI wa 162 11 (nI (qps P n + 1 + 1 + 1))) 162 18 (nI (n + 1))) := zfPm_trans gm (zfPm_trans (zfPm_I (by decide) (by decide)) (zfPm_I (by decide) (by decide)))
          let P' : zPrg := (zup (qso P) n 2, zup (qps P) (n + 1) (qps P n + 3), zup (qpa P) (n + 1) (n + 1), qmt P, zup (qdp P) (n + 1) (qdp P n + 1), zup (qvv P) n (zt T (qps P n + 1)).2.2, qc1 P, qc2 P, qcf P, zup (qac P) n false)
          have k1 : ∀ q, q < n → qso P' q = qso P q := fun q hq => zup_ne (by omega)
          have k2 : ∀ q, q ≤ n → qps P' q = qps P q := fun q hq => zup_ne (by omega)
          have k3 : ∀ q, q ≤ n → qpa P' q = qpa P q := fun q hq => zup_ne (by omega)
          have k4 : ∀ q, q ≤ n → qdp P' q = qdp P q := fun q hq => zup_ne (by omega)
          have k5 : ∀ q, q < n → qvv P' q = qvv P q := fun q hq => zup_ne (by omega)
          have k6 : ∀ q, q < n → qac P' q = qac P q := fun q hq => zup_ne (by omega)
          have sn : qso P' n = 2 := zup_eq _ _ _
          have pn1 : qps P' (n + 1) = qps P n + 3 := zup_eq _ _ _
          have vn : qvv P' n = (zt T (qps P n + 1)).2.2 := zup_eq _ _ _
          have an : qac P' n = false := zup_eq _ _ _
          have keep : zKeep n P P' := ⟨k1, fun q hq => ⟨k2 q hq, k3 q hq, k4 q hq⟩, fun q hq => ⟨k5 q hq, rfl, rfl, rfl⟩⟩
          have td : zTd T P' n := ⟨sn, by rw [k2 n (Nat.le_refl _)]; exact hk, by rw [k2 n (Nat.le_refl _), vn], by rw [k2 n (Nat.le_refl _)]; exact pn1, zup_eq _ _ _, by rw [k4 n (Nat.le_refl _)]; exact zup_eq _ _ _, by rw [k4 n (Nat.le_refl _), zStk_dp hg.2.2.2.2.2.2.1]; omega⟩
          have hg' := zPg_do hg keep (fun _ => rfl) k6 an td
          have g170 : wa.2.1 170 = zup (wm.2.1 170) n 2 := by rw [gX, if_neg (by decide), if_neg (by decide), if_pos rfl]
          have g171 : wa.2.1 171 = zup (wm.2.1 171) n (zt T (qps P n + 1)).2.2 := by rw [gX, if_neg (by decide), if_pos rfl]
          have g175 : wa.2.1 175 = zup (wm.2.1 175) stk.length (nI n) := by rw [gX, if_pos rfl]
          have gO : ∀ k, k ≠ 170 → k ≠ 171 → k ≠ 175 → wa.2.1 k = wm.2.1 k := fun k h1 h2 h3 => by rw [gX, if_neg h3, if_neg h2, if_neg h1]
          refine Or.inl ⟨P', n :: stk, cb, w2, _, by rw [pn1], rfl, ⟨hg', ⟨?_, by rw [b13, r13]; exact d2, by rw [b13, r15]; exact d3, ?_, ?_, ?_, ?_⟩, ⟨by rw [zI_eq], ?_, ?_, ?_, by rw [pn1]; omega, ?_, ?_, ?_, ?_, ?_, ?_⟩, ?_, ?_, ?_, by rw [pn1]; exact a3, by rw [pn1]; omega, by rw [List.length_cons]; omega, hC2, zTRx_m hT wmF, by rw [k2 0 (by omega)]; exact h00, fun z => h01 (by rw [zI_ne (by decide), zI_ne (by decide), gW 15 (by omega)] at z; have := b14 z; rw [zI_ne (by decide)] at this; exact this)⟩, fc2, wmF⟩
          · rw [b13, r11, d1, List.reverse_cons, List.map_append]
            congr 1
            · refine List.map_congr_left fun x hx => ?_
              have := (zStk_lt hg.2.2.2.2.2.2.1 x (List.mem_reverse.mp hx)).1
              rw [k2 x (by omega)]
            · show _ = [nI (qps P' n)]
              rw [k2 n (Nat.le_refl _)]
          · intro p hp s3
            by_cases c : p = n
            · rw [c, sn] at s3; omega
            · rw [k1 p (by omega)] at s3
              have ml : qmt P p < p := by
                rcases hg.1 p (by omega) with z | z | ⟨z, _⟩
                · have := z.1; omega
                · have := z.1; omega
                · exact z.2.2.2.1
              rw [b13, r13, k2 p (by omega), show qmt P' p = qmt P p from rfl, k2 (qmt P p) (by omega)]
              exact d4 p (by omega) s3
          · intro p hp s2
            rw [b13, r15]
            by_cases c : p = n
            · rw [c, an, k2 n (Nat.le_refl _), if_neg (by decide)]
              exact d6 _ (Nat.le_refl _)
            · rw [k1 p (by omega)] at s2
              rw [k2 p (by omega), k6 p (by omega)]
              exact d5 p (by omega) s2
          · intro q hq
            rw [pn1] at hq
            rw [b13, r15]
            exact d6 q (by omega)
          · intro p hp
            by_cases c : p = n
            · rw [c, pn1, k2 n (Nat.le_refl _)]; omega
            · rw [k2 p (by omega), k2 (p + 1) (by omega)]; exact d7 p (by omega)
          · rw [zI_ne (by decide), zI_ne (by decide), List.length_cons]; exact g24
          · rw [zI_ne (by decide), zI_ne (by decide), gI 26 (by decide) (by decide) (by decide) (by decide)]; exact x3
          · rw [zI_ne (by decide), zI_ne (by decide), gI 12 (by decide) (by decide) (by decide) (by decide)]; exact x4
          · intro p hp
            show wa.2.1 170 p = _
            rw [g170]
            by_cases c : p = n
            · rw [c, sn, zup_eq]; rfl
            · rw [k1 p (by omega), zup_ne c]; exact x6 p (by omega)
          · intro p hp s1
            show wa.2.1 171 p = _ ∧ wa.2.1 172 p = _ ∧ wa.2.1 173 p = _ ∧ zCm _ _ wa ∧ zCm _ _ wa ∧ _
            by_cases c : p = n
            · rw [c, sn] at s1; omega
            · rw [k1 p (by omega)] at s1
              obtain ⟨y1, y2, y3, y4, y5, y6⟩ := x7 p (by omega) s1
              have cq : ∀ q, q < cb → wa.2.1 176 q = wm.2.1 176 q ∧ wa.2.1 177 q = wm.2.1 177 q := fun q _ => by rw [gO 176 (by decide) (by decide) (by decide), gO 177 (by decide) (by decide) (by decide)]; exact ⟨rfl, rfl⟩
              rw [g171, zup_ne c, gO 172 (by decide) (by decide) (by decide), gO 173 (by decide) (by decide) (by decide)]
              exact ⟨y1, y2, y3, zCm_fr y4 (show qcf P p + (qc1 P p).length ≤ cb by omega) cq, zCm_fr y5 (show qcf P p + (qc1 P p).length + (qc2 P p).length ≤ cb by omega) cq, y6⟩
          · intro p hp s2
            show wa.2.1 171 p = _
            rw [g171]
            by_cases c : p = n
            · rw [c, zup_eq, vn]
            · rw [k1 p (by omega)] at s2
              rw [zup_ne c, k5 p (by omega)]
              exact x8 p (by omega) s2
          · intro p hp s3
            show wa.2.1 174 p = _ ∧ wa.2.1 174 (qmt P p) = _
            by_cases c : p = n
            · rw [c, sn] at s3; omega
            · rw [k1 p (by omega)] at s3
              rw [gO 174 (by decide) (by decide) (by decide)]
              exact x9 p (by omega) s3
          · intro a x hx
            show wa.2.1 175 a = _
            rw [g175]
            rw [List.reverse_cons] at hx
            by_cases c : a = stk.length
            · rw [c, zup_eq]
              rw [c, List.getElem?_append_right (by rw [List.length_reverse]; exact Nat.le_refl _), List.length_reverse, Nat.sub_self] at hx
              cases hx
              rfl
            · have al : a < (stk.reverse ++ [n]).length := (List.getElem?_eq_some_iff.mp hx).1
              rw [List.length_append, List.length_reverse, List.length_singleton] at al
              rw [List.getElem?_append_left (by rw [List.length_reverse]; omega)] at hx
              rw [zup_ne c]
              exact x10 a x hx
          · intro z p hp s2
            rw [zI_ne (by decide), zI_ne (by decide), gW 15 (by omega)] at z
            by_cases c : p = n
            · rw [c, vn]
              obtain ⟨y1, y2⟩ := b7 z
              obtain ⟨m, m1, m2⟩ := nI_of (show ¬ (zt T (qps P n + 1)).2.2 < 0 from Int32.not_lt.mpr y1)
              refine ⟨m, ?_, m2⟩
              rw [m2, Int32.le_iff_toInt_le, nI_toInt m1] at y2
              have e9 : (99 : Int32).toInt = 99 := rfl
              omega
            · rw [k1 p (by omega)] at s2
              have z0 : wm.1 162 15 = 0 := by
                rcases hwr2 with ⟨_, q⟩ | ⟨t, t1, t2, t3, t4⟩
                · rw [zI_ne (by decide)] at q; exact q
                · have := b14 z; rw [zI_ne (by decide)] at this; exact this
              rw [k5 p (by omega)]
              exact x11 z0 p (by omega) s2
          · rw [zI_ne (by decide), zI_eq, pn1]
          · rw [zI_ne (by decide), zI_ne (by decide)]; exact g13
          · unfold zWr
            rw [zI_ne (by decide), zI_ne (by decide), zI_ne (by decide), zI_ne (by decide), gW 15 (by omega), gW 16 (by omega), pn1]
            rcases b6 with z | ⟨t, z1, z2⟩
            · exact Or.inl z
            · exact Or.inr ⟨t, by omega, z2⟩
        · rw [show f_X7_takeKind 59 (zpA w2 (qps P n + 1 + 1) 0) = _ from a2, z_jbd, show f_X12_must 4 wa = _ from a3, z_jbd, z_jl]
          obtain ⟨v1, v2⟩ := zR_f wa f (zt T (qps P n + 1 + 1)).2.1
          exact Or.inr (zFail_mk (wm1 := jsetI (jsetI wa 162 13 f) 162 14 (zt T (qps P n + 1 + 1)).2.1) a1 b3 rfl rfl v1 v2 ⟨zI_ne (by decide), zI_ne (by decide), zfPm_I (by decide) (by decide)⟩ fc2 (zfPm_trans gm (zfPm_trans (zfPm_I (by decide) (by decide)) (zfPm_I (by decide) (by decide)))))
      · obtain ⟨wz, g1, g2⟩ := zrDF nl c3 (w := wm2) (by rw [b4]; exact b1) (by rw [b9 24 (by decide) (by decide) (by decide) (by decide) (by decide), zI_ne (by decide)]; exact hwm.2.1) x'
        rw [b2, z_jbd2, z_tkF (zTC_c hC1 b6) (by omega) 59 (zf12 b1).1, z_jbd, b3, z_jbd2, g1]
        exact Or.inr (zFail_mk b1 i1 rfl rfl b4 b5 g2 (zfPc_trans fc b6) (zfPm_trans f1 b7))
    · obtain ⟨v1, v2⟩ := zR_f (jsetX wm 170 n 2) 2 (zt T (qps P n)).2.1
      obtain ⟨x, w2, b1, b2⟩ := z_numF hC1 (show qps P n < 1000 by omega) (f := 2) (by decide) 0 99
      have bF : f_X12_bounded 0 99 (jsetI (jsetI (jsetX wm 170 n 2) 162 13 2) 162 14 (zt T (qps P n)).2.1) = some (0, jsetI (jsetI (jsetX wm 170 n 2) 162 13 2) 162 14 (zt T (qps P n)).2.1) := by
        unfold f_X12_bounded
        rw [v1, if_pos (by decide), z_failR2 (by rw [v1]; decide), z_jbd]
      obtain ⟨wz, g1, g2⟩ := zrDF nl c3 (w := jsetI (jsetI (jsetX wm 170 n 2) 162 13 2) 162 14 (zt T (qps P n)).2.1) (Or.inr v1) (by rw [zI_ne (by decide), zI_ne (by decide)]; exact hwm.2.1) 0
      rw [t1, z_jbd, b1, z_jbd2, z_tkF (zTC_c hC1 b2) (by omega) 59 (by decide), z_jbd, t2, z_jbd, bF, z_jbd2, g1]
      exact Or.inr (zFail_mk (Or.inr rfl) hi rfl rfl v1 v2 g2 (zfPc_trans fc b2) (zfPm_trans f0 (zfPm_trans (zfPm_I (by decide) (by decide)) (zfPm_I (by decide) (by decide)))))
  · have s3 : stk.length = 3 := by omega
    obtain ⟨v1, v2⟩ := zR_f (jsetX wm 170 n 2) 2 (zt T (qps P n)).2.1
    rw [if_neg c3, if_pos (show nI stk.length = 3 by rw [s3]; rfl), z_failR (w := jsetX wm 170 n 2) (zTRx_m hT f0) h13 h11 hi hl, z_jbd, z_jbd, if_neg (by rw [v1]; decide)]
    exact Or.inr ⟨w, qps P n, 2, _, Or.inr rfl, hi, rfl, rfl, v1, v2, zfPc_rfl w, zfPm_trans f0 (zfPm_trans (zfPm_I (by decide) (by decide)) (zfPm_I (by decide) (by decide)))⟩
end
