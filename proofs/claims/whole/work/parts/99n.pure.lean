section
/-! a whole text: both parsers to its end -/
theorem zpA_self {v : jw} {i : Nat} {f : Int32} (h1 : v.1 10 4 = nI i) (h2 : v.1 10 6 = f) : zpA v i f = v := by
  unfold zpA jsetI
  refine Prod.ext ?_ rfl
  funext p q
  show (if p = 10 ∧ q = 6 then f else if p = 10 ∧ q = 4 then nI i else v.1 p q) = v.1 p q
  by_cases c : p = 10 ∧ q = 6
  · rw [if_pos c, c.1, c.2, h2]
  · rw [if_neg c]
    by_cases d : p = 10 ∧ q = 4
    · rw [if_pos d, d.1, d.2, h1]
    · rw [if_neg d]
/-- the class's end of parsing -/
def zcEn (w : jw) : Option jw := if (w.1 10 6) = 0 then (if (w.1 10 5) = (-1) then some w else jl (jsetI w 10 6 5) fun w4 => jl (jsetI w4 10 7 (w4.1 10 5)) fun w5 => some w5) else jl (jsetI w 10 7 (rat (w.2.2.2 8) (w.1 10 4))) fun w6 => some w6
/-- the reference's -/
def zRt (nf : Nat) (b1 : Int32) (w8 : jw) : Option (Int32 × jw) := jbd (if (w8.1 162 13) ≤ 0 then (if (w8.1 162 15) ≤ 0 then some ((-1) : Int32) else some (w8.1 162 16)) else some (w8.1 162 14)) fun x11 => jl (jsetI w8 162 17 x11) fun w13 => (if (w13.1 162 13) ≤ 0 then (if (w13.1 162 15) ≤ 0 then jbd (f_X12_begins b1 w13) fun q16 => (l_X12_read_215F nf jfu b1 0 q16) else some (w13.1 162 15, w13)) else some (w13.1 162 13, w13))
def zfPn (w w' : jw) : Prop := w'.2.2 = w.2.2 ∧ (∀ a, a ≠ 162 → w'.1 a = w.1 a) ∧ w'.1 162 2 = w.1 162 2 ∧ ∀ p, (p < 170 ∨ 178 < p) → w'.2.1 p = w.2.1 p
theorem zfPn_m {w w' : jw} (h : zfPm w w') : zfPn w w' := ⟨h.1, h.2.1, h.2.2.1, h.2.2.2.2⟩
theorem zfPn_17 {w w' : jw} {x : Int32} (h : zfPm w w') : zfPn w (jsetI w' 162 17 x) := ⟨h.1, fun a ha => by rw [z_jI2 ha, h.2.1 a ha], by rw [zI_ne (by decide)]; exact h.2.2.1, h.2.2.2.2⟩
/-- only the Parser's own fields and rows changed -/
def zfPo (w w' : jw) : Prop := (∀ a, a ≠ 10 → w'.1 a = w.1 a) ∧ w'.2.1 = w.2.1 ∧ w'.2.2.1 = w.2.2.1 ∧ ∀ k, k ≠ 11 → k ≠ 13 → k ≠ 15 → w'.2.2.2 k = w.2.2.2 k
theorem zfPo_A {w w' : jw} (h : zfPc w w') (i : Nat) (f : Int32) : zfPo w (zpA w' i f) := ⟨fun a ha => by unfold zpA; rw [z_jI2 ha, z_jI2 ha, h.1 a ha], h.2.1, h.2.2.1, h.2.2.2.1⟩
theorem zfPo_I {w w' : jw} (h : zfPo w w') (j : Nat) (x : Int32) : zfPo w (jsetI w' 10 j x) := ⟨fun a ha => by rw [z_jI2 ha, h.1 a ha], h.2.1, h.2.2.1, h.2.2.2⟩
def zPout (T : List zT) (w wm : jw) (rc : Option jw) (rm : Nat → Int32 → Option (Int32 × jw)) : Prop :=
  (∃ N P cb w' wm', rc = some (zpA w' (qps P N) 0) ∧ (∀ nf b1, rm nf b1 = zRt nf b1 wm') ∧ zPS T N P [] cb w' wm' ∧ (zt T (qps P N)).1 = kStop ∧ wm'.1 162 15 = 0 ∧ w'.1 10 5 = -1 ∧ zfPc w w' ∧ zfPm wm wm') ∨
  ∃ f pl v' wm', f ≠ 0 ∧ rc = some v' ∧ v'.1 10 6 = f ∧ v'.1 10 7 = pl ∧ (∀ nf b1, rm nf b1 = some (f, wm')) ∧ wm'.1 162 17 = pl ∧ zfPo w v' ∧ zfPn wm wm'
theorem zPout_F {T : List zT} {w wm : jw} {rc : Option jw} {rm : Nat → Int32 → Option (Int32 × jw)} {w' wm' : jw} {j : Nat} {f : Int32} (hC : zTC T w) (hf : f = 1 ∨ f = 2) (hj : j < T.length) (hl : T.length ≤ 401) (c1 : rc = zcEn (zpA w' j f)) (c2 : ∀ nf b1, rm nf b1 = zRt nf b1 wm') (h1 : wm'.1 162 13 = f) (h2 : wm'.1 162 14 = (zt T j).2.1) (h3 : zfPc w w') (h4 : zfPm wm wm') : zPout T w wm rc rm := by
  have f0 := zf12 hf
  refine Or.inr ⟨f, (zt T j).2.1, jsetI (zpA w' j f) 10 7 (zt T j).2.1, jsetI wm' 162 17 (zt T j).2.1, f0.1, ?_, ?_, zI_eq _ _ _ _, fun nf b1 => ?_, zI_eq _ _ _ _, zfPo_I (zfPo_A h3 j f) 7 _, zfPn_17 h4⟩
  · rw [c1]
    unfold zcEn
    rw [zpA_6, if_neg f0.1, zpA_4, show rat ((zpA w' j f).2.2.2 8) (nI j) = (zt T j).2.1 from zTC_p (zTC_c hC h3) (by omega), z_jl]
  · rw [zI_ne (by decide), zpA_6]
  · rw [c2]
    unfold zRt
    rw [h1, if_neg f0.2, z_jbd, h2, z_jl, show (jsetI wm' 162 17 (zt T j).2.1).1 162 13 = f from by rw [zI_ne (by decide)]; exact h1, if_neg f0.2]
theorem z_pAf (w : jw) (n : Nat) (b1 : Int32) {f : Int32} (i : Nat) (hf : f ≠ 0) : l_X7_parseAll (n + 1) b1 (zpA w i f) = zcEn (zpA w i f) := by
  rw [show l_X7_parseAll (n + 1) b1 (zpA w i f) = _ from by unfold l_X7_parseAll; exact rfl]
  by_cases c : 400 < b1
  · rw [if_pos c]; rfl
  · rw [if_neg c, if_neg (show ¬ (zpA w i f).1 10 6 = 0 by rw [zpA_6]; exact hf)]; rfl
theorem z_r110F {wm : jw} (h : wm.1 162 13 = 1 ∨ wm.1 162 13 = 2) (nf n : Nat) (b1 : Int32) : l_X12_read_110F nf (n + 1) b1 wm = zRt nf b1 wm := by
  rw [show l_X12_read_110F nf (n + 1) b1 wm = _ from by unfold l_X12_read_110F; exact rfl]
  rw [if_neg (zf12 h).1, if_neg (zf12 h).1, z_jbd]
  rfl
theorem zkR_no : ∀ k : zK, k ≠ kPut → k ≠ kCut → k ≠ kDo → k ≠ kEn → (zkR k).toInt ≠ 21 ∧ (zkR k).toInt ≠ 22 ∧ (zkR k).toInt ≠ 23 ∧ (zkR k).toInt ≠ 24 ∧ (zkC k).toInt ≠ 4 ∧ (zkC k).toInt ≠ 5 ∧ (zkC k).toInt ≠ 6 ∧ (zkC k).toInt ≠ 7 := by decide
theorem z_tellNo {T : List zT} {n cb : Nat} {P : zPrg} {stk : List Nat} {w wm : jw} (tk : zTok T) (h : zPS T n P stk cb w wm) (k1 : (zt T (qps P n)).1 ≠ kPut) (k2 : (zt T (qps P n)).1 ≠ kCut) (k3 : (zt T (qps P n)).1 ≠ kDo) (k4 : (zt T (qps P n)).1 ≠ kEn) : zTo T n w wm (f_X7_parseTell (zpA w (qps P n) 0)) (f_X12_tellOne wm) := by
  obtain ⟨hg, hwc, hwm, h11, h13, hwr, hi, h2n, hs3, hC, hT, h00, h01⟩ := h
  have hl := tk.2.1
  have nl : n < 210 := by omega
  obtain ⟨r1, r2, r3, r4, c4, c5, c6, c7⟩ := zkR_no _ k1 k2 k3 k4
  have gi : jin (nI (qps P n)) 403 = true := z_in (by omega) (by decide)
  have gn : jin (nI n) 210 = true := z_in nl (by decide)
  have rr : (wm.2.1 165 (qps P n)).toInt ≠ 21 ∧ (wm.2.1 165 (qps P n)).toInt ≠ 22 ∧ (wm.2.1 165 (qps P n)).toInt ≠ 23 ∧ (wm.2.1 165 (qps P n)).toInt ≠ 24 := by
    rcases (hT _ _ (zt_some hi)).1 with z | ⟨_, z⟩
    · rw [z]; exact ⟨r1, r2, r3, r4⟩
    · rw [z]; decide
  unfold f_X7_parseTell f_X12_tellOne
  rw [z_aheadC hC (by omega), z_jbd2, if_neg c4, if_neg c5, if_neg c6, if_neg c7, z_failC, z_jbd]
  rw [hwm.1, z_jl, h11, z_jg gi, z_jg gn, nI_clamp (show qps P n < 2 ^ 31 by omega), nI_clamp (show n < 2 ^ 31 by omega), z_jl]
  rw [show (jsetX wm 170 n (wm.2.1 165 (qps P n) - 21)).1 162 11 = nI (qps P n) from h11, z_jg gi, nI_clamp (show qps P n < 2 ^ 31 by omega), z_jX2 (show 165 ≠ 170 by decide), if_neg rr.1, if_neg rr.2.1, if_neg rr.2.2.1, if_neg rr.2.2.2]
  have f0 : zfPm wm (jsetX wm 170 n (wm.2.1 165 (qps P n) - 21)) := zfPm_X (by decide) (by decide)
  obtain ⟨v1, v2⟩ := zR_f (jsetX wm 170 n (wm.2.1 165 (qps P n) - 21)) 1 (zt T (qps P n)).2.1
  rw [z_failR (w := jsetX wm 170 n (wm.2.1 165 (qps P n) - 21)) (zTRx_m hT f0) h13 h11 hi hl, z_jbd, z_muF (Or.inl v1), z_jbd, z_jl]
  exact Or.inr (zFail_mk (wm1 := jsetI (jsetI (jsetX wm 170 n (wm.2.1 165 (qps P n) - 21)) 162 13 1) 162 14 (zt T (qps P n)).2.1) (Or.inl rfl) hi rfl rfl v1 v2 ⟨zI_ne (by decide), zI_ne (by decide), zfPm_I (by decide) (by decide)⟩ (zfPc_rfl w) (zfPm_trans f0 (zfPm_trans (zfPm_I (by decide) (by decide)) (zfPm_I (by decide) (by decide)))))
theorem z_parseL {T : List zT} (tk : zTok T) (pl : zPl T) : ∀ (m n nc nr : Nat) (P : zPrg) (stk : List Nat) (cb : Nat) (w wm : jw), n + m = 201 → zPS T n P stk cb w wm → m < nc → m < nr → zPout T w wm (l_X7_parseAll nc (nI n) (zpA w (qps P n) 0)) (fun nf b1 => l_X12_read_110F nf nr b1 wm) := by
  intro m
  induction m with
  | zero =>
    intro n nc nr P stk cb w wm g1 g2 g3 g4
    have := tk.2.1
    have := g2.2.2.2.2.2.2.1
    have := g2.2.2.2.2.2.2.2.1
    omega
  | succ m ih =>
    intro n nc nr P stk cb w wm g1 g2 g3 g4
    have hl := tk.2.1
    have g2' := g2
    obtain ⟨hg, hwc, hwm, h11, h13, hwr, hi, h2n, hs3, hC, hT, h00, h01⟩ := g2
    obtain ⟨nc, rfl⟩ : ∃ k, nc = k + 1 := ⟨nc - 1, by omega⟩
    obtain ⟨nr, rfl⟩ : ∃ k, nr = k + 1 := ⟨nr - 1, by omega⟩
    have is0 : f_X12_is 0 wm = some (decide ((zt T (qps P n)).1 = kStop), wm) := by
      rw [z_isR hT h13 h11 hi hl]
      exact congrArg (fun b => some (b, wm)) (z_isK (b := kStop) hT hi (by decide))
    have l11 : (w.2.2.2 11).length = stk.length := by rw [hwc.1, List.length_map, List.length_reverse]
    have ec : l_X7_parseAll (nc + 1) (nI n) (zpA w (qps P n) 0) = if (zt T (qps P n)).1 = kStop ∧ stk.length = 0 then zcEn (zpA w (qps P n) 0) else jbd (f_X7_parseTell (zpA w (qps P n) 0)) fun q22 => l_X7_parseAll nc (nI (n + 1)) q22 := by
      rw [show l_X7_parseAll (nc + 1) (nI n) (zpA w (qps P n) 0) = _ from by unfold l_X7_parseAll; exact rfl]
      rw [if_neg (show ¬ (400 : Int32) < nI n from nI_nlt (a := 400) (by omega) (by decide)), if_pos (show (zpA w (qps P n) 0).1 10 6 = 0 from zpA_6 _ _ _)]
      have ea : f_X7_atEnd (zpA w (qps P n) 0) = some (decide ((zt T (qps P n)).1 = kStop ∧ stk.length = 0), zpA w (qps P n) 0) := by
        unfold f_X7_atEnd
        rw [z_aheadC hC (by omega), z_jbd2]
        by_cases c : (zt T (qps P n)).1 = kStop
        · rw [if_pos (show zkC _ = 0 by rw [c]; rfl), show ((zpA w (qps P n) 0).2.2.2 11).length = stk.length from l11]
          by_cases d : stk.length = 0
          · rw [if_pos (by rw [d]; rfl), decide_eq_true ⟨c, d⟩]
          · rw [if_neg (show ¬ nI stk.length = 0 from fun z => d ((nI_eq (a := stk.length) (b := 0) (by omega) (by decide)).mp z)), decide_eq_false (fun z => d z.2)]
        · rw [if_neg (show ¬ zkC _ = 0 from fun z => c (zkC_eq.mp z)), decide_eq_false (fun z => c z.1)]
      rw [ea, z_jbd2]
      by_cases c : (zt T (qps P n)).1 = kStop ∧ stk.length = 0
      · rw [decide_eq_true c, if_neg (show ¬ jb true = 0 by decide), if_pos c]; rfl
      · rw [decide_eq_false c, if_pos (show jb false = 0 from rfl), if_neg c]
        simp only [z_jl, nI_1]
    have er : ∀ nf b1, l_X12_read_110F nf (nr + 1) b1 wm = if (zt T (qps P n)).1 = kStop then jbd (if stk.length = 0 then some wm else jbd (f_X12_fail 1 wm) fun q36 => some q36) (zRt nf b1) else jbd (f_X12_tellOne wm) fun q37 => l_X12_read_110F nf nr b1 q37 := fun nf b1 => by
      rw [show l_X12_read_110F nf (nr + 1) b1 wm = _ from by unfold l_X12_read_110F; exact rfl]
      rw [if_pos h13, is0, z_jbd2]
      by_cases c : (zt T (qps P n)).1 = kStop
      · rw [decide_eq_true c, if_neg (show ¬ jb true = 0 by decide), if_pos c, if_pos h13, hwm.2.1]
        by_cases d : stk.length = 0
        · rw [if_pos (show nI stk.length ≤ 0 by rw [d]; decide), if_pos d]; rfl
        · rw [if_neg (show ¬ nI stk.length ≤ 0 from nI_ge (a := 0) (by omega) (by omega)), if_neg d]; rfl
      · rw [decide_eq_false c, if_pos (show jb false = 0 from rfl), if_neg c]
    rw [ec, show (fun nf b1 => l_X12_read_110F nf (nr + 1) b1 wm) = _ from funext fun nf => funext fun b1 => er nf b1]
    obtain ⟨nc', rfl⟩ : ∃ k, nc = k + 1 := ⟨nc - 1, by omega⟩
    obtain ⟨nr', rfl⟩ : ∃ k, nr = k + 1 := ⟨nr - 1, by omega⟩
    by_cases c : (zt T (qps P n)).1 = kStop
    · by_cases d : stk.length = 0
      · have sn : stk = [] := List.length_eq_zero_iff.mp d
        subst sn
        rw [if_pos ⟨c, d⟩]
        rcases hwr with ⟨z1, z2⟩ | ⟨t, t1, z1, z2, z3⟩
        · refine Or.inl ⟨n, P, cb, w, wm, ?_, fun nf b1 => by dsimp only; rw [if_pos c, if_pos d, z_jbd], g2', c, z2, z1, zfPc_rfl w, zfPm_rfl wm⟩
          unfold zcEn
          rw [zpA_6, if_pos rfl, zpA_5, if_pos z1]
        · have tl : t < T.length := by omega
          obtain ⟨fp, fp1, fp2⟩ := pl
          have pt : (zt T t).2.1 ≠ -1 := fun z => by
            rw [(fp1 t tl).1] at z
            exact nI_pos (show fp t < 2 ^ 31 by have := (fp1 t tl).2; omega) (by rw [z]; decide)
          refine Or.inr ⟨5, (zt T t).2.1, jsetI (zpA w (qps P n) 5) 10 7 (zt T t).2.1, jsetI wm 162 17 (zt T t).2.1, by decide, ?_, by rw [zI_ne (by decide), zpA_6], zI_eq _ _ _ _, fun nf b1 => ?_, zI_eq _ _ _ _, zfPo_I (zfPo_A (zfPc_rfl w) _ _) 7 _, zfPn_17 (zfPm_rfl wm)⟩
          · unfold zcEn
            rw [zpA_6, if_pos rfl, zpA_5, if_neg (by rw [z1]; exact pt), z_jl, zpA_s6, z_jl, zpA_5, z1]
          · dsimp only
            rw [if_pos c, if_pos d, z_jbd]
            unfold zRt
            rw [h13, if_pos (by decide), z2, if_neg (by decide), z_jbd, z3, z_jl, show (jsetI wm 162 17 (zt T t).2.1).1 162 13 = 0 from by rw [zI_ne (by decide)]; exact h13, if_pos (by decide), show (jsetI wm 162 17 (zt T t).2.1).1 162 15 = 5 from by rw [zI_ne (by decide)]; exact z2, if_neg (by decide)]
      · rw [if_neg (fun z => d z.2)]
        have ep : f_X7_parseTell (zpA w (qps P n) 0) = some (zpA w (qps P n) 1) := by
          unfold f_X7_parseTell
          rw [z_aheadC hC (by omega), z_jbd2, if_neg (by rw [c]; decide), if_neg (by rw [c]; decide), if_neg (by rw [c]; decide), if_neg (by rw [c]; decide), z_failC, z_jbd]
        rw [ep, z_jbd, z_pAf w nc' _ _ (by decide)]
        obtain ⟨v1, v2⟩ := zR_f wm 1 (zt T (qps P n)).2.1
        refine zPout_F hC (Or.inl rfl) hi hl rfl (fun nf b1 => ?_) v1 v2 (zfPc_rfl w) (zfPm_trans (zfPm_I (by decide) (by decide)) (zfPm_I (by decide) (by decide)))
        rw [if_pos c, if_neg d, z_failR hT h13 h11 hi hl, z_jbd, z_jbd]
    · rw [if_neg (fun z => c z.1)]
      have tt : zTo T n w wm (f_X7_parseTell (zpA w (qps P n) 0)) (f_X12_tellOne wm) := by
        by_cases k1 : (zt T (qps P n)).1 = kPut ∨ (zt T (qps P n)).1 = kCut
        · exact z_tellAct tk g2' k1
        · by_cases k2 : (zt T (qps P n)).1 = kDo
          · exact z_tellDo tk pl g2' k2
          · by_cases k3 : (zt T (qps P n)).1 = kEn
            · exact z_tellEnd tk g2' k3
            · exact z_tellNo tk g2' (fun z => k1 (Or.inl z)) (fun z => k1 (Or.inr z)) k2 k3
      rcases tt with ⟨P', stk', cb', w', wm', a1, a2, a3, a4, a5⟩ | ⟨w', j, f, wm', b1, b2, b3, b4, b5, b6, b7, b8⟩
      · rw [a1, z_jbd]
        have R := ih (n + 1) (nc' + 1) (nr' + 1) P' stk' cb' w' wm' (by omega) a3 (by omega) (by omega)
        rcases R with ⟨N, P2, cb2, w2, wm2, r1, r2, r3, r4, r5, r6, r7, r8⟩ | ⟨f, pl2, v2, wm2, r1, r2, r3, r4, r5, r6, r7, r8⟩
        · exact Or.inl ⟨N, P2, cb2, w2, wm2, r1, fun nf b1 => by dsimp only; rw [if_neg c, a2, z_jbd]; exact r2 nf b1, r3, r4, r5, r6, zfPc_trans a4 r7, zfPm_trans a5 r8⟩
        · refine Or.inr ⟨f, pl2, v2, wm2, r1, r2, r3, r4, fun nf b1 => by dsimp only; rw [if_neg c, a2, z_jbd]; exact r5 nf b1, r6, ⟨fun a ha => (r7.1 a ha).trans (a4.1 a ha), r7.2.1.trans a4.2.1, r7.2.2.1.trans a4.2.2.1, fun k k1 k2 k3 => (r7.2.2.2 k k1 k2 k3).trans (a4.2.2.2.1 k k1 k2 k3)⟩, ⟨r8.1.trans a5.1, fun a ha => (r8.2.1 a ha).trans (a5.2.1 a ha), r8.2.2.1.trans a5.2.2.1, fun p hp => (r8.2.2.2 p hp).trans (a5.2.2.2.2 p hp)⟩⟩
      · rw [b3, z_jbd, z_pAf w' nc' _ _ (zf12 b1).1]
        refine zPout_F hC b1 b2 hl rfl (fun nf b1' => ?_) b5 b6 b7 b8
        rw [if_neg c, b4, z_jbd, z_r110F (by rw [b5]; exact b1)]
end
