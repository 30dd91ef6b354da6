section
/-! tells: an end, in both parsers -/
theorem z_setD {l : List Int32} {i j : Nat} {x : Int32} (hi : i < l.length) : (l.set i x).getD j 0 = if j = i then x else l.getD j 0 := by
  rw [List.getD_eq_getElem?_getD, List.getElem?_set]
  by_cases c : j = i
  · rw [if_pos c.symm, if_pos (by omega), if_pos c]; rfl
  · rw [if_neg (fun z => c z.symm), if_neg c, List.getD_eq_getElem?_getD]
def zmkR (ps : Nat → Nat) (s : List Nat) (l : List Int32) : List Int32 := match s with
  | [] => l
  | y :: _ => l.set (ps y) 1
theorem z_mk0 {ps : Nat → Nat} {s : List Nat} {w : jw} (h : w.2.2.2 11 = s.reverse.map (fun x => nI (ps x))) (hl : s.length ≤ 400) (hp : ∀ y ∈ s, ps y < 1000) (i : Nat) (f : Int32) : f_X7_markAct (zpA w i f) = some (zpA (jsetR w 15 (zmkR ps s (w.2.2.2 15))) i f) := by
  unfold f_X7_markAct
  show (if (nI (w.2.2.2 11).length) ≤ 0 then some (zpA w i f) else jl (jsetR (zpA w i f) 15 (rset (w.2.2.2 15) (rat (w.2.2.2 11) ((nI (w.2.2.2 11).length) - 1)) 1)) fun w2 => some w2) = _
  cases s with
  | nil =>
    have l0 : (w.2.2.2 11).length = 0 := by rw [h]; rfl
    rw [l0, if_pos (by decide)]
    show some (zpA w i f) = some (zpA (jsetR w 15 (w.2.2.2 15)) i f)
    rw [z_jRs]
  | cons y s =>
    have ln : (w.2.2.2 11).length = s.length + 1 := by rw [h, List.length_map, List.length_reverse, List.length_cons]
    have rt : rat (w.2.2.2 11) (nI (s.length + 1) - 1) = nI (ps y) := by
      rw [show nI (s.length + 1) - 1 = nI s.length from pk_sub (b := 1) (by omega), z_rat (by rw [List.length_cons] at hl; omega), h, List.reverse_cons, List.map_append, List.getD_eq_getElem?_getD, List.getElem?_append_right (by rw [List.length_map, List.length_reverse]; exact Nat.le_refl _), List.length_map, List.length_reverse, Nat.sub_self]
      rfl
    have := hp y List.mem_cons_self
    rw [List.length_cons] at hl
    rw [ln, if_neg (show ¬ nI (s.length + 1) ≤ 0 from nI_ge (a := 0) (by omega) (by omega)), rt, z_rset (by omega), z_jl]
    rfl
def zrE (x1 : Int32) (q68 : jw) : Option jw := jl (jsetI q68 162 24 ((q68.1 162 24) - 1)) fun w69 => jg (jin (w69.1 162 24) 3) (jg (jin x1 210) (jl (jsetX w69 174 (Int32.toNatClampNeg x1) (w69.2.1 175 (Int32.toNatClampNeg (w69.1 162 24)))) fun w72 => jg (jin (w72.1 162 24) 3) (jg (jin (w72.2.1 175 (Int32.toNatClampNeg (w72.1 162 24))) 210) (jl (jsetX w72 174 (Int32.toNatClampNeg (w72.2.1 175 (Int32.toNatClampNeg (w72.1 162 24)))) x1) fun w75 => jbd (f_X12_must 4 w75) fun q76 => jl (jsetI q76 162 18 ((q76.1 162 18) + 1)) fun w77 => some w77))))
theorem zrE_e {n d x : Nat} (hn : n < 210) (hd : d < 3) (hx : x < 210) {w : jw} (h24 : w.1 162 24 = nI (d + 1)) (h175 : w.2.1 175 d = nI x) : zrE (nI n) w = jbd (f_X12_must 4 (jsetX (jsetX (jsetI w 162 24 (nI d)) 174 n (nI x)) 174 x (nI n))) fun q76 => jl (jsetI q76 162 18 ((q76.1 162 18) + 1)) fun w77 => some w77 := by
  unfold zrE
  rw [h24, show nI (d + 1) - 1 = nI d from pk_sub (b := 1) (by omega), z_jl, show (jsetI w 162 24 (nI d)).1 162 24 = nI d from zI_eq _ _ _ _, z_jg (z_in hd (by decide)), z_jg (z_in hn (by decide)), nI_clamp (show d < 2 ^ 31 by omega), nI_clamp (show n < 2 ^ 31 by omega), show (jsetI w 162 24 (nI d)).2.1 175 d = nI x from h175, z_jl]
  rw [show (jsetX (jsetI w 162 24 (nI d)) 174 n (nI x)).1 162 24 = nI d from by show (jsetI w 162 24 (nI d)).1 162 24 = _; rw [zI_eq], z_jg (z_in hd (by decide)), nI_clamp (show d < 2 ^ 31 by omega), show (jsetX (jsetI w 162 24 (nI d)) 174 n (nI x)).2.1 175 d = nI x from by rw [z_jX2 (by decide)]; exact h175, z_jg (z_in hx (by decide)), nI_clamp (show x < 2 ^ 31 by omega), z_jl]
theorem z_tellSelE {T : List zT} {wm : jw} {i n : Nat} (hT : zTRx T wm) (hi : i < T.length) (hl : T.length ≤ 401) (h11 : wm.1 162 11 = nI i) (h18 : wm.1 162 18 = nI n) (hn : n < 210) (hk : (zt T i).1 = kEn) : f_X12_tellOne wm = jbd (if (wm.1 162 24) = 0 then jbd (f_X12_fail 1 (jsetX wm 170 n 3)) fun q62 => some q62 else some (jsetX wm 170 n 3)) fun w48 => (if (w48.1 162 13) ≤ 0 then jbd (f_X12_goesOn w48) fun q51 => zrE (nI n) q51 else some w48) := by
  have gi : jin (nI i) 403 = true := z_in (by omega) (by decide)
  have gn : jin (nI n) 210 = true := z_in hn (by decide)
  unfold f_X12_tellOne
  rw [h18, z_jl, h11, z_jg gi, z_jg gn, nI_clamp (show i < 2 ^ 31 by omega), nI_clamp (show n < 2 ^ 31 by omega), z_jl]
  rw [show (jsetX wm 170 n (wm.2.1 165 i - 21)).1 162 11 = nI i from h11, z_jg gi, nI_clamp (show i < 2 ^ 31 by omega), z_jX2 (show 165 ≠ 170 by decide)]
  have r : wm.2.1 165 i = zkR (zt T i).1 := zR_r hT hi (by rw [hk]; decide)
  rw [r, hk, if_neg (by decide), if_neg (by decide), if_neg (by decide), if_pos (by decide)]
  unfold zrE
  rw [show Int32.toNatClampNeg (nI n) = n from nI_clamp (by omega)]
  rfl
theorem z_tellEnd {T : List zT} {n cb : Nat} {P : zPrg} {stk : List Nat} {w wm : jw} (tk : zTok T) (h : zPS T n P stk cb w wm) (hk : (zt T (qps P n)).1 = kEn) : zTo T n w wm (f_X7_parseTell (zpA w (qps P n) 0)) (f_X12_tellOne wm) := by
  obtain ⟨hg, hwc, hwm, h11, h13, hwr, hi, h2n, hs3, hC, hT, h00, h01⟩ := h
  have hl := tk.2.1
  have nl : n < 210 := by omega
  have nk : (zt T (qps P n)).1 ≠ kStop ∧ (zt T (qps P n)).1 ≠ kNo := z_kne hk (by decide)
  have l11 : (w.2.2.2 11).length = stk.length := by rw [hwc.1, List.length_map, List.length_reverse]
  have f0 : zfPm wm (jsetX wm 170 n 3) := zfPm_X (by decide) (by decide)
  have eC : f_X7_parseTell (zpA w (qps P n) 0) = f_X7_parseEnd (zpA w (qps P n) 0) := by
    unfold f_X7_parseTell
    rw [z_aheadC hC (by omega), z_jbd2, if_neg (by rw [hk]; decide), if_neg (by rw [hk]; decide), if_neg (by rw [hk]; decide), if_pos (by rw [hk]; decide), z_jsm]
  rw [eC, z_tellSelE hT hi hl h11 hwm.1 nl hk, hwm.2.1]
  unfold f_X7_parseEnd
  rw [show ((zpA w (qps P n) 0).2.2.2 11) = w.2.2.2 11 from rfl, l11]
  cases stk with
  | nil =>
    obtain ⟨v1, v2⟩ := zR_f (jsetX wm 170 n 3) 1 (zt T (qps P n)).2.1
    rw [if_pos (by decide), z_failC, z_jbd, if_pos (by decide), z_failR (w := jsetX wm 170 n 3) (zTRx_m hT f0) h13 h11 hi hl, z_jbd, z_jbd, if_neg (by rw [v1]; decide)]
    exact Or.inr ⟨w, qps P n, 1, _, Or.inl rfl, hi, rfl, rfl, v1, v2, zfPc_rfl w, zfPm_trans f0 (zfPm_trans (zfPm_I (by decide) (by decide)) (zfPm_I (by decide) (by decide)))⟩
  | cons x s =>
    obtain ⟨d1, d2, d3, d4, d5, d6, d7⟩ := hwc
    have hwc : zPwC T n P (x :: s) w := ⟨d1, d2, d3, d4, d5, d6, d7⟩
    have stx := hg.2.2.2.2.2.2.1
    have xn : x < n := stx.2.1
    have sx2 : qso P x = 2 := stx.2.2.1
    have px : qps P x < qps P n := zps_mono hwc xn (Nat.le_refl _)
    have sl : s.length ≤ 2 := by rw [List.length_cons] at hs3; omega
    have tdx : zTd T P x := by
      rcases hg.1 x xn with z | z | ⟨z, _⟩
      · have := z.1; omega
      · exact z
      · have := z.1; omega
    have psy : ∀ y ∈ s, y < n ∧ qps P y < qps P n := fun y hy => by
      have := (zStk_lt stx y (List.mem_cons_of_mem _ hy)).1
      exact ⟨this, zps_mono hwc this (Nat.le_refl _)⟩
    have xs : x ∉ s := fun z => by have := (zStk_lt stx.2.2.2.2 x z).1; omega
    have rt : rat (w.2.2.2 11) (nI (s.length + 1) - 1) = nI (qps P x) := by
      rw [show nI (s.length + 1) - 1 = nI s.length from pk_sub (b := 1) (by omega), z_rat (by omega), d1, List.reverse_cons, List.map_append, List.getD_eq_getElem?_getD, List.getElem?_append_right (by rw [List.length_map, List.length_reverse]; exact Nat.le_refl _), List.length_map, List.length_reverse, Nat.sub_self]
      rfl
    have rc : rcut (w.2.2.2 11) (nI (s.length + 1) - 1) = s.reverse.map (fun y => nI (qps P y)) := by
      rw [show nI (s.length + 1) - 1 = nI s.length from pk_sub (b := 1) (by omega)]
      unfold rcut
      rw [if_neg (nI_pos (by omega)), nI_clamp (by omega), d1, List.reverse_cons, List.map_append]
      have : s.length = (s.reverse.map (fun y => nI (qps P y))).length := by rw [List.length_map, List.length_reverse]
      rw [this, List.take_left']
      rfl
    -- the class's rows
    have cls : ∃ w', (jl (rat (w.2.2.2 11) ((nI (x :: s).length) - 1) : Int32) fun x2 => jl (jsetR (zpA w (qps P n) 0) 11 (rcut (w.2.2.2 11) ((nI (x :: s).length) - 1))) fun w3 => jl (jsetR w3 13 (rset (w3.2.2.2 13) x2 (w3.1 10 4))) fun w4 => jl (jsetR w4 13 (rset (w4.2.2.2 13) (w4.1 10 4) x2)) fun w5 => (if (rat (w5.2.2.2 6) (x2 + 1)) = 0 then jl (jsetR w5 15 (rset (w5.2.2.2 15) x2 0)) fun w13 => jbd (f_X7_take w13) fun q14 => jbd (f_X7_takeKind 59 q14) fun q15 => some q15 else (if (rat (w5.2.2.2 15) x2) = 1 then jbd (f_X7_markAct w5) fun q10 => jbd (f_X7_take q10) fun q11 => jbd (f_X7_takeKind 59 q11) fun q12 => some q12 else jbd (f_X7_take w5) fun q8 => jbd (f_X7_takeKind 59 q8) fun q9 => some q9))) = (jbd (f_X7_take (zpA w' (qps P n) 0)) fun q8 => jbd (f_X7_takeKind 59 q8) fun q9 => some q9) ∧ zfPc w w' ∧ w'.1 = w.1 ∧ w'.2.2.2 11 = s.reverse.map (fun y => nI (qps P y)) ∧ w'.2.2.2 13 = ((w.2.2.2 13).set (qps P x) (nI (qps P n))).set (qps P n) (nI (qps P x)) ∧ w'.2.2.2 15 = if qvv P x = 0 then (w.2.2.2 15).set (qps P x) 0 else if qac P x = true then zmkR (qps P) s (w.2.2.2 15) else w.2.2.2 15 := by
      rw [show (x :: s).length = s.length + 1 from rfl, rt, rc, z_jl, z_jl, z_jl, z_jl]
      rw [show (jsetR (zpA w (qps P n) 0) 11 (s.reverse.map (fun y => nI (qps P y)))).1 10 4 = nI (qps P n) from zpA_4 w (qps P n) 0]
      rw [show (jsetR (jsetR (zpA w (qps P n) 0) 11 (s.reverse.map (fun y => nI (qps P y)))) 13 (rset ((jsetR (zpA w (qps P n) 0) 11 (s.reverse.map (fun y => nI (qps P y)))).2.2.2 13) (nI (qps P x)) (nI (qps P n)))).1 10 4 = nI (qps P n) from zpA_4 w (qps P n) 0]
      rw [z_jR1, z_jRR, z_rset (by omega), z_rset (by omega), z_jR2 (show 13 ≠ 11 by decide)]
      rw [show jsetR (jsetR (zpA w (qps P n) 0) 11 (s.reverse.map (fun y => nI (qps P y)))) 13 ((((zpA w (qps P n) 0).2.2.2 13).set (qps P x) (nI (qps P n))).set (qps P n) (nI (qps P x))) = zpA (jsetR (jsetR w 11 (s.reverse.map (fun y => nI (qps P y)))) 13 (((w.2.2.2 13).set (qps P x) (nI (qps P n))).set (qps P n) (nI (qps P x)))) (qps P n) 0 from rfl]
      have F : zfPc w (jsetR (jsetR w 11 (s.reverse.map (fun y => nI (qps P y)))) 13 (((w.2.2.2 13).set (qps P x) (nI (qps P n))).set (qps P n) (nI (qps P x)))) := ⟨fun _ _ => rfl, rfl, rfl, fun k k1 k2 _ => by rw [z_jR2 k2, z_jR2 k1], fun _ _ => rfl⟩
      have G11 : (jsetR (jsetR w 11 (s.reverse.map (fun y => nI (qps P y)))) 13 (((w.2.2.2 13).set (qps P x) (nI (qps P n))).set (qps P n) (nI (qps P x)))).2.2.2 11 = s.reverse.map (fun y => nI (qps P y)) := by rw [z_jR2 (by decide), z_jR1]
      have G13 : (jsetR (jsetR w 11 (s.reverse.map (fun y => nI (qps P y)))) 13 (((w.2.2.2 13).set (qps P x) (nI (qps P n))).set (qps P n) (nI (qps P x)))).2.2.2 13 = ((w.2.2.2 13).set (qps P x) (nI (qps P n))).set (qps P n) (nI (qps P x)) := z_jR1 _ _ _
      have G15 : (jsetR (jsetR w 11 (s.reverse.map (fun y => nI (qps P y)))) 13 (((w.2.2.2 13).set (qps P x) (nI (qps P n))).set (qps P n) (nI (qps P x)))).2.2.2 15 = w.2.2.2 15 := by rw [z_jR2 (by decide), z_jR2 (by decide)]
      have G1 : (jsetR (jsetR w 11 (s.reverse.map (fun y => nI (qps P y)))) 13 (((w.2.2.2 13).set (qps P x) (nI (qps P n))).set (qps P n) (nI (qps P x)))).1 = w.1 := rfl
      generalize hw5 : jsetR (jsetR w 11 (s.reverse.map (fun y => nI (qps P y)))) 13 (((w.2.2.2 13).set (qps P x) (nI (qps P n))).set (qps P n) (nI (qps P x))) = v at F G11 G13 G15 G1 ⊢
      have hCv := zTC_c hC F
      rw [nI_1, show rat ((zpA v (qps P n) 0).2.2.2 6) (nI (qps P x + 1)) = (zt T (qps P x + 1)).2.2 from zTC_v hCv (by omega), tdx.2.2.1]
      have a15 : rat ((zpA v (qps P n) 0).2.2.2 15) (nI (qps P x)) = if qac P x = true then 1 else 0 := by
        show rat (v.2.2.2 15) (nI (qps P x)) = _
        rw [z_rat (by omega), G15]
        exact d5 x xn sx2
      rw [a15]
      by_cases v0 : qvv P x = 0
      · rw [if_pos v0, if_pos v0, z_rset (by omega), z_jl]
        refine ⟨jsetR v 15 ((w.2.2.2 15).set (qps P x) 0), by rw [show (zpA v (qps P n) 0).2.2.2 15 = w.2.2.2 15 from G15]; rfl, zfPc_trans F ⟨fun _ _ => rfl, rfl, rfl, fun k _ _ k3 => z_jR2 k3, fun _ _ => rfl⟩, G1, by rw [z_jR2 (by decide)]; exact G11, by rw [z_jR2 (by decide)]; exact G13, z_jR1 _ _ _⟩
      · rw [if_neg v0, if_neg v0]
        by_cases a0 : qac P x = true
        · rw [if_pos a0, if_pos a0, if_pos rfl, z_mk0 G11 (by omega) (fun y hy => by have := (psy y hy).2; omega), z_jbd]
          exact ⟨_, rfl, zfPc_trans F ⟨fun _ _ => rfl, rfl, rfl, fun k _ _ k3 => z_jR2 k3, fun _ _ => rfl⟩, G1, by rw [z_jR2 (by decide)]; exact G11, by rw [z_jR2 (by decide)]; exact G13, by rw [z_jR1, G15]⟩
        · rw [if_neg a0, if_neg a0, if_neg (by decide)]
          exact ⟨v, rfl, F, G1, G11, G13, G15⟩
    obtain ⟨w1, c1, c2, c3, c4, c5, c6⟩ := cls
    have hC1 := zTC_c hC c2
    rw [if_neg (show ¬ nI (x :: s).length = 0 from fun z => by have := (nI_eq (a := s.length + 1) (b := 0) (by omega) (by decide)).mp z; omega), c1]
    rw [if_neg (show ¬ nI (x :: s).length = 0 from fun z => by have := (nI_eq (a := s.length + 1) (b := 0) (by omega) (by decide)).mp z; omega), z_jbd, if_pos (show (jsetX wm 170 n 3).1 162 13 ≤ 0 from by show wm.1 162 13 ≤ 0; rw [h13]; decide)]
    have h175 : wm.2.1 175 s.length = nI x := hwm.2.2.2.2.2.2.2.2.2.1 s.length x (by rw [List.reverse_cons, List.getElem?_append_right (by rw [List.length_reverse]; exact Nat.le_refl _), List.length_reverse, Nat.sub_self]; rfl)
    have zr : ∀ q : jw, q.1 162 24 = nI (s.length + 1) → q.2.1 175 = wm.2.1 175 → zrE (nI n) q = jbd (f_X12_must 4 (jsetX (jsetX (jsetI q 162 24 (nI s.length)) 174 n (nI x)) 174 x (nI n))) fun q76 => jl (jsetI q76 162 18 ((q76.1 162 18) + 1)) fun w77 => some w77 := fun q q1 q2 => zrE_e nl (by omega) (by omega) q1 (by rw [q2]; exact h175)
    rcases z_go (w := w1) (wm := jsetX wm 170 n 3) tk (zTRx_m hT f0) hi h11 h13 nk.1 nk.2 with ⟨i4, i1, t1, t2⟩ | ⟨t1, t2⟩
    · rw [t1, z_jbd, t2, z_jbd, zr (jsetI (jsetX wm 170 n 3) 162 11 (nI (qps P n + 1))) (by rw [zI_ne (by decide)]; exact hwm.2.1) (z_jX2 (w := wm) (a := 170) (by decide))]
      have g11 : (jsetX (jsetX (jsetI (jsetI (jsetX wm 170 n 3) 162 11 (nI (qps P n + 1))) 162 24 (nI s.length)) 174 n (nI x)) 174 x (nI n)).1 162 11 = nI (qps P n + 1) := by
        show (jsetI (jsetI (jsetX wm 170 n 3) 162 11 (nI (qps P n + 1))) 162 24 (nI s.length)).1 162 11 = _
        rw [zI_ne (by decide), zI_eq]
      have gI : ∀ j, j ≠ 24 → j ≠ 11 → (jsetX (jsetX (jsetI (jsetI (jsetX wm 170 n 3) 162 11 (nI (qps P n + 1))) 162 24 (nI s.length)) 174 n (nI x)) 174 x (nI n)).1 162 j = wm.1 162 j := fun j j1 j2 => by
        show (jsetI (jsetI (jsetX wm 170 n 3) 162 11 (nI (qps P n + 1))) 162 24 (nI s.length)).1 162 j = _
        rw [zI_ne j1, zI_ne j2]; rfl
      have g24 : (jsetX (jsetX (jsetI (jsetI (jsetX wm 170 n 3) 162 11 (nI (qps P n + 1))) 162 24 (nI s.length)) 174 n (nI x)) 174 x (nI n)).1 162 24 = nI s.length := by
        show (jsetI (jsetI (jsetX wm 170 n 3) 162 11 (nI (qps P n + 1))) 162 24 (nI s.length)).1 162 24 = _
        rw [zI_eq]
      have gm : zfPm wm (jsetX (jsetX (jsetI (jsetI (jsetX wm 170 n 3) 162 11 (nI (qps P n + 1))) 162 24 (nI s.length)) 174 n (nI x)) 174 x (nI n)) := zfPm_trans f0 (zfPm_trans (zfPm_I (by decide) (by decide)) (zfPm_trans (zfPm_I (by decide) (by decide)) (zfPm_trans (zfPm_X (by decide) (by decide)) (zfPm_X (by decide) (by decide)))))
      have g174 : (jsetX (jsetX (jsetI (jsetI (jsetX wm 170 n 3) 162 11 (nI (qps P n + 1))) 162 24 (nI s.length)) 174 n (nI x)) 174 x (nI n)).2.1 174 = zup (zup (wm.2.1 174) n (nI x)) x (nI n) := by
        rw [z_jX1, z_jX1]
        show zup (zup ((jsetX wm 170 n 3).2.1 174) n (nI x)) x (nI n) = _
        rw [z_jX2 (by decide)]
      have g170 : (jsetX (jsetX (jsetI (jsetI (jsetX wm 170 n 3) 162 11 (nI (qps P n + 1))) 162 24 (nI s.length)) 174 n (nI x)) 174 x (nI n)).2.1 170 = zup (wm.2.1 170) n 3 := by
        rw [z_jX2 (by decide), z_jX2 (by decide)]
        show (jsetX wm 170 n 3).2.1 170 = _
        rw [z_jX1]
      have gO : ∀ k, k ≠ 170 → k ≠ 174 → (jsetX (jsetX (jsetI (jsetI (jsetX wm 170 n 3) 162 11 (nI (qps P n + 1))) 162 24 (nI s.length)) 174 n (nI x)) 174 x (nI n)).2.1 k = wm.2.1 k := fun k k1 k2 => by
        rw [z_jX2 k2, z_jX2 k2]
        show (jsetX wm 170 n 3).2.1 k = _
        rw [z_jX2 k1]
      generalize hwa : jsetX (jsetX (jsetI (jsetI (jsetX wm 170 n 3) 162 11 (nI (qps P n + 1))) 162 24 (nI s.length)) 174 n (nI x)) 174 x (nI n) = wa at g11 gI g24 gm g174 g170 gO ⊢
      have g13 : wa.1 162 13 = 0 := by rw [gI 13 (by decide) (by decide)]; exact h13
      rcases z_must (w := w1) (b := kSemi) tk hC1 (zTRx_m hT gm) i1 g11 g13 (by decide) with ⟨a1, a2, a3, a4, a5⟩ | ⟨f, a1, a2, a3⟩
      · rw [show f_X7_takeKind 59 (zpA w1 (qps P n + 1) 0) = _ from a4, z_jbd, show f_X12_must 4 wa = _ from a5, z_jbd, z_jl]
        rw [show (jsetI wa 162 11 (nI (qps P n + 1 + 1))).1 162 18 = nI n from by rw [zI_ne (by decide), gI 18 (by decide) (by decide)]; exact hwm.1, nI_1]
        obtain ⟨x1, x2, x3, x4, x5, x6, x7, x8, x9, x10, x11⟩ := hwm
        have wmF : zfPm wm (jsetI (jsetI wa 162 11 (nI (qps P n + 1 + 1))) 162 18 (nI (n + 1))) := zfPm_trans gm (zfPm_trans (zfPm_I (by decide) (by decide)) (zfPm_I (by decide) (by decide)))
        let P' : zPrg := (zup (qso P) n 3, zup (qps P) (n + 1) (qps P n + 2), zup (qpa P) (n + 1) (qpa P x), zup (zup (qmt P) n x) x n, zup (qdp P) (n + 1) (qdp P x), qvv P, qc1 P, qc2 P, qcf P, fun q => if q = x then (if qvv P x = 0 then false else qac P x) else if qvv P x ≠ 0 ∧ qac P x = true ∧ qpa P x = q + 1 then true else qac P q)
        have k1 : ∀ q, q < n → qso P' q = qso P q := fun q hq => zup_ne (by omega)
        have k2 : ∀ q, q ≤ n → qps P' q = qps P q := fun q hq => zup_ne (by omega)
        have k3 : ∀ q, q ≤ n → qpa P' q = qpa P q := fun q hq => zup_ne (by omega)
        have k4 : ∀ q, q ≤ n → qdp P' q = qdp P q := fun q hq => zup_ne (by omega)
        have km : ∀ q, q ≠ x → q ≠ n → qmt P' q = qmt P q := fun q q1 q2 => by
          show zup (zup (qmt P) n x) x n q = _
          rw [zup_ne q1, zup_ne q2]
        have kmn : qmt P' n = x := by show zup (zup (qmt P) n x) x n n = _; rw [zup_ne (by omega), zup_eq]
        have kmx : qmt P' x = n := zup_eq _ _ _
        have sn : qso P' n = 3 := zup_eq _ _ _
        have pn1 : qps P' (n + 1) = qps P n + 2 := zup_eq _ _ _
        have keep : zKeep n P P' := ⟨k1, fun q hq => ⟨k2 q hq, k3 q hq, k4 q hq⟩, fun q hq => ⟨rfl, rfl, rfl, rfl⟩⟩
        have hg' : zPg T (n + 1) P' s := zPg_end hg keep km kmn kmx (fun q _ => rfl) sn (by rw [k2 n (Nat.le_refl _)]; exact hk) (by rw [k2 n (Nat.le_refl _)]; exact pn1) (by rw [k3 x (by omega)]; exact zup_eq _ _ _) (by rw [k4 x (by omega)]; exact zup_eq _ _ _)
        have eold : ∀ p, p < n → qso P p = 3 → p ≠ x ∧ qmt P p ≠ x ∧ qmt P p < p := fun p hp s3 => by
          rcases hg.1 p hp with z | z | ⟨z, z'⟩
          · have := z.1; omega
          · have := z.1; omega
          · exact ⟨fun y => by rw [y, sx2] at s3; omega, fun y => z' (by rw [y]; exact List.mem_cons_self), z.2.2.2.1⟩
        have set1 : ∀ j, (((w.2.2.2 13).set (qps P x) (nI (qps P n))).set (qps P n) (nI (qps P x))).getD j 0 = if j = qps P n then nI (qps P x) else if j = qps P x then nI (qps P n) else (w.2.2.2 13).getD j 0 := fun j => by rw [z_setD (by rw [List.length_set]; omega), z_setD (by omega)]
        refine Or.inl ⟨P', s, cb, w1, _, by rw [pn1], rfl, ⟨hg', ⟨?_, by rw [c5, List.length_set, List.length_set]; exact d2, ?_, ?_, ?_, ?_, ?_⟩, ⟨by rw [zI_eq], ?_, ?_, ?_, by rw [pn1]; omega, ?_, ?_, ?_, ?_, ?_, ?_⟩, ?_, ?_, ?_, by rw [pn1]; exact a3, by rw [pn1]; omega, by omega, hC1, zTRx_m hT wmF, by rw [k2 0 (by omega)]; exact h00, fun z => h01 (by rw [zI_ne (by decide), zI_ne (by decide), gI 15 (by decide) (by decide)] at z; exact z)⟩, c2, wmF⟩
        · rw [c4]
          refine List.map_congr_left fun y hy => ?_
          have := (psy y (List.mem_reverse.mp hy)).1
          rw [k2 y (by omega)]
        · rw [c6]
          split
          · rw [List.length_set]; exact d3
          · split
            · unfold zmkR; split
              · exact d3
              · rw [List.length_set]; exact d3
            · exact d3
        · intro p hp s3
          rw [c5, set1, set1]
          by_cases c : p = n
          · rw [c, kmn, k2 n (Nat.le_refl _), k2 x (by omega), if_pos rfl, if_neg (by omega), if_pos rfl]
            exact ⟨rfl, rfl⟩
          · rw [k1 p (by omega)] at s3
            obtain ⟨o1, o2, o3⟩ := eold p (by omega) s3
            rw [km p o1 c, k2 p (by omega), k2 (qmt P p) (by omega)]
            have i1' : ¬ qps P p = qps P n := fun z => c (zps_inj hwc (by omega) (Nat.le_refl _) z)
            have i2' : ¬ qps P p = qps P x := fun z => o1 (zps_inj hwc (by omega) (by omega) z)
            have i3' : ¬ qps P (qmt P p) = qps P n := fun z => by have := zps_inj hwc (by omega) (Nat.le_refl _) z; omega
            have i4' : ¬ qps P (qmt P p) = qps P x := fun z => o2 (zps_inj hwc (by omega) (by omega) z)
            rw [if_neg i1', if_neg i2', if_neg i3', if_neg i4']
            exact d4 p (by omega) s3
        · intro p hp s2
          by_cases c : p = n
          · rw [c, sn] at s2; omega
          · rw [k1 p (by omega)] at s2
            have hp' : p < n := by omega
            rw [k2 p (by omega), c6]
            show _ = if (if p = x then (if qvv P x = 0 then false else qac P x) else if qvv P x ≠ 0 ∧ qac P x = true ∧ qpa P x = p + 1 then true else qac P p) = true then (1 : Int32) else 0
            have ip : p ≠ x → ¬ qps P p = qps P x := fun z1 z2 => z1 (zps_inj hwc (by omega) (by omega) z2)
            by_cases v0 : qvv P x = 0
            · rw [if_pos v0, z_setD (by omega)]
              by_cases e : p = x
              · rw [if_pos e, if_pos (by rw [e]), if_pos v0, if_neg (by decide)]
              · rw [if_neg e, if_neg (ip e), if_neg (show ¬ (qvv P x ≠ 0 ∧ qac P x = true ∧ qpa P x = p + 1) from fun z => z.1 v0)]
                exact d5 p hp' s2
            · rw [if_neg v0]
              by_cases a0 : qac P x = true
              · rw [if_pos a0]
                by_cases e : p = x
                · rw [if_pos e, if_neg v0, if_pos a0]
                  have dx := d5 x xn sx2
                  rw [if_pos a0] at dx
                  rw [e]
                  cases s with
                  | nil => exact dx
                  | cons y s' =>
                    show ((w.2.2.2 15).set (qps P y) 1).getD (qps P x) 0 = 1
                    have := (psy y List.mem_cons_self).2
                    rw [z_setD (by omega)]
                    split
                    · rfl
                    · exact dx
                · rw [if_neg e]
                  cases s with
                  | nil =>
                    have p0 : qpa P x = 0 := stx.2.2.2.2.1
                    rw [if_neg (show ¬ (qvv P x ≠ 0 ∧ qac P x = true ∧ qpa P x = p + 1) by rintro ⟨_, _, z⟩; omega)]
                    exact d5 p hp' s2
                  | cons y s' =>
                    have py : qpa P x = y + 1 := stx.2.2.2.2.1
                    have yy := (psy y List.mem_cons_self)
                    show ((w.2.2.2 15).set (qps P y) 1).getD (qps P p) 0 = _
                    rw [z_setD (by omega)]
                    by_cases f : p = y
                    · rw [if_pos (show qps P p = qps P y by rw [f]), if_pos (show (qvv P x ≠ 0 ∧ qac P x = true ∧ qpa P x = p + 1) from ⟨v0, a0, by rw [py, f]⟩), if_pos rfl]
                    · rw [if_neg (fun z => f (zps_inj hwc (by omega) (by omega) z)), if_neg (show ¬ (qvv P x ≠ 0 ∧ qac P x = true ∧ qpa P x = p + 1) by rintro ⟨_, _, z⟩; omega)]
                      exact d5 p hp' s2
              · rw [if_neg a0]
                by_cases e : p = x
                · rw [if_pos e, if_neg v0, if_neg a0, e]
                  have dx := d5 x xn sx2
                  rw [if_neg a0] at dx
                  exact dx
                · rw [if_neg e, if_neg (show ¬ (qvv P x ≠ 0 ∧ qac P x = true ∧ qpa P x = p + 1) from fun z => a0 z.2.1)]
                  exact d5 p hp' s2
        · intro q hq
          rw [pn1] at hq
          rw [c6]
          split
          · rw [z_setD (by omega), if_neg (by omega)]; exact d6 q (by omega)
          · split
            · cases s with
              | nil => exact d6 q (by omega)
              | cons y s' =>
                have := (psy y List.mem_cons_self).2
                show ((w.2.2.2 15).set (qps P y) 1).getD q 0 = 0
                rw [z_setD (by omega), if_neg (by omega)]
                exact d6 q (by omega)
            · exact d6 q (by omega)
        · intro p hp
          by_cases c : p = n
          · rw [c, pn1, k2 n (Nat.le_refl _)]; omega
          · rw [k2 p (by omega), k2 (p + 1) (by omega)]; exact d7 p (by omega)
        · rw [zI_ne (by decide), zI_ne (by decide)]; exact g24
        · rw [zI_ne (by decide), zI_ne (by decide), gI 26 (by decide) (by decide)]; exact x3
        · rw [zI_ne (by decide), zI_ne (by decide), gI 12 (by decide) (by decide)]; exact x4
        · intro p hp
          show wa.2.1 170 p = _
          rw [g170]
          by_cases c : p = n
          · rw [c, sn, zup_eq]; rfl
          · rw [k1 p (by omega), zup_ne c]; exact x6 p (by omega)
        · intro p hp s1
          show wa.2.1 171 p = _ ∧ wa.2.1 172 p = _ ∧ wa.2.1 173 p = _ ∧ zCm _ _ wa ∧ zCm _ _ wa ∧ _
          by_cases c : p = n
          · rw [c, sn] at s1; omega
          · rw [k1 p (by omega)] at s1
            obtain ⟨y1, y2, y3, y4, y5, y6⟩ := x7 p (by omega) s1
            have cq : ∀ q, q < cb → wa.2.1 176 q = wm.2.1 176 q ∧ wa.2.1 177 q = wm.2.1 177 q := fun q _ => by rw [gO 176 (by decide) (by decide), gO 177 (by decide) (by decide)]; exact ⟨rfl, rfl⟩
            rw [gO 171 (by decide) (by decide), gO 172 (by decide) (by decide), gO 173 (by decide) (by decide)]
            exact ⟨y1, y2, y3, zCm_fr y4 (show qcf P p + (qc1 P p).length ≤ cb by omega) cq, zCm_fr y5 (show qcf P p + (qc1 P p).length + (qc2 P p).length ≤ cb by omega) cq, y6⟩
        · intro p hp s2
          show wa.2.1 171 p = _
          by_cases c : p = n
          · rw [c, sn] at s2; omega
          · rw [k1 p (by omega)] at s2
            rw [gO 171 (by decide) (by decide)]
            exact x8 p (by omega) s2
        · intro p hp s3
          show wa.2.1 174 p = _ ∧ wa.2.1 174 (qmt P' p) = _
          rw [g174]
          by_cases c : p = n
          · rw [c, kmn, zup_ne (by omega), zup_eq, zup_eq]
            exact ⟨rfl, rfl⟩
          · rw [k1 p (by omega)] at s3
            obtain ⟨o1, o2, o3⟩ := eold p (by omega) s3
            rw [km p o1 c, zup_ne o1, zup_ne c, zup_ne o2, zup_ne (by omega)]
            exact x9 p (by omega) s3
        · intro a y hy
          show wa.2.1 175 a = _
          rw [gO 175 (by decide) (by decide)]
          refine x10 a y ?_
          rw [List.reverse_cons, List.getElem?_append_left (List.getElem?_eq_some_iff.mp hy).1]
          exact hy
        · intro z p hp s2
          rw [zI_ne (by decide), zI_ne (by decide), gI 15 (by decide) (by decide)] at z
          by_cases c : p = n
          · rw [c, sn] at s2; omega
          · rw [k1 p (by omega)] at s2
            exact x11 z p (by omega) s2
        · rw [zI_ne (by decide), zI_eq, pn1]
        · rw [zI_ne (by decide), zI_ne (by decide)]; exact g13
        · unfold zWr
          rw [c3, zI_ne (by decide), zI_ne (by decide), zI_ne (by decide), zI_ne (by decide), gI 15 (by decide) (by decide), gI 16 (by decide) (by decide), pn1]
          rcases hwr with z | ⟨t, z1, z2⟩
          · exact Or.inl z
          · exact Or.inr ⟨t, by omega, z2⟩
      · rw [show f_X7_takeKind 59 (zpA w1 (qps P n + 1) 0) = _ from a2, z_jbd, show f_X12_must 4 wa = _ from a3, z_jbd, z_jl]
        obtain ⟨v1, v2⟩ := zR_f wa f (zt T (qps P n + 1)).2.1
        exact Or.inr (zFail_mk (wm1 := jsetI (jsetI wa 162 13 f) 162 14 (zt T (qps P n + 1)).2.1) a1 i1 rfl rfl v1 v2 ⟨zI_ne (by decide), zI_ne (by decide), zfPm_I (by decide) (by decide)⟩ c2 (zfPm_trans gm (zfPm_trans (zfPm_I (by decide) (by decide)) (zfPm_I (by decide) (by decide)))))
    · obtain ⟨v1, v2⟩ := zR_f (jsetX wm 170 n 3) 2 (zt T (qps P n)).2.1
      rw [t1, z_jbd, z_tkF hC1 (by omega) 59 (by decide), z_jbd, t2, z_jbd, zr (jsetI (jsetI (jsetX wm 170 n 3) 162 13 2) 162 14 (zt T (qps P n)).2.1) (by rw [zI_ne (by decide), zI_ne (by decide)]; exact hwm.2.1) (z_jX2 (w := wm) (a := 170) (by decide))]
      rw [z_muF (by right; show (jsetI (jsetI (jsetI (jsetX wm 170 n 3) 162 13 2) 162 14 (zt T (qps P n)).2.1) 162 24 (nI s.length)).1 162 13 = 2; rw [zI_ne (by decide)]; exact v1), z_jbd, z_jl]
      refine Or.inr (zFail_mk (wm1 := jsetI (jsetI (jsetX wm 170 n 3) 162 13 2) 162 14 (zt T (qps P n)).2.1) (Or.inr rfl) hi rfl rfl v1 v2 ⟨?_, ?_, ?_⟩ c2 (zfPm_trans f0 (zfPm_trans (zfPm_I (by decide) (by decide)) (zfPm_I (by decide) (by decide)))))
      · rw [zI_ne (by decide)]; show (jsetI (jsetI (jsetI (jsetX wm 170 n 3) 162 13 2) 162 14 (zt T (qps P n)).2.1) 162 24 (nI s.length)).1 162 13 = _; rw [zI_ne (by decide)]
      · rw [zI_ne (by decide)]; show (jsetI (jsetI (jsetI (jsetX wm 170 n 3) 162 13 2) 162 14 (zt T (qps P n)).2.1) 162 24 (nI s.length)).1 162 14 = _; rw [zI_ne (by decide)]
      · exact zfPm_trans (zfPm_I (by decide) (by decide)) (zfPm_trans (zfPm_X (by decide) (by decide)) (zfPm_trans (zfPm_X (by decide) (by decide)) (zfPm_I (by decide) (by decide))))
end
