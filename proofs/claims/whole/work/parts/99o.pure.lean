section
/-! parseAll against the reference's parsing -/
def zrP (nf : Nat) (w47 : jw) : Option (Int32 × jw) := jbd2 (f_X12_is 20 w47) fun x49 w50 => (if (jb x49) = 0 then (l_X12_read_110F nf jfu 8 w50) else jbd (f_X12_goesOn w50) fun q52 => jbd2 (f_X12_bounded 6 12 q52) fun x54 w55 => jbd (f_X12_must 4 w55) fun q56 => (l_X12_read_110F nf jfu x54 q56))
theorem zpA_s8 (w : jw) (i : Nat) (f x : Int32) : jsetI (zpA w i f) 10 8 x = zpA (jsetI w 10 8 x) i f := by
  refine z_jIe _ _ _ _ _ rfl fun p q => ?_
  show (if p = 10 ∧ q = 8 then x else if p = 10 ∧ q = 6 then f else if p = 10 ∧ q = 4 then nI i else w.1 p q) = if p = 10 ∧ q = 6 then f else if p = 10 ∧ q = 4 then nI i else if p = 10 ∧ q = 8 then x else w.1 p q
  by_cases c : p = 10 ∧ q = 8
  · rw [if_pos c, if_neg (by omega), if_neg (by omega), if_pos c]
  · rw [if_neg c, if_neg c]
def zP0 (i : Nat) : zPrg := (fun _ => 0, fun _ => i, fun _ => 0, fun _ => 0, fun _ => 0, fun _ => 0, fun _ => [], fun _ => [], fun _ => 0, fun _ => false)
theorem zPg_0 (T : List zT) (i : Nat) : zPg T 0 (zP0 i) [] := ⟨fun p hp => by omega, fun p hp => by omega, fun p hp => by omega, fun p hp => by omega, fun p hp => by omega, fun p hp => by omega, ⟨rfl, rfl⟩, fun q _ => Nat.zero_le _, rfl⟩
theorem z_rep0 {L q : Nat} : (List.replicate L (0 : Int32)).getD q 0 = 0 := by
  rw [List.getD_eq_getElem?_getD, List.getElem?_replicate]
  split <;> rfl
/-- the reference's fields at the start of parsing -/
def zR0 (T : List zT) (wm : jw) : Prop := wm.1 162 11 = 0 ∧ wm.1 162 12 = 0 ∧ wm.1 162 13 = 0 ∧ wm.1 162 15 = 0 ∧ wm.1 162 18 = 0 ∧ wm.1 162 24 = 0 ∧ wm.1 162 26 = 0 ∧ zTRx T wm
def zAll (T : List zT) (w wm : jw) : Prop :=
  (∃ B N P cb v wm', f_X7_parseAll w = some v ∧ v.1 10 6 = 0 ∧ v.1 10 7 = -1 ∧ v.1 10 8 = nI B ∧ 6 ≤ B ∧ B ≤ 12 ∧ (∀ nf, zrP nf wm = zRt nf (nI B) wm') ∧ zPS T N P [] cb v wm' ∧ (zt T (qps P N)).1 = kStop ∧ wm'.1 162 15 = 0 ∧ zfPo w v ∧ zfPm wm wm') ∨
  ∃ f pl v wm', f ≠ 0 ∧ f_X7_parseAll w = some v ∧ v.1 10 6 = f ∧ v.1 10 7 = pl ∧ (∀ nf, zrP nf wm = some (f, wm')) ∧ wm'.1 162 17 = pl ∧ zfPo w v ∧ zfPn wm wm'
theorem zPS_A {T : List zT} {n cb i : Nat} {P : zPrg} {stk : List Nat} {w wm : jw} {f : Int32} (h : zPS T n P stk cb w wm) : zPS T n P stk cb (zpA w i f) wm := by
  obtain ⟨hg, hwc, hwm, h11, h13, hwr, hi, h2n, hs3, hC, hT, h00, h01⟩ := h
  refine ⟨hg, hwc, hwm, h11, h13, ?_, hi, h2n, hs3, hC, hT, h00, h01⟩
  unfold zWr
  rw [zpA_5]
  exact hwr
theorem zAll_F {T : List zT} {w wm w' wm' : jw} {j : Nat} {f : Int32} {b1 : Int32} (hf : f = 1 ∨ f = 2) (hj : j < T.length) (hl : T.length ≤ 401) (hC : zTC T w') (c1 : f_X7_parseAll w = zcEn (zpA w' j f)) (c2 : ∀ nf, zrP nf wm = zRt nf b1 wm') (h1 : wm'.1 162 13 = f) (h2 : wm'.1 162 14 = (zt T j).2.1) (h3 : zfPo w w') (h4 : zfPm wm wm') : zAll T w wm := by
  have f0 := zf12 hf
  refine Or.inr ⟨f, (zt T j).2.1, jsetI (zpA w' j f) 10 7 (zt T j).2.1, jsetI wm' 162 17 (zt T j).2.1, f0.1, ?_, ?_, zI_eq _ _ _ _, fun nf => ?_, zI_eq _ _ _ _, zfPo_I (w' := zpA w' j f) ⟨fun a ha => by unfold zpA; rw [z_jI2 ha, z_jI2 ha, h3.1 a ha], h3.2.1, h3.2.2.1, h3.2.2.2⟩ 7 _, zfPn_17 h4⟩
  · rw [c1]
    unfold zcEn
    rw [zpA_6, if_neg f0.1, zpA_4, show rat ((zpA w' j f).2.2.2 8) (nI j) = (zt T j).2.1 from zTC_p hC (by omega), z_jl]
  · rw [zI_ne (by decide), zpA_6]
  · rw [c2]
    unfold zRt
    rw [h1, if_neg f0.2, z_jbd, h2, z_jl, show (jsetI wm' 162 17 (zt T j).2.1).1 162 13 = f from by rw [zI_ne (by decide)]; exact h1, if_neg f0.2]
theorem z_parse {T : List zT} {w wm : jw} (tk : zTok T) (pl : zPl T) (hC : zTC T w) (h0 : zR0 T wm) : zAll T w wm := by
  have hl := tk.2.1
  obtain ⟨r11, r12, r13, r15, r18, r24, r26, hT⟩ := h0
  have T0 : 0 < T.length := List.length_pos_iff.mpr tk.1
  have l4 : (w.2.2.2 4).length = T.length := by rw [hC.1, List.length_map]
  -- the class's start
  have st : ∃ v0, f_X7_parseAll w = jbd (f_X7_parsePage (zpA v0 0 0)) (fun q34 => l_X7_parseAll jfu 0 q34) ∧ zfPo w v0 ∧ v0.1 10 5 = -1 ∧ v0.1 10 7 = -1 ∧ v0.1 10 8 = 8 ∧ v0.2.2.2 11 = [] ∧ v0.2.2.2 13 = List.replicate T.length (-1) ∧ v0.2.2.2 15 = List.replicate T.length 0 := by
    have c0 : ∀ l : List Int32, rcut l 0 = [] := fun l => by unfold rcut; simp
    unfold f_X7_parseAll
    rw [z_jl, z_jl, z_jl, z_jl, z_jl, c0, z_jl]
    have e5 : (jsetI (jsetI (jsetI (jsetI (jsetI w 10 4 0) 10 6 0) 10 7 (-1)) 10 5 (-1)) 10 8 8).1 10 4 = nI 0 ∧ (jsetI (jsetI (jsetI (jsetI (jsetI w 10 4 0) 10 6 0) 10 7 (-1)) 10 5 (-1)) 10 8 8).1 10 6 = 0 ∧ (jsetI (jsetI (jsetI (jsetI (jsetI w 10 4 0) 10 6 0) 10 7 (-1)) 10 5 (-1)) 10 8 8).1 10 5 = -1 ∧ (jsetI (jsetI (jsetI (jsetI (jsetI w 10 4 0) 10 6 0) 10 7 (-1)) 10 5 (-1)) 10 8 8).1 10 7 = -1 ∧ (jsetI (jsetI (jsetI (jsetI (jsetI w 10 4 0) 10 6 0) 10 7 (-1)) 10 5 (-1)) 10 8 8).1 10 8 = 8 := by
      refine ⟨?_, ?_, ?_, ?_, ?_⟩
      · rw [zI_ne (by decide), zI_ne (by decide), zI_ne (by decide), zI_ne (by decide), zI_eq]; rfl
      · rw [zI_ne (by decide), zI_ne (by decide), zI_ne (by decide), zI_eq]
      · rw [zI_ne (by decide), zI_eq]
      · rw [zI_ne (by decide), zI_ne (by decide), zI_eq]
      · rw [zI_eq]
    have e6 : zfPo w (jsetI (jsetI (jsetI (jsetI (jsetI w 10 4 0) 10 6 0) 10 7 (-1)) 10 5 (-1)) 10 8 8) := zfPo_I (zfPo_I (zfPo_I (zfPo_I (zfPo_I ⟨fun _ _ => rfl, rfl, rfl, fun _ _ _ _ => rfl⟩ 4 0) 6 0) 7 _) 5 _) 8 8
    have e7 : (jsetI (jsetI (jsetI (jsetI (jsetI w 10 4 0) 10 6 0) 10 7 (-1)) 10 5 (-1)) 10 8 8).2.2.2 = w.2.2.2 := rfl
    generalize hv : jsetI (jsetI (jsetI (jsetI (jsetI w 10 4 0) 10 6 0) 10 7 (-1)) 10 5 (-1)) 10 8 8 = v at e5 e6 e7 ⊢
    rw [show ((jsetR v 11 []).2.2.2 4).length = T.length from by rw [z_jR2 (by decide), e7]; exact l4, z_jg (decide_eq_true (by omega)), z_jl]
    rw [show ((jsetR (jsetR v 11 []) 13 (List.replicate T.length (-1))).2.2.2 4).length = T.length from by rw [z_jR2 (by decide), z_jR2 (by decide), e7]; exact l4, z_jg (decide_eq_true (by omega)), z_jl]
    refine ⟨jsetR (jsetR (jsetR v 11 []) 13 (List.replicate T.length (-1))) 15 (List.replicate T.length 0), ?_, ⟨e6.1, e6.2.1, e6.2.2.1, fun k k1 k2 k3 => by rw [z_jR2 k3, z_jR2 k2, z_jR2 k1]; exact e6.2.2.2 k k1 k2 k3⟩, e5.2.2.1, e5.2.2.2.1, e5.2.2.2.2, by rw [z_jR2 (by decide), z_jR2 (by decide), z_jR1], by rw [z_jR2 (by decide), z_jR1], z_jR1 _ _ _⟩
    rw [zpA_self (v := jsetR (jsetR (jsetR v 11 []) 13 (List.replicate T.length (-1))) 15 (List.replicate T.length 0)) e5.1 e5.2.1]
  obtain ⟨v0, s1, s2, s3, s4, s5, s6, s7, s8⟩ := st
  have hC0 : zTC T v0 := ⟨by rw [s2.2.2.2 4 (by decide) (by decide) (by decide)]; exact hC.1, by rw [s2.2.2.2 6 (by decide) (by decide) (by decide)]; exact hC.2.1, by rw [s2.2.2.2 8 (by decide) (by decide) (by decide)]; exact hC.2.2⟩
  have tr : ∀ {a : jw}, zfPo v0 a → zfPo w a := fun h => ⟨fun x hx => (h.1 x hx).trans (s2.1 x hx), h.2.1.trans s2.2.1, h.2.2.1.trans s2.2.2.1, fun k k1 k2 k3 => (h.2.2.2 k k1 k2 k3).trans (s2.2.2.2 k k1 k2 k3)⟩
  -- from the first tell on
  have go : ∀ (i : Nat) (w1 wm1 : jw) (b1 : Int32) (B : Nat), i = zbeg T → i < T.length → zfPo v0 w1 → w1.2.2.2 = v0.2.2.2 → w1.1 10 7 = -1 → w1.1 10 8 = b1 → zfPm wm wm1 → (∀ j, j = 12 ∨ j = 13 ∨ j = 18 ∨ j = 24 ∨ j = 26 → wm1.1 162 j = 0) → wm1.1 162 11 = nI i → zWr T i w1 wm1 → (wm1.1 162 15 = 0 → zmok T) → (zmok T → b1 = nI B ∧ 6 ≤ B ∧ B ≤ 12) → f_X7_parseAll w = l_X7_parseAll jfu 0 (zpA w1 i 0) → (∀ nf, zrP nf wm = l_X12_read_110F nf jfu b1 wm1) → zAll T w wm := fun i w1 wm1 b1 B q0 q1 q2 q3 q4 q5 q6 q7 q8 q9 q10 q10b q11 q12 => by
    have ps : zPS T 0 (zP0 i) [] 0 w1 wm1 := by
      refine ⟨zPg_0 T i, ⟨?_, ?_, ?_, fun p hp => by omega, fun p hp => by omega, fun q _ => ?_, fun p hp => by omega⟩, ⟨q7 18 (by omega), q7 24 (by omega), q7 26 (by omega), q7 12 (by omega), Nat.zero_le _, fun p hp => by omega, fun p hp => by omega, fun p hp => by omega, fun p hp => by omega, (fun (a x : Nat) (hx : ([] : List Nat).reverse[a]? = some x) => by cases hx), fun _ p hp => by omega⟩, q8, q7 13 (by omega), q9, q1, Nat.zero_le _, by decide, ?_, zTRx_m hT q6, q0, q10⟩
      · rw [q3, s6]; rfl
      · rw [q3, s7, List.length_replicate]
      · rw [q3, s8, List.length_replicate]
      · rw [q3, s8]; exact z_rep0
      · unfold zTC; rw [q3]; exact hC0
    have R := z_parseL tk pl 201 0 jfu jfu (zP0 i) [] 0 w1 wm1 rfl ps (by decide) (by decide)
    rcases R with ⟨N, P, cb, w', wm', a1, a2, a3, a4, a5, a6, a7, a8⟩ | ⟨f, pl2, v', wm', a1, a2, a3, a4, a5, a6, a7, a8⟩
    · obtain ⟨z2, z3, z4⟩ := q10b (a3.2.2.2.2.2.2.2.2.2.2.2.2 a5)
      refine Or.inl ⟨B, N, P, cb, zpA w' (qps P N) 0, wm', by rw [q11]; exact a1, zpA_6 _ _ _, ?_, ?_, z3, z4, fun nf => by rw [q12, ← z2]; exact a2 nf b1, zPS_A a3, a4, a5, tr ⟨fun a ha => ?_, a7.2.1.trans q2.2.1, a7.2.2.1.trans q2.2.2.1, fun k k1 k2 k3 => (a7.2.2.2.1 k k1 k2 k3).trans (q2.2.2.2 k k1 k2 k3)⟩, zfPm_trans q6 a8⟩
      · unfold zpA; rw [zI_ne (by decide), zI_ne (by decide), a7.2.2.2.2 7 (by decide)]; exact q4
      · unfold zpA; rw [zI_ne (by decide), zI_ne (by decide), a7.2.2.2.2 8 (by decide), q5]; exact z2
      · unfold zpA; rw [z_jI2 ha, z_jI2 ha, a7.1 a ha]; exact q2.1 a ha
    · exact Or.inr ⟨f, pl2, v', wm', a1, by rw [q11]; exact a2, a3, a4, fun nf => by rw [q12]; exact a5 nf b1, a6, tr ⟨fun a ha => (a7.1 a ha).trans (q2.1 a ha), a7.2.1.trans q2.2.1, a7.2.2.1.trans q2.2.2.1, fun k k1 k2 k3 => (a7.2.2.2 k k1 k2 k3).trans (q2.2.2.2 k k1 k2 k3)⟩, ⟨a8.1.trans q6.1, fun a ha => (a8.2.1 a ha).trans (q6.2.1 a ha), a8.2.2.1.trans q6.2.2.1, fun p hp => (a8.2.2.2 p hp).trans (q6.2.2.2.2 p hp)⟩⟩
  have p20 : f_X12_is 20 wm = some (decide ((zt T 0).1 = kPage), wm) := by
    rw [z_isR (i := 0) hT r13 r11 T0 hl]
    exact congrArg (fun b => some (b, wm)) (z_isK (b := kPage) hT T0 (by decide))
  by_cases c : (zt T 0).1 = kPage
  · have nk := z_kne (T := T) c (by decide)
    have T1 := z_nx tk T0 nk.1 nk.2 (by decide)
    have wmF : zfPm wm (jsetI wm 162 11 (nI 1)) := zfPm_I (by decide) (by decide)
    have eR : ∀ nf, zrP nf wm = jbd2 (f_X12_bounded 6 12 (jsetI wm 162 11 (nI 1))) fun x54 w55 => jbd (f_X12_must 4 w55) fun q56 => (l_X12_read_110F nf jfu x54 q56) := fun nf => by
      unfold zrP
      rw [p20, z_jbd2, decide_eq_true c, if_neg (show ¬ jb true = 0 by decide), z_goR (i := 0) r11 (by decide), z_jbd]
    have eCl : f_X7_parseAll w = jbd (jbd2 (f_X7_takeNumber 6 12 (zpA v0 1 0)) fun x7 w8 => jl (jsetI w8 10 8 x7) fun w9 => jbd (f_X7_takeKind 59 w9) fun q10 => some q10) fun q34 => l_X7_parseAll jfu 0 q34 := by
      rw [s1]
      unfold f_X7_parsePage
      rw [z_aheadC hC0 (by decide), z_jbd2, if_pos (show zkC (zt T 0).1 = 3 by rw [c]; rfl), z_takeC v0 (by decide), z_jbd]
    have hw1 : zWr T 1 v0 (jsetI wm 162 11 (nI 1)) := Or.inl ⟨s3, by rw [zI_ne (by decide)]; exact r15⟩
    have pl3 : ∀ w', zfPc v0 w' → zfPo v0 w' := fun w' h => ⟨h.1, h.2.1, h.2.2.1, h.2.2.2.1⟩
    rcases z_num (i := 1) (wm := jsetI wm 162 11 (nI 1)) tk pl hC0 (zTRx_m hT wmF) T1 (zI_eq _ _ _ _) (by rw [zI_ne (by decide)]; exact r13) hw1 6 12 with ⟨w2, wm2, b1, b2, b3, b4, b5, b6, b7, b8, b9, b10, b11, b12, b13, b14⟩ | ⟨f, x, x', w2, wm2, b1, b2, b3, b4, b5, b6, b7, b8, b9⟩
    · rw [b4, z_jbd2, z_jl, zpA_s8] at eCl
      have fP : zfPo v0 (jsetI w2 10 8 (zt T 1).2.2) := zfPo_I (pl3 w2 b9) 8 _
      have hC3 : zTC T (jsetI w2 10 8 (zt T 1).2.2) := (zTC_c hC0 b9 : zTC T w2)
      have wmF2 : zfPm wm wm2 := zfPm_trans wmF b10
      rcases z_must (w := jsetI w2 10 8 (zt T 1).2.2) (b := kSemi) tk hC3 (zTRx_m hT wmF2) b3 b8 (by rw [b11 13 (by decide) (by decide) (by decide), zI_ne (by decide)]; exact r13) (by decide) with ⟨a1, a2, a3, a4, a5⟩ | ⟨f, a1, a2, a3⟩
      · rw [show f_X7_takeKind 59 (zpA (jsetI w2 10 8 (zt T 1).2.2) (1 + 1) 0) = _ from a4, z_jbd, z_jbd] at eCl
        have wmF3 : zfPm wm (jsetI wm2 162 11 (nI (1 + 1 + 1))) := zfPm_trans wmF2 (zfPm_I (by decide) (by decide))
        refine go 3 (jsetI w2 10 8 (zt T 1).2.2) (jsetI wm2 162 11 (nI (1 + 1 + 1))) (zt T 1).2.2 (Int32.toNatClampNeg (zt T 1).2.2) (by unfold zbeg; rw [if_pos c]) a3 fP b13 ?_ (zI_eq _ _ _ _) wmF3 (fun j hj => ?_) (zI_eq _ _ _ _) ?_ (fun z => ?_) (fun z => ?_) eCl (fun nf => ?_)
        · rw [zI_ne (by decide), b9.2.2.2.2 7 (by decide)]; exact s4
        · rw [zI_ne (by omega), b11 j (by omega) (by omega) (by omega), zI_ne (by omega)]
          rcases hj with z | z | z | z | z <;> rw [z]
          · exact r12
          · exact r13
          · exact r18
          · exact r24
          · exact r26
        · unfold zWr
          rw [zI_ne (show 5 ≠ 8 by decide), zI_ne (show 15 ≠ 11 by decide), zI_ne (show 16 ≠ 11 by decide)]
          rcases b6 with z | ⟨t, z1, z2⟩
          · exact Or.inl z
          · exact Or.inr ⟨t, by omega, z2⟩
        · rw [zI_ne (by decide)] at z
          exact fun _ => b7 z
        · obtain ⟨z1, z2⟩ := z c
          have n0 : ¬ (zt T 1).2.2 < 0 := by
            rw [Int32.le_iff_toInt_le] at z1
            rw [Int32.lt_iff_toInt_lt]
            have e6 : (6 : Int32).toInt = 6 := rfl
            have e0 : (0 : Int32).toInt = 0 := rfl
            omega
          obtain ⟨B, B1, B2⟩ := nI_of n0
          rw [B2, nI_clamp B1]
          rw [B2, Int32.le_iff_toInt_le, nI_toInt B1] at z1 z2
          have e6 : (6 : Int32).toInt = 6 := rfl
          have e12 : (12 : Int32).toInt = 12 := rfl
          exact ⟨rfl, by omega, by omega⟩
        · rw [eR, b5, z_jbd2, show f_X12_must 4 wm2 = _ from a5, z_jbd]
      · rw [show f_X7_takeKind 59 (zpA (jsetI w2 10 8 (zt T 1).2.2) (1 + 1) 0) = _ from a2, z_jbd, z_jbd] at eCl
        obtain ⟨v1, v2⟩ := zR_f wm2 f (zt T (1 + 1)).2.1
        refine zAll_F (b1 := (zt T 1).2.2) a1 b3 hl hC3 (eCl.trans (z_pAf _ 39999 0 _ (zf12 a1).1)) (fun nf => ?_) v1 v2 (tr fP) (zfPm_trans wmF2 (zfPm_trans (zfPm_I (by decide) (by decide)) (zfPm_I (by decide) (by decide))))
        rw [eR, b5, z_jbd2, show f_X12_must 4 wm2 = _ from a3, z_jbd]
        exact z_r110F (by rw [v1]; exact a1) nf 39999 _
    · have hCx : zTC T (jsetI w2 10 8 x) := (zTC_c hC0 b6 : zTC T w2)
      rw [b2, z_jbd2, z_jl, zpA_s8, z_tkF (w := jsetI w2 10 8 x) hCx (show 1 < 1000 by decide) 59 (zf12 b1).1, z_jbd, z_jbd] at eCl
      refine zAll_F (b1 := x') b1 T1 hl (w' := jsetI w2 10 8 x) hCx (eCl.trans (z_pAf _ 39999 0 _ (zf12 b1).1)) (fun nf => ?_) b4 b5 (tr (zfPo_I (pl3 w2 b6) 8 _)) (zfPm_trans wmF b7)
      rw [eR, b3, z_jbd2, z_muF (by rw [b4]; exact b1), z_jbd]
      exact z_r110F (by rw [b4]; exact b1) nf 39999 _
  · refine go 0 v0 wm 8 8 (by unfold zbeg; rw [if_neg c]) T0 ⟨fun _ _ => rfl, rfl, rfl, fun _ _ _ _ => rfl⟩ rfl s4 s5 (zfPm_rfl wm) (fun j hj => ?_) r11 (Or.inl ⟨s3, r15⟩) (fun _ z => absurd z c) (fun _ => ⟨rfl, by decide, by decide⟩) ?_ (fun nf => ?_)
    · rcases hj with z | z | z | z | z <;> rw [z]
      · exact r12
      · exact r13
      · exact r18
      · exact r24
      · exact r26
    · rw [s1]
      unfold f_X7_parsePage
      rw [z_aheadC hC0 (by decide), z_jbd2, if_neg (show ¬ zkC (zt T 0).1 = 3 from fun z => c (zkC_eq.mp z)), z_jbd]
    · unfold zrP
      rw [p20, z_jbd2, decide_eq_false c, if_pos (show jb false = 0 from rfl)]
end
