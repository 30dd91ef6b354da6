section
/-! tells: frames, the semicolon, a number -/
def zfPc (w w' : jw) : Prop := (∀ a, a ≠ 10 → w'.1 a = w.1 a) ∧ w'.2.1 = w.2.1 ∧ w'.2.2.1 = w.2.2.1 ∧ (∀ k, k ≠ 11 → k ≠ 13 → k ≠ 15 → w'.2.2.2 k = w.2.2.2 k) ∧ ∀ j, j ≠ 5 → w'.1 10 j = w.1 10 j
theorem zfPc_rfl (w : jw) : zfPc w w := ⟨fun _ _ => rfl, rfl, rfl, fun _ _ _ _ => rfl, fun _ _ => rfl⟩
theorem zfPc_trans {a b c : jw} (h : zfPc a b) (g : zfPc b c) : zfPc a c := ⟨fun x hx => (g.1 x hx).trans (h.1 x hx), g.2.1.trans h.2.1, g.2.2.1.trans h.2.2.1, fun k k1 k2 k3 => (g.2.2.2.1 k k1 k2 k3).trans (h.2.2.2.1 k k1 k2 k3), fun j hj => (g.2.2.2.2 j hj).trans (h.2.2.2.2 j hj)⟩
def zfPm (w w' : jw) : Prop := w'.2.2 = w.2.2 ∧ (∀ a, a ≠ 162 → w'.1 a = w.1 a) ∧ w'.1 162 2 = w.1 162 2 ∧ w'.1 162 17 = w.1 162 17 ∧ ∀ p, (p < 170 ∨ 178 < p) → w'.2.1 p = w.2.1 p
theorem zfPm_rfl (w : jw) : zfPm w w := ⟨rfl, fun _ _ => rfl, rfl, rfl, fun _ _ => rfl⟩
theorem zfPm_trans {a b c : jw} (h : zfPm a b) (g : zfPm b c) : zfPm a c := ⟨g.1.trans h.1, fun x hx => (g.2.1 x hx).trans (h.2.1 x hx), g.2.2.1.trans h.2.2.1, g.2.2.2.1.trans h.2.2.2.1, fun p hp => (g.2.2.2.2 p hp).trans (h.2.2.2.2 p hp)⟩
theorem zfPm_E {cb : Nat} {w w' : jw} (h : zfEx cb w w') : zfPm w w' := ⟨h.1, h.2.1, h.2.2.1 2 (by decide) (by decide) (by decide) (by decide) (by decide) (by decide), h.2.2.1 17 (by decide) (by decide) (by decide) (by decide) (by decide) (by decide), fun p hp => h.2.2.2.1 p (by omega) (by omega) (by omega)⟩
theorem zfPm_I {w : jw} {j : Nat} {x : Int32} (h2 : j ≠ 2) (h17 : j ≠ 17) : zfPm w (jsetI w 162 j x) := ⟨rfl, fun a ha => z_jI2 ha, zI_ne (Ne.symm h2), zI_ne (Ne.symm h17), fun _ _ => rfl⟩
theorem zfPm_X {w : jw} {p i : Nat} {x : Int32} (h1 : 170 ≤ p) (h2 : p ≤ 178) : zfPm w (jsetX w p i x) := ⟨rfl, fun _ _ => rfl, rfl, rfl, fun q hq => z_jX2 (by omega)⟩
theorem zTRx_m {T : List zT} {w w' : jw} (h : zTRx T w) (f : zfPm w w') : zTRx T w' := fun i x hx => by
  rw [f.2.2.2.2 165 (by omega), f.2.2.2.2 166 (by omega), f.2.2.2.2 167 (by omega)]
  exact h i x hx
theorem zTC_c {T : List zT} {w w' : jw} (h : zTC T w) (f : zfPc w w') : zTC T w' := ⟨by rw [f.2.2.2.1 4 (by decide) (by decide) (by decide)]; exact h.1, by rw [f.2.2.2.1 6 (by decide) (by decide) (by decide)]; exact h.2.1, by rw [f.2.2.2.1 8 (by decide) (by decide) (by decide)]; exact h.2.2⟩
def zFail (T : List zT) (w wm : jw) (rc rm : Option jw) : Prop := ∃ w' j f wm', (f = 1 ∨ f = 2) ∧ j < T.length ∧ rc = some (zpA w' j f) ∧ rm = some wm' ∧ wm'.1 162 13 = f ∧ wm'.1 162 14 = (zt T j).2.1 ∧ zfPc w w' ∧ zfPm wm wm'
theorem zf12 {f : Int32} (h : f = 1 ∨ f = 2) : f ≠ 0 ∧ ¬ f ≤ 0 := by rcases h with z | z <;> rw [z] <;> decide
theorem z_exF (w : jw) (j : Nat) {f : Int32} (hf : f ≠ 0) : f_X7_parseExpression (zpA w j f) = some (zpA w j f) := by
  show l_X7_parseExpression (39999 + 1) 0 1 0 (zpA w j f) = _
  exact z_peF w j 39999 0 1 0 hf
theorem z_tkF {T : List zT} {w : jw} (hC : zTC T w) {j : Nat} (hj : j < 1000) (a : Int32) {f : Int32} (hf : f ≠ 0) : f_X7_takeKind a (zpA w j f) = some (zpA w j f) := by
  unfold f_X7_takeKind
  rw [z_aheadC hC hj, z_jbd2]
  split
  · rw [z_takeF w j hf, z_jbd]
  · rw [z_failC2 w j 1 hf, z_jbd, z_takeF w j hf, z_jbd]
theorem z_muF {w : jw} (h : w.1 162 13 = 1 ∨ w.1 162 13 = 2) (a : Int32) : f_X12_must a w = some w := by
  unfold f_X12_must
  rw [z_isF (zf12 h).1, z_jbd2, if_pos (show jb false = 0 from rfl), z_failR2 (zf12 h).2, z_jbd]
variable {T : List zT} {w wm : jw} {i : Nat}
theorem z_tkOk (hC : zTC T w) (hi : i < 400) {b : zK} (hk : (zt T i).1 = b) : f_X7_takeKind (zkC b) (zpA w i 0) = some (zpA w (i + 1) 0) := by
  unfold f_X7_takeKind
  rw [z_aheadC hC (by omega), z_jbd2, hk, if_pos rfl, z_takeC w hi, z_jbd]
/-- what both do at a token that must be there -/
theorem z_must (tk : zTok T) (hC : zTC T w) (hT : zTRx T wm) (hi : i < T.length) (h11 : wm.1 162 11 = nI i) (h13 : wm.1 162 13 = 0) {b : zK} (hb : b ≠ kNo ∧ b ≠ kStop) : ((zt T i).1 = b ∧ i < 400 ∧ i + 1 < T.length ∧ f_X7_takeKind (zkC b) (zpA w i 0) = some (zpA w (i + 1) 0) ∧ f_X12_must (zkR b) wm = some (jsetI wm 162 11 (nI (i + 1)))) ∨ ∃ f, (f = 1 ∨ f = 2) ∧ f_X7_takeKind (zkC b) (zpA w i 0) = some (zpA w i f) ∧ f_X12_must (zkR b) wm = some (jsetI (jsetI wm 162 13 f) 162 14 (zt T i).2.1) := by
  have hl := tk.2.1
  unfold f_X7_takeKind f_X12_must
  rw [z_aheadC hC (by omega), z_jbd2, z_isR hT h13 h11 hi hl, z_jbd2, z_isK hT hi hb.1]
  by_cases c : (zt T i).1 = b
  · rw [if_pos (by rw [c]), decide_eq_true c, if_neg (show ¬ jb true = 0 by decide)]
    by_cases i4 : i < 400
    · rw [z_takeC w i4, z_jbd, z_goR h11 i4, z_jbd]
      exact Or.inl ⟨c, i4, z_nx tk hi (by rw [c]; exact hb.2) (by rw [c]; exact hb.1) i4, rfl, rfl⟩
    · have : i = 400 := by omega
      subst this
      rw [z_take4, z_jbd, z_goF hT h13 h11 hi hl, z_jbd]
      exact Or.inr ⟨2, Or.inr rfl, rfl, rfl⟩
  · rw [if_neg (fun z => c (zkC_eq.mp z)), decide_eq_false c, if_pos (show jb false = 0 from rfl), z_failC, z_jbd, z_takeF w i (by decide), z_jbd, z_failR hT h13 h11 hi hl, z_jbd]
    exact Or.inr ⟨1, Or.inl rfl, rfl, rfl⟩
/-- a token taken whatever it is -/
theorem z_go (tk : zTok T) (hT : zTRx T wm) (hi : i < T.length) (h11 : wm.1 162 11 = nI i) (h13 : wm.1 162 13 = 0) (h1 : (zt T i).1 ≠ kStop) (h2 : (zt T i).1 ≠ kNo) : (i < 400 ∧ i + 1 < T.length ∧ f_X7_take (zpA w i 0) = some (zpA w (i + 1) 0) ∧ f_X12_goesOn wm = some (jsetI wm 162 11 (nI (i + 1)))) ∨ (f_X7_take (zpA w i 0) = some (zpA w i 2) ∧ f_X12_goesOn wm = some (jsetI (jsetI wm 162 13 2) 162 14 (zt T i).2.1)) := by
  have hl := tk.2.1
  by_cases i4 : i < 400
  · exact Or.inl ⟨i4, z_nx tk hi h1 h2 i4, z_takeC w i4, z_goR h11 i4⟩
  · have : i = 400 := by omega
    subst this
    exact Or.inr ⟨z_take4 w, z_goF hT h13 h11 hi hl⟩
theorem zpA_s5 (w : jw) (i : Nat) (f x : Int32) : jsetI (zpA w i f) 10 5 x = zpA (jsetI w 10 5 x) i f := by
  refine z_jIe _ _ _ _ _ rfl fun p q => ?_
  show (if p = 10 ∧ q = 5 then x else if p = 10 ∧ q = 6 then f else if p = 10 ∧ q = 4 then nI i else w.1 p q) = if p = 10 ∧ q = 6 then f else if p = 10 ∧ q = 4 then nI i else if p = 10 ∧ q = 5 then x else w.1 p q
  by_cases c : p = 10 ∧ q = 5
  · rw [if_pos c, if_neg (by omega), if_neg (by omega), if_pos c]
  · rw [if_neg c, if_neg c]
theorem zpA_5 (w : jw) (i : Nat) (f : Int32) : (zpA w i f).1 10 5 = w.1 10 5 := by unfold zpA; rw [zI_ne (by decide), zI_ne (by decide)]
/-- places of tokens -/
def zPl (T : List zT) : Prop := ∃ f : Nat → Nat, (∀ j, j < T.length → (zt T j).2.1 = nI (f j) ∧ f j ≤ 3000) ∧ ∀ a b, a < b → b < T.length → f a < f b
/-- a wrong number, first of all -/
def zWr (T : List zT) (i : Nat) (w wm : jw) : Prop := (w.1 10 5 = -1 ∧ wm.1 162 15 = 0) ∨ ∃ t, t < i ∧ w.1 10 5 = (zt T t).2.1 ∧ wm.1 162 15 = 5 ∧ wm.1 162 16 = (zt T t).2.1
theorem z_wrongR (pl : zPl T) (hT : zTRx T wm) (hi : i < T.length) (hl : T.length ≤ 401) (h13 : wm.1 162 13 = 0) (h : zWr T i w wm) : ∃ w' wm', f_X12_wrong 5 (nI i) wm = some wm' ∧ (if w.1 10 5 = -1 then jsetI w 10 5 (zt T i).2.1 else w) = w' ∧ zWr T (i + 1) w' wm' ∧ wm'.1 162 15 = 5 ∧ zfPc w w' ∧ zfPm wm wm' ∧ (∀ j, j ≠ 15 → j ≠ 16 → wm'.1 162 j = wm.1 162 j) ∧ wm'.2 = wm.2 := by
  obtain ⟨f, f1, f2⟩ := pl
  have pi : (zt T i).2.1 ≠ -1 := fun z => by
    rw [(f1 i hi).1] at z
    exact nI_pos (show f i < 2 ^ 31 by have := (f1 i hi).2; omega) (by rw [z]; decide)
  unfold f_X12_wrong
  rw [z_jg (z_in (show i < 403 by omega) (by decide)), nI_clamp (by omega), (hT i _ (zt_some hi)).2.1, z_jl, h13, if_neg (by decide)]
  rcases h with ⟨a1, a2⟩ | ⟨t, t1, a1, a2, a3⟩
  · refine ⟨_, jsetI (jsetI wm 162 15 5) 162 16 (zt T i).2.1, ?_, rfl, ?_, ?_, ?_, ?_, ?_, ?_⟩
    · rw [a2, if_pos rfl, z_jl, z_jl]
    · rw [if_pos a1]
      exact Or.inr ⟨i, by omega, by rw [zI_eq], by rw [zI_ne (by decide), zI_eq], by rw [zI_eq]⟩
    · rw [zI_ne (by decide), zI_eq]
    · rw [if_pos a1]
      exact ⟨fun a ha => z_jI2 ha, rfl, rfl, fun _ _ _ _ => rfl, fun j hj => zI_ne hj⟩
    · exact zfPm_trans (zfPm_I (by decide) (by decide)) (zfPm_I (by decide) (by decide))
    · intro j j1 j2
      rw [zI_ne j2, zI_ne j1]
    · rfl
  · have tl : t < T.length := by omega
    have pt : (zt T t).2.1 ≠ -1 := fun z => by
      rw [(f1 t tl).1] at z
      exact nI_pos (show f t < 2 ^ 31 by have := (f1 t tl).2; omega) (by rw [z]; decide)
    refine ⟨w, wm, ?_, by rw [if_neg (by rw [a1]; exact pt)], Or.inr ⟨t, by omega, a1, a2, a3⟩, a2, zfPc_rfl w, zfPm_rfl wm, fun _ _ _ => rfl, rfl⟩
    rw [a2, if_neg (by decide), a3, if_pos ?_]
    rw [(f1 t tl).1, (f1 i hi).1]
    exact nI_lt (f2 t i t1 hi) (by have := (f1 i hi).2; omega)
/-- a number that must lie between two others -/
theorem z_num (tk : zTok T) (pl : zPl T) (hC : zTC T w) (hT : zTRx T wm) (hi : i < T.length) (h11 : wm.1 162 11 = nI i) (h13 : wm.1 162 13 = 0) (hw : zWr T i w wm) (lo hi' : Int32) :
    (∃ w' wm', (zt T i).1 = kInt ∧ i < 400 ∧ i + 1 < T.length ∧ f_X7_takeNumber lo hi' (zpA w i 0) = some ((zt T i).2.2, zpA w' (i + 1) 0) ∧ f_X12_bounded lo hi' wm = some ((zt T i).2.2, wm') ∧ zWr T (i + 1) w' wm' ∧ (wm'.1 162 15 = 0 → lo ≤ (zt T i).2.2 ∧ (zt T i).2.2 ≤ hi') ∧ wm'.1 162 11 = nI (i + 1) ∧ zfPc w w' ∧ zfPm wm wm' ∧ (∀ j, j ≠ 11 → j ≠ 15 → j ≠ 16 → wm'.1 162 j = wm.1 162 j) ∧ wm'.2 = wm.2 ∧ w'.2.2.2 = w.2.2.2 ∧ (wm'.1 162 15 = 0 → wm.1 162 15 = 0)) ∨
    ∃ f x x' w' wm', (f = 1 ∨ f = 2) ∧ f_X7_takeNumber lo hi' (zpA w i 0) = some (x, zpA w' i f) ∧ f_X12_bounded lo hi' wm = some (x', wm') ∧ wm'.1 162 13 = f ∧ wm'.1 162 14 = (zt T i).2.1 ∧ zfPc w w' ∧ zfPm wm wm' ∧ wm'.2.1 = wm.2.1 ∧ (∀ j, j ≠ 11 → j ≠ 13 → j ≠ 14 → j ≠ 15 → j ≠ 16 → wm'.1 162 j = wm.1 162 j) := by
  have hl := tk.2.1
  have gj : jin (wm.1 162 11) 403 = true := by rw [h11]; exact z_in (by omega) (by decide)
  have cl : Int32.toNatClampNeg (wm.1 162 11) = i := by rw [h11, nI_clamp (by omega)]
  have e2 : f_X12_is 2 wm = some (decide ((zt T i).1 = kInt), wm) := by
    rw [z_isR hT h13 h11 hi hl]
    exact congrArg (fun b => some (b, wm)) (z_isK (b := kInt) hT hi (by decide))
  unfold f_X7_takeNumber f_X12_bounded
  rw [zpA_4, show rat ((zpA w i 0).2.2.2 6) (nI i) = (zt T i).2.2 from zTC_v hC (by omega), z_jl, z_aheadC hC (by omega), z_jbd2, zpA_5, zpA_4, show rat ((zpA w i 0).2.2.2 8) (nI i) = (zt T i).2.1 from zTC_p hC (by omega), zpA_s5, h13, if_neg (show ¬ ((0 : Int32) < 0) by decide), e2, z_jbd2]
  by_cases c : (zt T i).1 = kInt
  · have nk : (zt T i).1 ≠ kStop ∧ (zt T i).1 ≠ kNo := z_kne c (by decide)
    rw [if_pos (show zkC (zt T i).1 = 2 by rw [c]; rfl), decide_eq_true c, if_neg (show ¬ jb true = 0 by decide), z_jg gj, cl, (hT i _ (zt_some hi)).2.2 c, z_jl]
    have fin : ∀ (w' wm' : jw), zTC T w' → zTRx T wm' → wm'.1 162 11 = nI i → wm'.1 162 13 = 0 → (i < 400 ∧ i + 1 < T.length ∧ (jbd (f_X7_takeKind 2 (zpA w' i 0)) fun q => some ((zt T i).2.2, q)) = some ((zt T i).2.2, zpA w' (i + 1) 0) ∧ (jbd (f_X12_goesOn wm') fun q => some ((zt T i).2.2, q)) = some ((zt T i).2.2, jsetI wm' 162 11 (nI (i + 1)))) ∨ ((jbd (f_X7_takeKind 2 (zpA w' i 0)) fun q => some ((zt T i).2.2, q)) = some ((zt T i).2.2, zpA w' i 2) ∧ (jbd (f_X12_goesOn wm') fun q => some ((zt T i).2.2, q)) = some ((zt T i).2.2, jsetI (jsetI wm' 162 13 2) 162 14 (zt T i).2.1)) := fun w' wm' a1 a2 a3 a4 => by
      have e : f_X7_takeKind 2 (zpA w' i 0) = jbd (f_X7_take (zpA w' i 0)) fun q => some q := by
        unfold f_X7_takeKind
        rw [z_aheadC a1 (by omega), z_jbd2, if_pos (show zkC (zt T i).1 = 2 by rw [c]; rfl)]
      rw [e]
      rcases z_go (w := w') tk a2 hi a3 a4 nk.1 nk.2 with ⟨b1, b2, b3, b4⟩ | ⟨b1, b2⟩
      · rw [b3, b4]; exact Or.inl ⟨b1, b2, rfl, rfl⟩
      · rw [b1, b2]; exact Or.inr ⟨rfl, rfl⟩
    have good : ∀ (w' wm' : jw), zfPc w w' → zfPm wm wm' → (∀ j, j ≠ 15 → j ≠ 16 → wm'.1 162 j = wm.1 162 j) → wm'.2 = wm.2 → w'.2.2.2 = w.2.2.2 → zWr T (i + 1) w' wm' → (wm'.1 162 15 = 0 → lo ≤ (zt T i).2.2 ∧ (zt T i).2.2 ≤ hi') → (wm'.1 162 15 = 0 → wm.1 162 15 = 0) → ∀ rc rm, rc = (jbd (f_X7_takeKind 2 (zpA w' i 0)) fun q => some ((zt T i).2.2, q)) → rm = (jbd (f_X12_goesOn wm') fun q => some ((zt T i).2.2, q)) → (∃ w' wm', (zt T i).1 = kInt ∧ i < 400 ∧ i + 1 < T.length ∧ rc = some ((zt T i).2.2, zpA w' (i + 1) 0) ∧ rm = some ((zt T i).2.2, wm') ∧ zWr T (i + 1) w' wm' ∧ (wm'.1 162 15 = 0 → lo ≤ (zt T i).2.2 ∧ (zt T i).2.2 ≤ hi') ∧ wm'.1 162 11 = nI (i + 1) ∧ zfPc w w' ∧ zfPm wm wm' ∧ (∀ j, j ≠ 11 → j ≠ 15 → j ≠ 16 → wm'.1 162 j = wm.1 162 j) ∧ wm'.2 = wm.2 ∧ w'.2.2.2 = w.2.2.2 ∧ (wm'.1 162 15 = 0 → wm.1 162 15 = 0)) ∨ ∃ f x x' w' wm', (f = 1 ∨ f = 2) ∧ rc = some (x, zpA w' i f) ∧ rm = some (x', wm') ∧ wm'.1 162 13 = f ∧ wm'.1 162 14 = (zt T i).2.1 ∧ zfPc w w' ∧ zfPm wm wm' ∧ wm'.2.1 = wm.2.1 ∧ (∀ j, j ≠ 11 → j ≠ 13 → j ≠ 14 → j ≠ 15 → j ≠ 16 → wm'.1 162 j = wm.1 162 j) := fun w' wm' a1 a2 a3 a4 a5 a6 a7 a8 rc rm e1 e2 => by
      subst e1 e2
      rcases fin w' wm' (zTC_c hC a1) (zTRx_m hT a2) (by rw [a3 11 (by decide) (by decide)]; exact h11) (by rw [a3 13 (by decide) (by decide)]; exact h13) with ⟨b1, b2, b3, b4⟩ | ⟨b1, b2⟩
      · refine Or.inl ⟨w', _, c, b1, b2, b3, b4, ?_, ?_, by rw [zI_eq], a1, zfPm_trans a2 (zfPm_I (by decide) (by decide)), fun j j1 j2 j3 => by rw [zI_ne j1]; exact a3 j j2 j3, a4, a5, by rw [zI_ne (by decide)]; exact a8⟩
        · unfold zWr; rw [zI_ne (by decide), zI_ne (by decide)]; exact a6
        · rw [zI_ne (by decide)]; exact a7
      · obtain ⟨v1, v2⟩ := zR_f wm' 2 (zt T i).2.1
        refine Or.inr ⟨2, _, _, w', _, Or.inr rfl, b1, b2, v1, v2, a1, zfPm_trans a2 (zfPm_trans (zfPm_I (by decide) (by decide)) (zfPm_I (by decide) (by decide))), by rw [show (jsetI (jsetI wm' 162 13 2) 162 14 (zt T i).2.1).2.1 = wm'.2.1 from rfl, a4], fun j j1 j2 j3 j4 j5 => by rw [zI_ne j3, zI_ne j2]; exact a3 j j4 j5⟩
    have wrong : ∀ rc rm, ¬ (lo ≤ (zt T i).2.2 ∧ (zt T i).2.2 ≤ hi') → rc = (if w.1 10 5 = -1 then (jl (zpA (jsetI w 10 5 (zt T i).2.1) i 0) fun w10 => jbd (f_X7_takeKind 2 w10) fun q11 => some ((zt T i).2.2, q11)) else jbd (f_X7_takeKind 2 (zpA w i 0)) fun q8 => some ((zt T i).2.2, q8)) → rm = (jbd (f_X12_wrong 5 (wm.1 162 11) wm) fun q10 => jbd (f_X12_goesOn q10) fun q11 => some ((zt T i).2.2, q11)) → (∃ w' wm', (zt T i).1 = kInt ∧ i < 400 ∧ i + 1 < T.length ∧ rc = some ((zt T i).2.2, zpA w' (i + 1) 0) ∧ rm = some ((zt T i).2.2, wm') ∧ zWr T (i + 1) w' wm' ∧ (wm'.1 162 15 = 0 → lo ≤ (zt T i).2.2 ∧ (zt T i).2.2 ≤ hi') ∧ wm'.1 162 11 = nI (i + 1) ∧ zfPc w w' ∧ zfPm wm wm' ∧ (∀ j, j ≠ 11 → j ≠ 15 → j ≠ 16 → wm'.1 162 j = wm.1 162 j) ∧ wm'.2 = wm.2 ∧ w'.2.2.2 = w.2.2.2 ∧ (wm'.1 162 15 = 0 → wm.1 162 15 = 0)) ∨ ∃ f x x' w' wm', (f = 1 ∨ f = 2) ∧ rc = some (x, zpA w' i f) ∧ rm = some (x', wm') ∧ wm'.1 162 13 = f ∧ wm'.1 162 14 = (zt T i).2.1 ∧ zfPc w w' ∧ zfPm wm wm' ∧ wm'.2.1 = wm.2.1 ∧ (∀ j, j ≠ 11 → j ≠ 13 → j ≠ 14 → j ≠ 15 → j ≠ 16 → wm'.1 162 j = wm.1 162 j) := fun rc rm bad e1 e2 => by
      obtain ⟨w1, wm1, q1, q2, q3, q4, q5, q6, q7, q8⟩ := z_wrongR pl hT hi hl h13 hw
      refine good w1 wm1 q5 q6 q7 q8 (by rw [← q2]; split <;> rfl) q3 (fun z => by rw [q4] at z; exact absurd z (by decide)) (fun z => by rw [q4] at z; exact absurd z (by decide)) rc rm ?_ ?_
      · rw [e1, ← q2]
        by_cases d : w.1 10 5 = -1
        · rw [if_pos d, if_pos d, z_jl]
        · rw [if_neg d, if_neg d]
      · rw [e2, h11, q1, z_jbd]
    by_cases a1 : (zt T i).2.2 < lo
    · refine wrong _ _ (fun z => absurd a1 (Int32.not_lt.mpr z.1)) ?_ ?_
      · rw [if_pos a1]; rfl
      · rw [z_jl, if_pos a1]
    · by_cases a2 : (zt T i).2.2 ≤ hi'
      · refine good w wm (zfPc_rfl w) (zfPm_rfl wm) (fun _ _ _ => rfl) rfl rfl ?_ (fun _ => ⟨Int32.not_lt.mp a1, a2⟩) (fun z => z) _ _ ?_ ?_
        · rcases hw with z | ⟨t, z1, z2⟩
          · exact Or.inl z
          · exact Or.inr ⟨t, by omega, z2⟩
        · rw [if_neg a1, if_pos a2]
          split <;> rfl
        · rw [z_jl, if_neg a1, if_pos a2]
      · refine wrong _ _ (fun z => a2 z.2) ?_ ?_
        · rw [if_neg a1, if_neg a2]; rfl
        · rw [z_jl, if_neg a1, if_neg a2]
  · rw [if_neg (show ¬ zkC (zt T i).1 = 2 from fun z => c (zkC_eq.mp z)), decide_eq_false c, if_pos (show jb false = 0 from rfl), z_failR hT h13 h11 hi hl, z_jbd]
    have e : f_X7_takeKind 2 (zpA w i 0) = some (zpA w i 1) := by
      unfold f_X7_takeKind
      rw [z_aheadC hC (by omega), z_jbd2, if_neg (show ¬ zkC (zt T i).1 = 2 from fun z => c (zkC_eq.mp z)), z_failC, z_jbd, z_takeF w i (by decide), z_jbd]
    rw [e, z_jbd]
    obtain ⟨v1, v2⟩ := zR_f wm 1 (zt T i).2.1
    exact Or.inr ⟨1, _, _, w, _, Or.inl rfl, rfl, rfl, v1, v2, zfPc_rfl w, zfPm_trans (zfPm_I (by decide) (by decide)) (zfPm_I (by decide) (by decide)), rfl, fun j j1 j2 j3 j4 j5 => by rw [zI_ne j3, zI_ne j2]⟩
end
