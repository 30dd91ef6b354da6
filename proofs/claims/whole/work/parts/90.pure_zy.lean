section
/-! the relation over one world; steps -/
theorem zSm_cg {N N' : Nat → Int32} {a : Nat} {es : List zE} (h : ∀ q, q < 34700 → N' q = N q) (hb : a + 4 * es.length ≤ 34700) (hM : zSm N a es) : zSm N' a es := fun i e he => by
  have hl : i < es.length := zlen_lt he
  obtain ⟨r1, r2, r3, r4⟩ := hM i e he
  exact ⟨by rw [h _ (by omega)]; exact r1, by rw [h _ (by omega)]; exact r2, by rw [h _ (by omega)]; exact r3, by rw [h _ (by omega)]; exact r4⟩
theorem zMi_cg {S : zS} {N N' : Nat → Int32} (h : ∀ q, q < 34700 → N' q = N q) (hl : S.2.2.2.2.length ≤ 3000) (rl : S.2.2.2.1.length ≤ 700) (hM : zMi S N) : zMi S N' := by
  obtain ⟨⟨a1, a2, a3, a4⟩, ⟨b1, b2⟩, ⟨c1, c2, c3, c4⟩, d⟩ := hM
  have vl := zvr_le S.2.2.2.2
  refine ⟨⟨by rw [h _ (by omega)]; exact a1, by rw [h _ (by omega)]; exact a2, a3, fun p hp => ?_⟩, ⟨by rw [h _ (by omega)]; exact b1, fun i q hq => ?_⟩, ⟨zSm_cg h (by omega) c1, by rw [h _ (by omega)]; exact c2, by rw [h _ (by omega)]; exact c3, fun k hk => by rw [h _ (by omega)]; exact c4 k hk⟩, by rw [h _ (by omega)]; exact d⟩
  · obtain ⟨e1, e2, e3, e4, e5, e6⟩ := a4 p hp
    exact ⟨by rw [h _ (by omega)]; exact e1, by rw [h _ (by omega)]; exact e2, by rw [h _ (by omega)]; exact e3, by rw [h _ (by omega)]; exact e4, e5, zSm_cg h (by omega) e6⟩
  · have : i < S.2.2.2.1.length := by
      rcases Nat.lt_or_ge i S.2.2.2.1.length with c | c
      · exact c
      · rw [List.getElem?_eq_none c] at hq; cases hq
    rw [h _ (by omega), h _ (by omega)]
    exact b2 i q hq
theorem zCi_fr {S : zS} {w w' : jw} (h1 : ∀ a, a = 18 ∨ a = 35 → w'.1 a = w.1 a) (h2 : ∀ k, 19 ≤ k → k ≤ 46 → w'.2.2.2 k = w.2.2.2 k) (hC : zCi S w) : zCi S w' :=
  zCi_of ⟨by rw [h1 18 (Or.inl rfl)], by rw [h1 35 (Or.inr rfl)], h2 19 (by decide) (by decide), h2 21 (by decide) (by decide), h2 23 (by decide) (by decide), h2 25 (by decide) (by decide), h2 27 (by decide) (by decide), h2 29 (by decide) (by decide), h2 31 (by decide) (by decide), h2 33 (by decide) (by decide), h2 36 (by decide) (by decide), h2 38 (by decide) (by decide), h2 40 (by decide) (by decide), h2 42 (by decide) (by decide), h2 44 (by decide) (by decide), h2 46 (by decide) (by decide)⟩ hC
def zSl (m i : Nat) (w : jw) : Prop := w.1 (69 + 31 * i) 4 = w.2.1 191 i ∧ (w.2.1 191 i ≠ 0 → ∃ S : zS, zIn S ∧ S.2.2.2.2.length ≤ m ∧ zCi S (zsh (52 + 31 * i) w) ∧ zMi S (fun q => w.2.1 192 (34700 * i + q)) ∧ w.2.1 192 (34700 * i + 5) = w.2.1 182 5 ∧ w.2.1 192 (34700 * i + 6) = w.2.1 182 6)
def zkeys : List Int64 := [315851, 12251, 2774, 123, 4027, 9, 10, 400577, 243356, 237458, 8527996]
def zKy (w : jw) : Prop := ∀ i, i < 11 → w.2.2.1 169 i = zkeys.getD i 0
def zTop (m : Nat) (S : zS) (w : jw) : Prop := zIn S ∧ S.2.2.2.2.length ≤ m ∧ zCi S w ∧ zMi S (w.2.1 182) ∧ zTp w w ∧ w.1 0 10 = w.2.1 182 5 ∧ w.1 0 11 = w.2.1 182 6 ∧ w.1 0 9 = w.1 162 17 ∧ (∀ i, i < 3 → zSl m i w) ∧ zKy w
def zFt (w w' : jw) : Prop := w'.1 0 = w.1 0 ∧ (∀ a, 69 ≤ a → a ≤ 161 → w'.1 a = w.1 a) ∧ (∀ k, 69 ≤ k → k ≤ 161 → w'.2.2.2 k = w.2.2.2 k) ∧ w'.2.1 191 = w.2.1 191 ∧ w'.2.1 192 = w.2.1 192 ∧ w'.1 162 2 = w.1 162 2 ∧ w'.1 162 17 = w.1 162 17 ∧ w'.2.1 163 = w.2.1 163 ∧ w'.2.2.2 1 = w.2.2.2 1 ∧ w'.2.2.1 169 = w.2.2.1 169 ∧ w'.2.1 182 5 = w.2.1 182 5 ∧ w'.2.1 182 6 = w.2.1 182 6
theorem zFt_trans {a b c : jw} (h : zFt a b) (g : zFt b c) : zFt a c := by
  obtain ⟨h1, h2, h3, h4, h5, h6, h7, h8, h9, h10, h11, h12⟩ := h
  obtain ⟨g1, g2, g3, g4, g5, g6, g7, g8, g9, g10, g11, g12⟩ := g
  exact ⟨g1.trans h1, fun a x y => (g2 a x y).trans (h2 a x y), fun a x y => (g3 a x y).trans (h3 a x y), g4.trans h4, g5.trans h5, g6.trans h6, g7.trans h7, g8.trans h8, g9.trans h9, g10.trans h10, g11.trans h11, g12.trans h12⟩
theorem zFt_c {w w' : jw} (h : zfQc w w') : zFt w w' := by
  obtain ⟨h1, h2, h3, h4⟩ := h
  exact ⟨by rw [h1], fun a _ _ => by rw [h1], fun k _ _ => h4 k (by omega) (by omega) (by omega) (by omega), by rw [h2], by rw [h2], by rw [h1], by rw [h1], by rw [h2], h4 1 (by decide) (by decide) (by decide) (by decide), by rw [h3], by rw [h2], by rw [h2]⟩
theorem zFt_m {w w' : jw} (h : zfQm w w') : zFt w w' := by
  obtain ⟨h1, h2, h3, h4⟩ := h
  have e : w'.2.1 182 = w.2.1 182 := h4 182 (by decide) (by decide) (by decide) (by decide) (by decide)
  exact ⟨h2 0 (by decide), fun a _ _ => h2 a (by omega), fun k _ _ => by rw [h1], h4 191 (by decide) (by decide) (by decide) (by decide) (by decide), h4 192 (by decide) (by decide) (by decide) (by decide) (by decide), h3 2 (by decide) (by decide), h3 17 (by decide) (by decide), h4 163 (by decide) (by decide) (by decide) (by decide) (by decide), by rw [h1], by rw [h1], by rw [e], by rw [e]⟩
theorem zFt_C {w w' : jw} (h : zfC w w') : zFt w w' := by
  obtain ⟨h1, h2, h3, h4⟩ := h
  have e : w'.2.1 182 = w.2.1 182 := h2 182 (by decide) (by decide) (by decide)
  exact ⟨h1 0 (by decide) (by decide) (by decide), fun a _ _ => h1 a (by omega) (by omega) (by omega), fun k _ _ => h4 k (by omega) (by omega) (by omega) (by omega) (by omega) (by omega) (by omega) (by omega), h2 191 (by decide) (by decide) (by decide), h2 192 (by decide) (by decide) (by decide), by rw [h1 162 (by decide) (by decide) (by decide)], by rw [h1 162 (by decide) (by decide) (by decide)], h2 163 (by decide) (by decide) (by decide), h4 1 (by decide) (by decide) (by decide) (by decide) (by decide) (by decide) (by decide) (by decide), by rw [h3], by rw [e], by rw [e]⟩
theorem zFt_M {w w' : jw} (h : zfM w w') : zFt w w' := by
  obtain ⟨h1, h2, h3, h4, h5, h6⟩ := h
  exact ⟨h2 0 (by decide), fun a _ _ => h2 a (by omega), fun k _ _ => by rw [h1], h4 191 (by decide) (by decide) (by decide) (by decide) (by decide), h4 192 (by decide) (by decide) (by decide) (by decide) (by decide), h3 2 (by decide) (by decide), h3 17 (by decide) (by decide), h4 163 (by decide) (by decide) (by decide) (by decide) (by decide), by rw [h1], by rw [h1], h5, h6⟩
theorem zSl_fr {m i : Nat} {w w' : jw} (hi : i < 3) (h1 : ∀ a, 69 ≤ a → a ≤ 161 → w'.1 a = w.1 a) (h2 : ∀ k, 69 ≤ k → k ≤ 161 → w'.2.2.2 k = w.2.2.2 k) (h3 : w'.2.1 191 i = w.2.1 191 i) (h4 : ∀ q, q < 34700 → w'.2.1 192 (34700 * i + q) = w.2.1 192 (34700 * i + q)) (h5 : w'.2.1 182 5 = w.2.1 182 5) (h6 : w'.2.1 182 6 = w.2.1 182 6) (hm : m ≤ 2900) (h : zSl m i w) : zSl (m + 1) i w' := by
  refine ⟨by rw [h1 _ (by omega) (by omega), h3]; exact h.1, fun hf => ?_⟩
  rw [h3] at hf
  obtain ⟨S, s1, s2, s3, s4, s5, s6⟩ := h.2 hf
  refine ⟨S, s1, by omega, zCi_fr (fun a ha => ?_) (fun k k1 k2 => ?_) s3, zMi_cg h4 (by omega) (by have := s1.1.2.2.2.2.1; have := s1.1.2.2.2.1; omega) s4, by rw [h4 5 (by omega), h5]; exact s5, by rw [h4 6 (by omega), h6]; exact s6⟩
  · exact h1 _ (by omega) (by omega)
  · exact h2 _ (by omega) (by omega)
theorem zTop_fr {m : Nat} {S S' : zS} {w w' : jw} (hm : m ≤ 2900) (h : zTop m S w) (f : zFt w w') (i : zIn S') (l : S'.2.2.2.2.length ≤ m + 1) (c : zCi S' w') (n : zMi S' (w'.2.1 182)) : zTop (m + 1) S' w' := by
  obtain ⟨a1, a2, a3, a4, a5, a6, a7, a8, a9, a10⟩ := h
  obtain ⟨h1, h2, h3, h4, h5, h6, h7, h8, h9, h10, h11, h12⟩ := f
  refine ⟨i, l, c, n, ⟨by rw [h9]; exact a5.1, by rw [h9, h6]; exact a5.2.1, by rw [h9, h8]; exact a5.2.2⟩, by rw [h1, h11]; exact a6, by rw [h1, h12]; exact a7, by rw [h1, h7]; exact a8, fun i hi => zSl_fr hi h2 h3 (by rw [h4]) (fun q _ => by rw [h5]) h11 h12 hm (a9 i hi), fun i hi => by rw [h10]; exact a10 i hi⟩
def zStep {α : Type} (m : Nat) (w : jw) (fc fm : jw → Option (α × jw)) : Prop := ∃ v w1 w2, fc w = some (v, w1) ∧ fm w1 = some (v, w2) ∧ ∃ S', zTop (m + 1) S' w2
theorem zStep_Q {m : Nat} {S : zS} {w : jw} {fc fm : jw → Option (Int32 × jw)} (hm : m ≤ 2900) (h : zTop m S w) (q : zQ S fc fm) : zStep m w fc fm := by
  obtain ⟨v, w1, _, e1, f1, _, _⟩ := q w w h.2.2.1 h.2.2.2.1
  have e : w1.2.1 = w.2.1 := f1.2.1
  obtain ⟨v', w1', w2, e1', _, e2, f2⟩ := q w w1 h.2.2.1 (by rw [e]; exact h.2.2.2.1)
  rw [e1] at e1'
  cases e1'
  have m182 : w2.2.1 182 = w.2.1 182 := (f2.2.2.2 182 (by decide) (by decide) (by decide) (by decide) (by decide)).trans (by rw [e])
  refine ⟨v, w1, w2, e1, e2, S, zTop_fr hm h (zFt_trans (zFt_c f1) (zFt_m f2)) h.1 (by have := h.2.1; omega) (zCi_fr (fun a ha => ?_) (fun k k1 k2 => ?_) h.2.2.1) (by rw [m182]; exact h.2.2.2.1)⟩
  · rw [f2.2.1 a (by omega), f1.1]
  · rw [f2.1, f1.2.2.2 k (by omega) (by omega) (by omega) (by omega)]
theorem zStep_O {m : Nat} {S : zS} {w : jw} {fc fm : jw → Option (Int32 × jw)} (hm : m ≤ 2900) (h : zTop m S w) (q : ∀ wm : jw, zMi S (wm.2.1 182) → zOp S w wm fc fm) : zStep m w fc fm := by
  obtain ⟨_, v, w1, _, e1, _, _, _, _, _, _, f1, _⟩ := q w h.2.2.2.1
  have e : w1.2.1 182 = w.2.1 182 := f1.2.1 182 (by decide) (by decide) (by decide)
  obtain ⟨S', v', w1', w2, e1', e2, i', b', l', c', n', _, f2⟩ := q w1 (by rw [e]; exact h.2.2.2.1)
  rw [e1] at e1'
  cases e1'
  refine ⟨v, w1, w2, e1, e2, S', zTop_fr hm h (zFt_trans (zFt_C f1) (zFt_M f2)) i' (by have := h.2.1; omega) (zCi_fr (fun a ha => ?_) (fun k k1 k2 => ?_) c') n'⟩
  · rw [f2.2.1 a (by omega)]
  · rw [f2.1]
theorem zStep_T {m : Nat} {S : zS} {w : jw} {fc fm : jw → Option (Int32 × jw)} (hm : m ≤ 2900) (h : zTop m S w) (q : ∀ wm : jw, zTp w wm → ∃ v w' wm', fc w = some (v, w') ∧ fm wm = some (v, wm') ∧ zTp w' wm' ∧ zfTc w w' ∧ zfTm wm wm') : zStep m w fc fm := by
  obtain ⟨v, w1, _, e1, _, _, f1, _⟩ := q w h.2.2.2.2.1
  obtain ⟨c1, c2, c3, c4⟩ := f1
  obtain ⟨a1, a2, a3, a4, a5, a6, a7, a8, a9, a10⟩ := h
  obtain ⟨v', w1', w2, e1', e2, t2, _, f2⟩ := q w1 ⟨a5.1, by rw [c1]; exact a5.2.1, by rw [c2]; exact a5.2.2⟩
  rw [e1] at e1'
  cases e1'
  obtain ⟨d1, d2, d3, d4⟩ := f2
  have r1 : ∀ k, k ≠ 1 → w2.2.2.2 k = w.2.2.2 k := fun k hk => by rw [d1, c4 k hk]
  have i1 : ∀ a, a ≠ 162 → w2.1 a = w.1 a := fun a ha => by rw [d2 a ha, c1]
  have x1 : ∀ p, p ≠ 163 → w2.2.1 p = w.2.1 p := fun p hp => by rw [d4 p hp, c2]
  refine ⟨v, w1, w2, e1, e2, S, a1, by omega, zCi_fr (fun a ha => i1 a (by omega)) (fun k k1 k2 => r1 k (by omega)) a3, by rw [x1 182 (by decide)]; exact a4, ⟨by rw [d1]; exact t2.1, by rw [d1]; exact t2.2.1, by rw [d1]; exact t2.2.2⟩, by rw [i1 0 (by decide), x1 182 (by decide)]; exact a6, by rw [i1 0 (by decide), x1 182 (by decide)]; exact a7, by rw [i1 0 (by decide), d3 17 (by decide), c1]; exact a8, fun i hi => zSl_fr hi (fun a x y => i1 a (by omega)) (fun k x y => r1 k (by omega)) (by rw [x1 191 (by decide)]) (fun q _ => by rw [x1 192 (by decide)]) (by rw [x1 182 (by decide)]) (by rw [x1 182 (by decide)]) hm (a9 i hi), fun i hi => by rw [d1, c3]; exact a10 i hi⟩

theorem z_in02 (a : Int32) (w : jw) : f_X12_in a 0 2 w = some (decide (¬ a < 0 ∧ a < 3), w) := by
  unfold f_X12_in
  by_cases c : a < 0
  · rw [if_pos c, decide_eq_false (fun q => q.1 c)]
  · rw [if_neg c]
    by_cases d : (2 : Int32) < a
    · rw [if_pos d, decide_eq_false (fun q => ?_)]
      have := q.2
      rw [Int32.lt_iff_toInt_lt] at d this
      have e1 : (2 : Int32).toInt = 2 := rfl
      have e2 : (3 : Int32).toInt = 3 := rfl
      omega
    · rw [if_neg d, decide_eq_true ⟨c, by
        rw [Int32.lt_iff_toInt_lt] at d ⊢
        have e1 : (2 : Int32).toInt = 2 := rfl
        have e2 : (3 : Int32).toInt = 3 := rfl
        omega⟩]
theorem z_slotC (a : Int32) (w : jw) : f_X11_isSlot a w = some (decide (¬ a < 0 ∧ a < 3), w) := by
  by_cases c : a < 0
  · unfold f_X11_isSlot
    rw [if_pos c, decide_eq_false (fun q => q.1 c)]
  · by_cases d : a < 3
    · rw [decide_eq_true ⟨c, d⟩]
      have h : a = 0 ∨ a = 1 ∨ a = 2 := by
        rw [Int32.lt_iff_toInt_lt] at c d
        have e1 : (0 : Int32).toInt = 0 := rfl
        have e2 : (3 : Int32).toInt = 3 := rfl
        rcases (show a.toInt = 0 ∨ a.toInt = 1 ∨ a.toInt = 2 by omega) with h | h | h
        · exact Or.inl (Int32.toInt_inj.mp h)
        · exact Or.inr (Or.inl (Int32.toInt_inj.mp h))
        · exact Or.inr (Or.inr (Int32.toInt_inj.mp h))
      rcases h with h | h | h
      · rw [h]; exact z_slot0 w
      · rw [h]; exact z_slot1 w
      · rw [h]; exact z_slot2 w
    · unfold f_X11_isSlot
      rw [if_neg c, if_pos (show nI 3 ≤ a from by
        rw [Int32.lt_iff_toInt_lt] at d
        rw [Int32.le_iff_toInt_le]
        have e1 : (nI 3).toInt = 3 := rfl
        have e2 : (3 : Int32).toInt = 3 := rfl
        omega), decide_eq_false (fun q => d q.2)]
theorem z_slot3 {a : Int32} (h : ¬ a < 0 ∧ a < 3) : a = 0 ∨ a = 1 ∨ a = 2 := by
  obtain ⟨c, d⟩ := h
  rw [Int32.lt_iff_toInt_lt] at c d
  have e1 : (0 : Int32).toInt = 0 := rfl
  have e2 : (3 : Int32).toInt = 3 := rfl
  rcases (show a.toInt = 0 ∨ a.toInt = 1 ∨ a.toInt = 2 by omega) with h | h | h
  · exact Or.inl (Int32.toInt_inj.mp h)
  · exact Or.inr (Or.inl (Int32.toInt_inj.mp h))
  · exact Or.inr (Or.inr (Int32.toInt_inj.mp h))
theorem t_hold0 {m : Nat} {S : zS} {w : jw} (hm : m ≤ 2900) (h : zTop m S w) : zStep m w (f_X11_hold 0) (f_X12_hold 0) := by
  obtain ⟨a1, a2, a3, a4, a5, a6, a7, a8, a9, a10⟩ := h
  obtain ⟨w', e, b1, b2, b3, b4, b5⟩ := z_hold_69 w
  obtain ⟨w2, c1, c2, c3⟩ := z_holdM (s := 0) (by decide) 34700 jfu 0 (jsetX (jsetI w' 69 4 1) 191 0 1) rfl (by decide)
  obtain ⟨d1, d2, d3⟩ := c2
  have x0 : w2.2.1 182 = w.2.1 182 := by rw [d3 182 (by decide), z_jX2 (by decide)]; show w'.2.1 182 = _; rw [b1]
  have x1 : ∀ p, p ≠ 191 → p ≠ 192 → w2.2.1 p = w.2.1 p := fun p p1 p2 => by rw [d3 p p2, z_jX2 p1]; show w'.2.1 p = _; rw [b1]
  have i1 : ∀ a, a ≠ 69 → a ≠ 70 → a ≠ 87 → w2.1 a = w.1 a := fun a p1 p2 p3 => by rw [d1]; show (jsetI w' 69 4 1).1 a = _; rw [z_jI2 p1, b3 a p2 p3]
  have r1 : ∀ k, k < 71 ∨ 98 < k → w2.2.2.2 k = w.2.2.2 k := fun k hk => by rw [d2]; exact b4 k hk
  have g1 : w2.2.1 191 = zup (w.2.1 191) 0 1 := by rw [d3 191 (by decide), z_jX1]; show zup (w'.2.1 191) 0 1 = _; rw [b1]
  refine ⟨true, jsetI w' 69 4 1, w2, ?_, ?_, S, a1, by omega, zCi_fr (fun a ha => i1 a (by omega) (by omega) (by omega)) (fun k k1 k2 => r1 k (by omega)) a3, by rw [x0]; exact a4, ⟨by rw [r1 1 (by omega)]; exact a5.1, by rw [r1 1 (by omega), i1 162 (by decide) (by decide) (by decide)]; exact a5.2.1, by rw [r1 1 (by omega), x1 163 (by decide) (by decide)]; exact a5.2.2⟩, by rw [i1 0 (by decide) (by decide) (by decide), x0]; exact a6, by rw [i1 0 (by decide) (by decide) (by decide), x0]; exact a7, by rw [i1 0 (by decide) (by decide) (by decide), i1 162 (by decide) (by decide) (by decide)]; exact a8, fun i hi => ?_, fun i hi => ?_⟩
  · unfold f_X11_hold
    rw [z_slot0, z_jbd2, if_neg (show ¬ jb true = 0 by decide), if_pos (show (0 : Int32).toInt = 0 by decide), e, z_jbd, if_pos (show (0 : Int32).toInt = 0 by decide), z_jl]
  · unfold f_X12_hold
    rw [z_in02, z_jbd2, if_neg (show ¬ jb (decide (¬ (0 : Int32) < 0 ∧ (0 : Int32) < 3)) = 0 by decide), z_jg (show jin 0 3 = true by decide), z_jl]
    exact c1
  · by_cases c : i = 0
    · subst c
      refine ⟨?_, fun _ => ⟨S, a1, by omega, ?_, ?_, ?_, ?_⟩⟩
      · rw [g1, zup_eq, d1]
        show (jsetI w' 69 4 1).1 69 4 = 1
        rw [z_jI1, zup_eq]
      · refine zCi_fr (w := zsh 52 w') (fun a ha => ?_) (fun k k1 k2 => ?_) (b5 S a3)
        · show w2.1 (a + 52) = w'.1 (a + 52)
          rw [d1]
          exact z_jI2 (by omega)
        · show w2.2.2.2 (k + 52) = w'.2.2.2 (k + 52)
          rw [d2]
          rfl
      · refine zMi_cg (N := w.2.1 182) (fun q hq => ?_) (by omega) (by have := a1.1.2.2.2.2.1; have := a1.1.2.2.2.1; omega) a4
        show w2.2.1 192 (34700 * 0 + q) = _
        rw [c3, if_pos (by omega), show 34700 * 0 + q - 34700 * 0 = q by omega, z_jX2 (by decide)]
        show w'.2.1 182 q = _
        rw [b1]
      · show w2.2.1 192 (34700 * 0 + 5) = _
        rw [c3, if_pos (by omega), x0, z_jX2 (by decide)]
        show w'.2.1 182 5 = _
        rw [b1]
      · show w2.2.1 192 (34700 * 0 + 6) = _
        rw [c3, if_pos (by omega), x0, z_jX2 (by decide)]
        show w'.2.1 182 6 = _
        rw [b1]
    · obtain ⟨s1, s2⟩ := a9 i hi
      refine ⟨by rw [i1 _ (by omega) (by omega) (by omega), g1, zup_ne c]; exact s1, fun hf => ?_⟩
      rw [g1, zup_ne c] at hf
      obtain ⟨T, t1, t2, t3, t4, t5, t6⟩ := s2 hf
      have n1 : ∀ q, q < 34700 → w2.2.1 192 (34700 * i + q) = w.2.1 192 (34700 * i + q) := fun q hq => by
        rw [c3, if_neg (by omega), z_jX2 (by decide)]
        show w'.2.1 192 _ = _
        rw [b1]
      refine ⟨T, t1, by omega, zCi_fr (w := zsh (52 + 31 * i) w) (fun a ha => i1 (a + (52 + 31 * i)) (by omega) (by omega) (by omega)) (fun k k1 k2 => r1 (k + (52 + 31 * i)) (by omega)) t3, zMi_cg n1 (by omega) (by have := t1.1.2.2.2.2.1; have := t1.1.2.2.2.1; omega) t4, by rw [n1 5 (by omega), x0]; exact t5, by rw [n1 6 (by omega), x0]; exact t6⟩
  · rw [d2]
    show w'.2.2.1 169 i = _
    rw [b2]
    exact a10 i hi
theorem t_restore0 {m : Nat} {S : zS} {w : jw} (hm : m ≤ 2900) (h : zTop m S w) : zStep m w (f_X11_restore 0) (f_X12_restore 0) := by
  have h0 := h
  obtain ⟨a1, a2, a3, a4, a5, a6, a7, a8, a9, a10⟩ := h
  obtain ⟨s1, s2⟩ := a9 0 (by decide)
  have cu : f_X11_restore 0 w = (if w.1 69 4 = 0 then some (false, w) else jbd (f_X9_copyFrom_17_69 w) fun q => some (true, q)) := by
    unfold f_X11_restore
    rw [z_slot0, z_jbd2, if_neg (show ¬ jb true = 0 by decide), if_pos (show (0 : Int32).toInt = 0 by decide)]
    by_cases c : w.1 69 4 = 0
    · rw [if_pos c, if_pos c]
    · rw [if_neg c, if_neg c, if_pos (show (0 : Int32).toInt = 0 by decide)]
  have mu : ∀ w : jw, f_X12_restore 0 w = (if w.2.1 191 0 = 0 then some (false, w) else l_X12_restore jfu 0 0 w) := fun w => by
    unfold f_X12_restore
    rw [z_in02, z_jbd2, if_neg (show ¬ jb (decide (¬ (0 : Int32) < 0 ∧ (0 : Int32) < 3)) = 0 by decide), z_jg (show jin 0 3 = true by decide)]
    rfl
  by_cases c : w.2.1 191 0 = 0
  · refine ⟨false, w, w, ?_, ?_, S, zTop_fr hm h0 ⟨rfl, fun _ _ _ => rfl, fun _ _ _ => rfl, rfl, rfl, rfl, rfl, rfl, rfl, rfl, rfl, rfl⟩ a1 (by omega) a3 a4⟩
    · rw [cu, if_pos (show w.1 69 4 = 0 from s1.trans c)]
    · rw [mu, if_pos c]
  · obtain ⟨T, t1, t2, t3, t4, t5, t6⟩ := s2 c
    obtain ⟨w', e, b1, b2, b3, b4, b5⟩ := z_rest_69 w
    obtain ⟨w2, c1, c2, c3⟩ := z_restM (s := 0) (by decide) 34700 jfu 0 w' rfl (by decide)
    obtain ⟨d1, d2, d3⟩ := c2
    have n1 : ∀ q, q < 34700 → w2.2.1 182 q = w.2.1 192 (34700 * 0 + q) := fun q hq => by rw [c3, if_pos (by omega), b1]
    refine ⟨true, w', w2, ?_, ?_, T, zTop_fr hm h0 ⟨?_, fun a p1 p2 => ?_, fun k p1 p2 => ?_, ?_, ?_, ?_, ?_, ?_, ?_, ?_, ?_, ?_⟩ t1 (by omega) (zCi_fr (fun a ha => by rw [d1]) (fun k k1 k2 => by rw [d2]) (b5 T t3)) (zMi_cg n1 (by omega) (by have := t1.1.2.2.2.2.1; have := t1.1.2.2.2.1; omega) t4)⟩
    · rw [cu, if_neg (fun z => c (s1 ▸ z)), e, z_jbd]
    · rw [mu, if_neg (show ¬ w'.2.1 191 0 = 0 by rw [b1]; exact c)]
      exact c1
    · rw [d1, b3 0 (by decide) (by decide)]
    · rw [d1, b3 a (by omega) (by omega)]
    · rw [d2, b4 k (by omega)]
    · rw [d3 191 (by decide), b1]
    · rw [d3 192 (by decide), b1]
    · rw [d1, b3 162 (by decide) (by decide)]
    · rw [d1, b3 162 (by decide) (by decide)]
    · rw [d3 163 (by decide), b1]
    · rw [d2, b4 1 (by decide)]
    · rw [d2, b2]
    · rw [n1 5 (by decide)]; exact t5
    · rw [n1 6 (by decide)]; exact t6
theorem t_hold1 {m : Nat} {S : zS} {w : jw} (hm : m ≤ 2900) (h : zTop m S w) : zStep m w (f_X11_hold 1) (f_X12_hold 1) := by
  obtain ⟨a1, a2, a3, a4, a5, a6, a7, a8, a9, a10⟩ := h
  obtain ⟨w', e, b1, b2, b3, b4, b5⟩ := z_hold_100 w
  obtain ⟨w2, c1, c2, c3⟩ := z_holdM (s := 1) (by decide) 34700 jfu 0 (jsetX (jsetI w' 100 4 1) 191 1 1) rfl (by decide)
  obtain ⟨d1, d2, d3⟩ := c2
  have x0 : w2.2.1 182 = w.2.1 182 := by rw [d3 182 (by decide), z_jX2 (by decide)]; show w'.2.1 182 = _; rw [b1]
  have x1 : ∀ p, p ≠ 191 → p ≠ 192 → w2.2.1 p = w.2.1 p := fun p p1 p2 => by rw [d3 p p2, z_jX2 p1]; show w'.2.1 p = _; rw [b1]
  have i1 : ∀ a, a ≠ 100 → a ≠ 101 → a ≠ 118 → w2.1 a = w.1 a := fun a p1 p2 p3 => by rw [d1]; show (jsetI w' 100 4 1).1 a = _; rw [z_jI2 p1, b3 a p2 p3]
  have r1 : ∀ k, k < 102 ∨ 129 < k → w2.2.2.2 k = w.2.2.2 k := fun k hk => by rw [d2]; exact b4 k hk
  have g1 : w2.2.1 191 = zup (w.2.1 191) 1 1 := by rw [d3 191 (by decide), z_jX1]; show zup (w'.2.1 191) 1 1 = _; rw [b1]
  refine ⟨true, jsetI w' 100 4 1, w2, ?_, ?_, S, a1, by omega, zCi_fr (fun a ha => i1 a (by omega) (by omega) (by omega)) (fun k k1 k2 => r1 k (by omega)) a3, by rw [x0]; exact a4, ⟨by rw [r1 1 (by omega)]; exact a5.1, by rw [r1 1 (by omega), i1 162 (by decide) (by decide) (by decide)]; exact a5.2.1, by rw [r1 1 (by omega), x1 163 (by decide) (by decide)]; exact a5.2.2⟩, by rw [i1 0 (by decide) (by decide) (by decide), x0]; exact a6, by rw [i1 0 (by decide) (by decide) (by decide), x0]; exact a7, by rw [i1 0 (by decide) (by decide) (by decide), i1 162 (by decide) (by decide) (by decide)]; exact a8, fun i hi => ?_, fun i hi => ?_⟩
  · unfold f_X11_hold
    rw [z_slot1, z_jbd2, if_neg (show ¬ jb true = 0 by decide), if_neg (show ¬ (1 : Int32).toInt = 0 by decide), if_pos (show (1 : Int32).toInt = 1 by decide), e, z_jbd, if_neg (show ¬ (1 : Int32).toInt = 0 by decide), if_pos (show (1 : Int32).toInt = 1 by decide), z_jl]
  · unfold f_X12_hold
    rw [z_in02, z_jbd2, if_neg (show ¬ jb (decide (¬ (1 : Int32) < 0 ∧ (1 : Int32) < 3)) = 0 by decide), z_jg (show jin 1 3 = true by decide), z_jl]
    exact c1
  · by_cases c : i = 1
    · subst c
      refine ⟨?_, fun _ => ⟨S, a1, by omega, ?_, ?_, ?_, ?_⟩⟩
      · rw [g1, zup_eq, d1]
        show (jsetI w' 100 4 1).1 100 4 = 1
        rw [z_jI1, zup_eq]
      · refine zCi_fr (w := zsh 83 w') (fun a ha => ?_) (fun k k1 k2 => ?_) (b5 S a3)
        · show w2.1 (a + 83) = w'.1 (a + 83)
          rw [d1]
          exact z_jI2 (by omega)
        · show w2.2.2.2 (k + 83) = w'.2.2.2 (k + 83)
          rw [d2]
          rfl
      · refine zMi_cg (N := w.2.1 182) (fun q hq => ?_) (by omega) (by have := a1.1.2.2.2.2.1; have := a1.1.2.2.2.1; omega) a4
        show w2.2.1 192 (34700 * 1 + q) = _
        rw [c3, if_pos (by omega), show 34700 * 1 + q - 34700 * 1 = q by omega, z_jX2 (by decide)]
        show w'.2.1 182 q = _
        rw [b1]
      · show w2.2.1 192 (34700 * 1 + 5) = _
        rw [c3, if_pos (by omega), x0, z_jX2 (by decide)]
        show w'.2.1 182 5 = _
        rw [b1]
      · show w2.2.1 192 (34700 * 1 + 6) = _
        rw [c3, if_pos (by omega), x0, z_jX2 (by decide)]
        show w'.2.1 182 6 = _
        rw [b1]
    · obtain ⟨s1, s2⟩ := a9 i hi
      refine ⟨by rw [i1 _ (by omega) (by omega) (by omega), g1, zup_ne c]; exact s1, fun hf => ?_⟩
      rw [g1, zup_ne c] at hf
      obtain ⟨T, t1, t2, t3, t4, t5, t6⟩ := s2 hf
      have n1 : ∀ q, q < 34700 → w2.2.1 192 (34700 * i + q) = w.2.1 192 (34700 * i + q) := fun q hq => by
        rw [c3, if_neg (by omega), z_jX2 (by decide)]
        show w'.2.1 192 _ = _
        rw [b1]
      refine ⟨T, t1, by omega, zCi_fr (w := zsh (52 + 31 * i) w) (fun a ha => i1 (a + (52 + 31 * i)) (by omega) (by omega) (by omega)) (fun k k1 k2 => r1 (k + (52 + 31 * i)) (by omega)) t3, zMi_cg n1 (by omega) (by have := t1.1.2.2.2.2.1; have := t1.1.2.2.2.1; omega) t4, by rw [n1 5 (by omega), x0]; exact t5, by rw [n1 6 (by omega), x0]; exact t6⟩
  · rw [d2]
    show w'.2.2.1 169 i = _
    rw [b2]
    exact a10 i hi
theorem t_restore1 {m : Nat} {S : zS} {w : jw} (hm : m ≤ 2900) (h : zTop m S w) : zStep m w (f_X11_restore 1) (f_X12_restore 1) := by
  have h0 := h
  obtain ⟨a1, a2, a3, a4, a5, a6, a7, a8, a9, a10⟩ := h
  obtain ⟨s1, s2⟩ := a9 1 (by decide)
  have cu : f_X11_restore 1 w = (if w.1 100 4 = 0 then some (false, w) else jbd (f_X9_copyFrom_17_100 w) fun q => some (true, q)) := by
    unfold f_X11_restore
    rw [z_slot1, z_jbd2, if_neg (show ¬ jb true = 0 by decide), if_neg (show ¬ (1 : Int32).toInt = 0 by decide), if_pos (show (1 : Int32).toInt = 1 by decide)]
    by_cases c : w.1 100 4 = 0
    · rw [if_pos c, if_pos c]
    · rw [if_neg c, if_neg c, if_neg (show ¬ (1 : Int32).toInt = 0 by decide), if_pos (show (1 : Int32).toInt = 1 by decide)]
  have mu : ∀ w : jw, f_X12_restore 1 w = (if w.2.1 191 1 = 0 then some (false, w) else l_X12_restore jfu 1 0 w) := fun w => by
    unfold f_X12_restore
    rw [z_in02, z_jbd2, if_neg (show ¬ jb (decide (¬ (1 : Int32) < 0 ∧ (1 : Int32) < 3)) = 0 by decide), z_jg (show jin 1 3 = true by decide)]
    rfl
  by_cases c : w.2.1 191 1 = 0
  · refine ⟨false, w, w, ?_, ?_, S, zTop_fr hm h0 ⟨rfl, fun _ _ _ => rfl, fun _ _ _ => rfl, rfl, rfl, rfl, rfl, rfl, rfl, rfl, rfl, rfl⟩ a1 (by omega) a3 a4⟩
    · rw [cu, if_pos (show w.1 100 4 = 0 from s1.trans c)]
    · rw [mu, if_pos c]
  · obtain ⟨T, t1, t2, t3, t4, t5, t6⟩ := s2 c
    obtain ⟨w', e, b1, b2, b3, b4, b5⟩ := z_rest_100 w
    obtain ⟨w2, c1, c2, c3⟩ := z_restM (s := 1) (by decide) 34700 jfu 0 w' rfl (by decide)
    obtain ⟨d1, d2, d3⟩ := c2
    have n1 : ∀ q, q < 34700 → w2.2.1 182 q = w.2.1 192 (34700 * 1 + q) := fun q hq => by rw [c3, if_pos (by omega), b1]
    refine ⟨true, w', w2, ?_, ?_, T, zTop_fr hm h0 ⟨?_, fun a p1 p2 => ?_, fun k p1 p2 => ?_, ?_, ?_, ?_, ?_, ?_, ?_, ?_, ?_, ?_⟩ t1 (by omega) (zCi_fr (fun a ha => by rw [d1]) (fun k k1 k2 => by rw [d2]) (b5 T t3)) (zMi_cg n1 (by omega) (by have := t1.1.2.2.2.2.1; have := t1.1.2.2.2.1; omega) t4)⟩
    · rw [cu, if_neg (fun z => c (s1 ▸ z)), e, z_jbd]
    · rw [mu, if_neg (show ¬ w'.2.1 191 1 = 0 by rw [b1]; exact c)]
      exact c1
    · rw [d1, b3 0 (by decide) (by decide)]
    · rw [d1, b3 a (by omega) (by omega)]
    · rw [d2, b4 k (by omega)]
    · rw [d3 191 (by decide), b1]
    · rw [d3 192 (by decide), b1]
    · rw [d1, b3 162 (by decide) (by decide)]
    · rw [d1, b3 162 (by decide) (by decide)]
    · rw [d3 163 (by decide), b1]
    · rw [d2, b4 1 (by decide)]
    · rw [d2, b2]
    · rw [n1 5 (by decide)]; exact t5
    · rw [n1 6 (by decide)]; exact t6
theorem t_hold2 {m : Nat} {S : zS} {w : jw} (hm : m ≤ 2900) (h : zTop m S w) : zStep m w (f_X11_hold 2) (f_X12_hold 2) := by
  obtain ⟨a1, a2, a3, a4, a5, a6, a7, a8, a9, a10⟩ := h
  obtain ⟨w', e, b1, b2, b3, b4, b5⟩ := z_hold_131 w
  obtain ⟨w2, c1, c2, c3⟩ := z_holdM (s := 2) (by decide) 34700 jfu 0 (jsetX (jsetI w' 131 4 1) 191 2 1) rfl (by decide)
  obtain ⟨d1, d2, d3⟩ := c2
  have x0 : w2.2.1 182 = w.2.1 182 := by rw [d3 182 (by decide), z_jX2 (by decide)]; show w'.2.1 182 = _; rw [b1]
  have x1 : ∀ p, p ≠ 191 → p ≠ 192 → w2.2.1 p = w.2.1 p := fun p p1 p2 => by rw [d3 p p2, z_jX2 p1]; show w'.2.1 p = _; rw [b1]
  have i1 : ∀ a, a ≠ 131 → a ≠ 132 → a ≠ 149 → w2.1 a = w.1 a := fun a p1 p2 p3 => by rw [d1]; show (jsetI w' 131 4 1).1 a = _; rw [z_jI2 p1, b3 a p2 p3]
  have r1 : ∀ k, k < 133 ∨ 160 < k → w2.2.2.2 k = w.2.2.2 k := fun k hk => by rw [d2]; exact b4 k hk
  have g1 : w2.2.1 191 = zup (w.2.1 191) 2 1 := by rw [d3 191 (by decide), z_jX1]; show zup (w'.2.1 191) 2 1 = _; rw [b1]
  refine ⟨true, jsetI w' 131 4 1, w2, ?_, ?_, S, a1, by omega, zCi_fr (fun a ha => i1 a (by omega) (by omega) (by omega)) (fun k k1 k2 => r1 k (by omega)) a3, by rw [x0]; exact a4, ⟨by rw [r1 1 (by omega)]; exact a5.1, by rw [r1 1 (by omega), i1 162 (by decide) (by decide) (by decide)]; exact a5.2.1, by rw [r1 1 (by omega), x1 163 (by decide) (by decide)]; exact a5.2.2⟩, by rw [i1 0 (by decide) (by decide) (by decide), x0]; exact a6, by rw [i1 0 (by decide) (by decide) (by decide), x0]; exact a7, by rw [i1 0 (by decide) (by decide) (by decide), i1 162 (by decide) (by decide) (by decide)]; exact a8, fun i hi => ?_, fun i hi => ?_⟩
  · unfold f_X11_hold
    rw [z_slot2, z_jbd2, if_neg (show ¬ jb true = 0 by decide), if_neg (show ¬ (2 : Int32).toInt = 0 by decide), if_neg (show ¬ (2 : Int32).toInt = 1 by decide), if_pos (show (2 : Int32).toInt = 2 by decide), e, z_jbd, if_neg (show ¬ (2 : Int32).toInt = 0 by decide), if_neg (show ¬ (2 : Int32).toInt = 1 by decide), if_pos (show (2 : Int32).toInt = 2 by decide), z_jl]
  · unfold f_X12_hold
    rw [z_in02, z_jbd2, if_neg (show ¬ jb (decide (¬ (2 : Int32) < 0 ∧ (2 : Int32) < 3)) = 0 by decide), z_jg (show jin 2 3 = true by decide), z_jl]
    exact c1
  · by_cases c : i = 2
    · subst c
      refine ⟨?_, fun _ => ⟨S, a1, by omega, ?_, ?_, ?_, ?_⟩⟩
      · rw [g1, zup_eq, d1]
        show (jsetI w' 131 4 1).1 131 4 = 1
        rw [z_jI1, zup_eq]
      · refine zCi_fr (w := zsh 114 w') (fun a ha => ?_) (fun k k1 k2 => ?_) (b5 S a3)
        · show w2.1 (a + 114) = w'.1 (a + 114)
          rw [d1]
          exact z_jI2 (by omega)
        · show w2.2.2.2 (k + 114) = w'.2.2.2 (k + 114)
          rw [d2]
          rfl
      · refine zMi_cg (N := w.2.1 182) (fun q hq => ?_) (by omega) (by have := a1.1.2.2.2.2.1; have := a1.1.2.2.2.1; omega) a4
        show w2.2.1 192 (34700 * 2 + q) = _
        rw [c3, if_pos (by omega), show 34700 * 2 + q - 34700 * 2 = q by omega, z_jX2 (by decide)]
        show w'.2.1 182 q = _
        rw [b1]
      · show w2.2.1 192 (34700 * 2 + 5) = _
        rw [c3, if_pos (by omega), x0, z_jX2 (by decide)]
        show w'.2.1 182 5 = _
        rw [b1]
      · show w2.2.1 192 (34700 * 2 + 6) = _
        rw [c3, if_pos (by omega), x0, z_jX2 (by decide)]
        show w'.2.1 182 6 = _
        rw [b1]
    · obtain ⟨s1, s2⟩ := a9 i hi
      refine ⟨by rw [i1 _ (by omega) (by omega) (by omega), g1, zup_ne c]; exact s1, fun hf => ?_⟩
      rw [g1, zup_ne c] at hf
      obtain ⟨T, t1, t2, t3, t4, t5, t6⟩ := s2 hf
      have n1 : ∀ q, q < 34700 → w2.2.1 192 (34700 * i + q) = w.2.1 192 (34700 * i + q) := fun q hq => by
        rw [c3, if_neg (by omega), z_jX2 (by decide)]
        show w'.2.1 192 _ = _
        rw [b1]
      refine ⟨T, t1, by omega, zCi_fr (w := zsh (52 + 31 * i) w) (fun a ha => i1 (a + (52 + 31 * i)) (by omega) (by omega) (by omega)) (fun k k1 k2 => r1 (k + (52 + 31 * i)) (by omega)) t3, zMi_cg n1 (by omega) (by have := t1.1.2.2.2.2.1; have := t1.1.2.2.2.1; omega) t4, by rw [n1 5 (by omega), x0]; exact t5, by rw [n1 6 (by omega), x0]; exact t6⟩
  · rw [d2]
    show w'.2.2.1 169 i = _
    rw [b2]
    exact a10 i hi
theorem t_restore2 {m : Nat} {S : zS} {w : jw} (hm : m ≤ 2900) (h : zTop m S w) : zStep m w (f_X11_restore 2) (f_X12_restore 2) := by
  have h0 := h
  obtain ⟨a1, a2, a3, a4, a5, a6, a7, a8, a9, a10⟩ := h
  obtain ⟨s1, s2⟩ := a9 2 (by decide)
  have cu : f_X11_restore 2 w = (if w.1 131 4 = 0 then some (false, w) else jbd (f_X9_copyFrom_17_131 w) fun q => some (true, q)) := by
    unfold f_X11_restore
    rw [z_slot2, z_jbd2, if_neg (show ¬ jb true = 0 by decide), if_neg (show ¬ (2 : Int32).toInt = 0 by decide), if_neg (show ¬ (2 : Int32).toInt = 1 by decide), if_pos (show (2 : Int32).toInt = 2 by decide)]
    by_cases c : w.1 131 4 = 0
    · rw [if_pos c, if_pos c]
    · rw [if_neg c, if_neg c, if_neg (show ¬ (2 : Int32).toInt = 0 by decide), if_neg (show ¬ (2 : Int32).toInt = 1 by decide), if_pos (show (2 : Int32).toInt = 2 by decide)]
  have mu : ∀ w : jw, f_X12_restore 2 w = (if w.2.1 191 2 = 0 then some (false, w) else l_X12_restore jfu 2 0 w) := fun w => by
    unfold f_X12_restore
    rw [z_in02, z_jbd2, if_neg (show ¬ jb (decide (¬ (2 : Int32) < 0 ∧ (2 : Int32) < 3)) = 0 by decide), z_jg (show jin 2 3 = true by decide)]
    rfl
  by_cases c : w.2.1 191 2 = 0
  · refine ⟨false, w, w, ?_, ?_, S, zTop_fr hm h0 ⟨rfl, fun _ _ _ => rfl, fun _ _ _ => rfl, rfl, rfl, rfl, rfl, rfl, rfl, rfl, rfl, rfl⟩ a1 (by omega) a3 a4⟩
    · rw [cu, if_pos (show w.1 131 4 = 0 from s1.trans c)]
    · rw [mu, if_pos c]
  · obtain ⟨T, t1, t2, t3, t4, t5, t6⟩ := s2 c
    obtain ⟨w', e, b1, b2, b3, b4, b5⟩ := z_rest_131 w
    obtain ⟨w2, c1, c2, c3⟩ := z_restM (s := 2) (by decide) 34700 jfu 0 w' rfl (by decide)
    obtain ⟨d1, d2, d3⟩ := c2
    have n1 : ∀ q, q < 34700 → w2.2.1 182 q = w.2.1 192 (34700 * 2 + q) := fun q hq => by rw [c3, if_pos (by omega), b1]
    refine ⟨true, w', w2, ?_, ?_, T, zTop_fr hm h0 ⟨?_, fun a p1 p2 => ?_, fun k p1 p2 => ?_, ?_, ?_, ?_, ?_, ?_, ?_, ?_, ?_, ?_⟩ t1 (by omega) (zCi_fr (fun a ha => by rw [d1]) (fun k k1 k2 => by rw [d2]) (b5 T t3)) (zMi_cg n1 (by omega) (by have := t1.1.2.2.2.2.1; have := t1.1.2.2.2.1; omega) t4)⟩
    · rw [cu, if_neg (fun z => c (s1 ▸ z)), e, z_jbd]
    · rw [mu, if_neg (show ¬ w'.2.1 191 2 = 0 by rw [b1]; exact c)]
      exact c1
    · rw [d1, b3 0 (by decide) (by decide)]
    · rw [d1, b3 a (by omega) (by omega)]
    · rw [d2, b4 k (by omega)]
    · rw [d3 191 (by decide), b1]
    · rw [d3 192 (by decide), b1]
    · rw [d1, b3 162 (by decide) (by decide)]
    · rw [d1, b3 162 (by decide) (by decide)]
    · rw [d3 163 (by decide), b1]
    · rw [d2, b4 1 (by decide)]
    · rw [d2, b2]
    · rw [n1 5 (by decide)]; exact t5
    · rw [n1 6 (by decide)]; exact t6
theorem t_hold {m : Nat} {S : zS} {w : jw} (hm : m ≤ 2900) (h : zTop m S w) (a : Int32) : zStep m w (f_X11_hold a) (f_X12_hold a) := by
  by_cases c : ¬ a < 0 ∧ a < 3
  · rcases z_slot3 c with e | e | e
    · rw [e]; exact t_hold0 hm h
    · rw [e]; exact t_hold1 hm h
    · rw [e]; exact t_hold2 hm h
  · refine ⟨false, w, w, ?_, ?_, S, zTop_fr hm h ⟨rfl, fun _ _ _ => rfl, fun _ _ _ => rfl, rfl, rfl, rfl, rfl, rfl, rfl, rfl, rfl, rfl⟩ h.1 (by have := h.2.1; omega) h.2.2.1 h.2.2.2.1⟩
    · unfold f_X11_hold
      rw [z_slotC, z_jbd2, decide_eq_false c, if_pos (show jb false = 0 from rfl)]
    · unfold f_X12_hold
      rw [z_in02, z_jbd2, decide_eq_false c, if_pos (show jb false = 0 from rfl)]
theorem t_restore {m : Nat} {S : zS} {w : jw} (hm : m ≤ 2900) (h : zTop m S w) (a : Int32) : zStep m w (f_X11_restore a) (f_X12_restore a) := by
  by_cases c : ¬ a < 0 ∧ a < 3
  · rcases z_slot3 c with e | e | e
    · rw [e]; exact t_restore0 hm h
    · rw [e]; exact t_restore1 hm h
    · rw [e]; exact t_restore2 hm h
  · refine ⟨false, w, w, ?_, ?_, S, zTop_fr hm h ⟨rfl, fun _ _ _ => rfl, fun _ _ _ => rfl, rfl, rfl, rfl, rfl, rfl, rfl, rfl, rfl, rfl⟩ h.1 (by have := h.2.1; omega) h.2.2.1 h.2.2.2.1⟩
    · unfold f_X11_restore
      rw [z_slotC, z_jbd2, decide_eq_false c, if_pos (show jb false = 0 from rfl)]
    · unfold f_X12_restore
      rw [z_in02, z_jbd2, decide_eq_false c, if_pos (show jb false = 0 from rfl)]
end
