section
def zc2 (s : Nat) (q7 : jw) : Option jw := if s = 0 then jbd (f_X7_parseExpression q7) fun q => some q else some q7
theorem z_jas {α β γ : Type} (x : Option α) (f : α → Option β) (g : β → Option γ) : jbd (jbd x f) g = jbd x (fun a => jbd (f a) g) := by cases x <;> rfl
theorem z_jsm {α : Type} (x : Option α) : jbd x (fun q => some q) = x := by cases x <;> rfl
theorem zc2F (s : Nat) (w : jw) (j : Nat) {f : Int32} (hf : f ≠ 0) : zc2 s (zpA w j f) = some (zpA w j f) := by
  unfold zc2
  split
  · rw [z_exF w j hf, z_jbd]
  · rfl
/-- the reference's rows of tells stay as they were, up to one -/
def zAr (n cb : Nat) (wm w9 : jw) : Prop := (∀ k, 170 ≤ k → k ≤ 173 → ∀ p, p < n → w9.2.1 k p = wm.2.1 k p) ∧ w9.2.1 174 = wm.2.1 174 ∧ w9.2.1 175 = wm.2.1 175 ∧ (∀ q, q < cb → w9.2.1 176 q = wm.2.1 176 q ∧ w9.2.1 177 q = wm.2.1 177 q) ∧ ∀ j, j = 15 ∨ j = 16 ∨ j = 18 ∨ j = 24 → w9.1 162 j = wm.1 162 j
theorem zAr_trans {n cb : Nat} {a b c : jw} (h : zAr n cb a b) (g : zAr n cb b c) : zAr n cb a c := ⟨fun k k1 k2 p hp => (g.1 k k1 k2 p hp).trans (h.1 k k1 k2 p hp), g.2.1.trans h.2.1, g.2.2.1.trans h.2.2.1, fun q hq => ⟨(g.2.2.2.1 q hq).1.trans (h.2.2.2.1 q hq).1, (g.2.2.2.1 q hq).2.trans (h.2.2.2.1 q hq).2⟩, fun j hj => (g.2.2.2.2 j hj).trans (h.2.2.2.2 j hj)⟩
theorem zAr_X {n cb k : Nat} {w : jw} {x : Int32} (h1 : 170 ≤ k) (h2 : k ≤ 173) : zAr n cb w (jsetX w k n x) := ⟨fun l _ _ p hp => by
    by_cases c : l = k
    · rw [c, z_jX1, zup_ne (by omega)]
    · rw [z_jX2 c], z_jX2 (by omega), z_jX2 (by omega), fun q _ => by rw [z_jX2 (by omega), z_jX2 (by omega)]; exact ⟨rfl, rfl⟩, fun _ _ => rfl⟩
theorem zAr_I {n cb j : Nat} {w : jw} {x : Int32} (hj : j ≠ 15 ∧ j ≠ 16 ∧ j ≠ 18 ∧ j ≠ 24) : zAr n cb w (jsetI w 162 j x) := ⟨fun _ _ _ _ _ => rfl, rfl, rfl, fun _ _ => ⟨rfl, rfl⟩, fun l hl => zI_ne (by omega)⟩
theorem zAr_E {n cb cb' : Nat} {w w' : jw} (h : zfEx cb' w w') (hc : cb ≤ cb') : zAr n cb w w' := ⟨fun k k1 k2 p _ => by rw [h.2.2.2.1 k (by omega) (by omega) (by omega)], h.2.2.2.1 174 (by decide) (by decide) (by decide), h.2.2.2.1 175 (by decide) (by decide) (by decide), fun q hq => h.2.2.2.2 q (by omega), fun j hj => h.2.2.1 j (by omega) (by omega) (by omega) (by omega) (by omega) (by omega)⟩
theorem zCm_fr {f cb : Nat} {c : List zcd1} {w w' : jw} (h : zCm f c w) (hb : f + c.length ≤ cb) (hq : ∀ q, q < cb → w'.2.1 176 q = w.2.1 176 q ∧ w'.2.1 177 q = w.2.1 177 q) : zCm f c w' := fun i x hx => by
  have il : i < c.length := (List.getElem?_eq_some_iff.mp hx).1
  rw [(hq (f + i) (by omega)).1, (hq (f + i) (by omega)).2]
  exact h i x hx
theorem z_actEnd {T : List zT} {n s j1 j2 cb : Nat} {P : zPrg} {stk : List Nat} {w w1 wm w9 : jw} {c1 c2 : List zcd1} (tk : zTok T) (h : zPS T n P stk cb w wm) (hs : s ≤ 1) (hk : (zt T (qps P n)).1 = if s = 0 then kPut else kCut)
    (m2 : zfPc w w1) (m3 : w1.1 = w.1) (m4 : w1.2.2.2 11 = w.2.2.2 11) (m5 : w1.2.2.2 13 = w.2.2.2 13) (m6 : (w1.2.2.2 15).length = T.length) (m7 : ∀ p, p < n → (w1.2.2.2 15).getD (qps P p) 0 = if qpa P n = p + 1 then 1 else (w.2.2.2 15).getD (qps P p) 0) (m8 : ∀ q, qps P n ≤ q → (w1.2.2.2 15).getD q 0 = 0)
    (e1 : zEx T (qps P n + 1) j1 c1) (e2 : (s = 0 ∧ zEx T j1 j2 c2) ∨ (s = 1 ∧ c2 = [] ∧ j2 = j1)) (j1l : qps P n + 1 < j1) (jl : j1 ≤ j2) (j2l : j2 < T.length)
    (f11 : w9.1 162 11 = nI j2) (f12 : w9.1 162 12 = 0) (f13 : w9.1 162 13 = 0) (f26 : w9.1 162 26 = nI (cb + c1.length + c2.length)) (fb : cb + c1.length + c2.length ≤ j2) (fm : zfPm wm w9) (fa : zAr n cb wm w9) (f170 : w9.2.1 170 n = nI s) (f171 : w9.2.1 171 n = nI cb) (f172 : w9.2.1 172 n = nI (cb + c1.length)) (fc1 : zCm cb c1 w9) (fc2 : zCm (cb + c1.length) c2 w9) : zTo T n w wm (jbd (f_X7_takeKind 59 (zpA w1 j2 0)) fun q9 => some q9) (zr3 (nI n) w9) := by
  obtain ⟨hg, hwc, hwm, h11, h13, hwr, hi, h2n, hs3, hC, hT, h00, h01⟩ := h
  have hl := tk.2.1
  have nl : n < 210 := by omega
  unfold zr3
  rw [z_jg (z_in nl (by decide)), nI_clamp (by omega), f26, z_jl]
  have g11 : (jsetX w9 173 n (nI (cb + c1.length + c2.length))).1 162 11 = nI j2 := f11
  have g13 : (jsetX w9 173 n (nI (cb + c1.length + c2.length))).1 162 13 = 0 := f13
  have gm : zfPm wm (jsetX w9 173 n (nI (cb + c1.length + c2.length))) := zfPm_trans fm (zfPm_X (by decide) (by decide))
  have ga : zAr n cb wm (jsetX w9 173 n (nI (cb + c1.length + c2.length))) := zAr_trans fa (zAr_X (by decide) (by decide))
  have g17 : ∀ k, k ≠ 173 → (jsetX w9 173 n (nI (cb + c1.length + c2.length))).2.1 k = w9.2.1 k := fun k hk => z_jX2 hk
  have g173 : (jsetX w9 173 n (nI (cb + c1.length + c2.length))).2.1 173 n = nI (cb + c1.length + c2.length) := by rw [z_jX1, zup_eq]
  have g12 : (jsetX w9 173 n (nI (cb + c1.length + c2.length))).1 162 12 = 0 := f12
  have g26 : (jsetX w9 173 n (nI (cb + c1.length + c2.length))).1 162 26 = nI (cb + c1.length + c2.length) := f26
  generalize hg9 : jsetX w9 173 n (nI (cb + c1.length + c2.length)) = wa at g11 g13 gm ga g17 g173 g12 g26 ⊢
  have hC1 := zTC_c hC m2
  rcases z_must (w := w1) (b := kSemi) tk hC1 (zTRx_m hT gm) j2l g11 g13 (by decide) with ⟨a1, a2, a3, a4, a5⟩ | ⟨f, a1, a2, a3⟩
  · rw [show f_X7_takeKind 59 (zpA w1 j2 0) = _ from a4, z_jbd, show f_X12_must 4 wa = _ from a5, z_jbd, z_jl]
    rw [show (jsetI wa 162 11 (nI (j2 + 1))).1 162 18 = nI n from by rw [zI_ne (by decide), ga.2.2.2.2 18 (by omega)]; exact hwm.1, nI_1]
    obtain ⟨b1, b2, b3, b4, b5, b6, b7, b8, b9, b10, b11⟩ := hwm
    obtain ⟨d1, d2, d3, d4, d5, d6, d7⟩ := hwc
    have wmF : zfPm wm (jsetI (jsetI wa 162 11 (nI (j2 + 1))) 162 18 (nI (n + 1))) := zfPm_trans gm (zfPm_trans (zfPm_I (by decide) (by decide)) (zfPm_I (by decide) (by decide)))
    let P' : zPrg := (zup (qso P) n s, zup (qps P) (n + 1) (j2 + 1), zup (qpa P) (n + 1) (qpa P n), qmt P, zup (qdp P) (n + 1) (qdp P n), qvv P, zup (qc1 P) n c1, zup (qc2 P) n c2, zup (qcf P) n cb, fun q => if qpa P n = q + 1 then true else qac P q)
    have k1 : ∀ q, q < n → qso P' q = qso P q := fun q hq => zup_ne (by omega)
    have k2 : ∀ q, q ≤ n → qps P' q = qps P q := fun q hq => zup_ne (by omega)
    have k3 : ∀ q, q ≤ n → qpa P' q = qpa P q := fun q hq => zup_ne (by omega)
    have k4 : ∀ q, q ≤ n → qdp P' q = qdp P q := fun q hq => zup_ne (by omega)
    have k5 : ∀ q, q < n → qc1 P' q = qc1 P q := fun q hq => zup_ne (by omega)
    have k6 : ∀ q, q < n → qc2 P' q = qc2 P q := fun q hq => zup_ne (by omega)
    have k7 : ∀ q, q < n → qcf P' q = qcf P q := fun q hq => zup_ne (by omega)
    have sn : qso P' n = s := zup_eq _ _ _
    have pn1 : qps P' (n + 1) = j2 + 1 := zup_eq _ _ _
    have c1n : qc1 P' n = c1 := zup_eq _ _ _
    have c2n : qc2 P' n = c2 := zup_eq _ _ _
    have cfn : qcf P' n = cb := zup_eq _ _ _
    have keep : zKeep n P P' := ⟨k1, fun q hq => ⟨k2 q hq, k3 q hq, k4 q hq⟩, fun q hq => ⟨rfl, k5 q hq, k6 q hq, k7 q hq⟩⟩
    have ta : zTa T P' n := by
      refine ⟨by rw [sn]; exact hs, by rw [sn, k2 n (Nat.le_refl _)]; exact hk, ⟨j1, j2, by rw [k2 n (Nat.le_refl _), c1n]; exact e1, ?_, pn1⟩, ?_, ?_⟩
      · rw [sn, c2n]; exact e2
      · rw [k3 n (Nat.le_refl _)]; exact zup_eq _ _ _
      · rw [k4 n (Nat.le_refl _)]; exact zup_eq _ _ _
    have hg' := zPg_act hg keep (fun _ => rfl) (fun q _ => rfl) ta
    refine Or.inl ⟨P', stk, cb + c1.length + c2.length, w1, _, by rw [pn1], rfl, ⟨hg', ⟨?_, by rw [m5]; exact d2, m6, ?_, ?_, ?_, ?_⟩, ⟨by rw [zI_eq], ?_, ?_, ?_, by rw [pn1]; omega, ?_, ?_, ?_, ?_, ?_, ?_⟩, ?_, ?_, ?_, by rw [pn1]; exact a3, by rw [pn1]; omega, hs3, hC1, zTRx_m hT wmF, by rw [k2 0 (by omega)]; exact h00, fun z => h01 (by rw [zI_ne (by decide), zI_ne (by decide), ga.2.2.2.2 15 (by omega)] at z; exact z)⟩, m2, wmF⟩
    · rw [m4, d1]
      refine List.map_congr_left fun x hx => ?_
      have := (zStk_lt hg.2.2.2.2.2.2.1 x (List.mem_reverse.mp hx)).1
      rw [k2 x (by omega)]
    · intro p hp s3
      by_cases c : p = n
      · rw [c, sn] at s3; omega
      · rw [k1 p (by omega)] at s3
        have ml : qmt P p < p := by
          rcases hg.1 p (by omega) with z | z | ⟨z, _⟩
          · have := z.1; omega
          · have := z.1; omega
          · exact z.2.2.2.1
        rw [m5, k2 p (by omega), show qmt P' p = qmt P p from rfl, k2 (qmt P p) (by omega)]
        exact d4 p (by omega) s3
    · intro p hp s2
      by_cases c : p = n
      · rw [c, sn] at s2; omega
      · rw [k1 p (by omega)] at s2
        rw [k2 p (by omega), m7 p (by omega), d5 p (by omega) s2]
        show _ = if (if qpa P n = p + 1 then true else qac P p) = true then (1 : Int32) else 0
        by_cases d : qpa P n = p + 1
        · rw [if_pos d, if_pos d, if_pos rfl]
        · rw [if_neg d, if_neg d]
    · intro q hq
      rw [pn1] at hq
      exact m8 q (by omega)
    · intro p hp
      by_cases c : p = n
      · rw [c, pn1, k2 n (Nat.le_refl _)]; omega
      · rw [k2 p (by omega), k2 (p + 1) (by omega)]; exact d7 p (by omega)
    · rw [zI_ne (by decide), zI_ne (by decide), ga.2.2.2.2 24 (by omega)]; exact b2
    · rw [zI_ne (by decide), zI_ne (by decide)]; exact g26
    · rw [zI_ne (by decide), zI_ne (by decide)]; exact g12
    · intro p hp
      show wa.2.1 170 p = _
      by_cases c : p = n
      · rw [c, sn, g17 170 (by decide)]; exact f170
      · rw [k1 p (by omega), ga.1 170 (by decide) (by decide) p (by omega)]; exact b6 p (by omega)
    · intro p hp s1
      show wa.2.1 171 p = _ ∧ wa.2.1 172 p = _ ∧ wa.2.1 173 p = _ ∧ zCm _ _ wa ∧ zCm _ _ wa ∧ _
      by_cases c : p = n
      · rw [c, c1n, c2n, cfn, g17 171 (by decide), g17 172 (by decide)]
        refine ⟨f171, f172, g173, fun i x hx => by rw [g17 176 (by decide), g17 177 (by decide)]; exact fc1 i x hx, fun i x hx => by rw [g17 176 (by decide), g17 177 (by decide)]; exact fc2 i x hx, Nat.le_refl _⟩
      · rw [k1 p (by omega)] at s1
        obtain ⟨x1, x2, x3, x4, x5, x6⟩ := b7 p (by omega) s1
        rw [k5 p (by omega), k6 p (by omega), k7 p (by omega), ga.1 171 (by decide) (by decide) p (by omega), ga.1 172 (by decide) (by decide) p (by omega), ga.1 173 (by decide) (by decide) p (by omega)]
        exact ⟨x1, x2, x3, zCm_fr x4 (by omega) ga.2.2.2.1, zCm_fr x5 (by omega) ga.2.2.2.1, by omega⟩
    · intro p hp s2
      show wa.2.1 171 p = _
      by_cases c : p = n
      · rw [c, sn] at s2; omega
      · rw [k1 p (by omega)] at s2
        rw [ga.1 171 (by decide) (by decide) p (by omega)]
        exact b8 p (by omega) s2
    · intro p hp s3
      show wa.2.1 174 p = _ ∧ wa.2.1 174 (qmt P p) = _
      by_cases c : p = n
      · rw [c, sn] at s3; omega
      · rw [k1 p (by omega)] at s3
        rw [ga.2.1]
        exact b9 p (by omega) s3
    · intro i x hx
      show wa.2.1 175 i = _
      rw [ga.2.2.1]
      exact b10 i x hx
    · intro z p hp s2
      rw [zI_ne (by decide), zI_ne (by decide), ga.2.2.2.2 15 (by omega)] at z
      by_cases c : p = n
      · rw [c, sn] at s2; omega
      · rw [k1 p (by omega)] at s2
        exact b11 z p (by omega) s2
    · rw [zI_ne (by decide), zI_eq, pn1]
    · rw [zI_ne (by decide), zI_ne (by decide)]; exact g13
    · unfold zWr
      rw [m3, zI_ne (by decide), zI_ne (by decide), zI_ne (by decide), zI_ne (by decide), ga.2.2.2.2 15 (by omega), ga.2.2.2.2 16 (by omega), pn1]
      rcases hwr with z | ⟨t, z1, z2⟩
      · exact Or.inl z
      · exact Or.inr ⟨t, by omega, z2⟩
  · rw [show f_X7_takeKind 59 (zpA w1 j2 0) = _ from a2, z_jbd, show f_X12_must 4 wa = _ from a3, z_jbd, z_jl]
    obtain ⟨v1, v2⟩ := zR_f wa f (zt T j2).2.1
    exact Or.inr (zFail_mk (wm1 := jsetI (jsetI wa 162 13 f) 162 14 (zt T j2).2.1) a1 j2l rfl rfl v1 v2 ⟨zI_ne (by decide), zI_ne (by decide), zfPm_I (by decide) (by decide)⟩ m2 (zfPm_trans gm (zfPm_trans (zfPm_I (by decide) (by decide)) (zfPm_I (by decide) (by decide)))))
end
