section
/-! PUT and CUT whole -/
abbrev zS : Type := Nat × Nat × (Nat → zP) × List (Int32 × Int32) × List zH
def zCi (S : zS) (w : jw) : Prop := zCw S.1 S.2.1 S.2.2.1 w ∧ zCr S.2.2.2.1 w ∧ zCh S.2.2.2.2 w
def zMi (S : zS) (N : Nat → Int32) : Prop := zM S.1 S.2.1 S.2.2.1 N ∧ zMr S.2.2.2.1 N ∧ zMh S.2.2.2.2 N ∧ N 0 = nI (S.2.2.2.2.length - 1)
def zIn (S : zS) : Prop := zIx S.1 (S.2.2.2.2.length - 1) S.2.1 S.2.2.1 S.2.2.2.1 ∧ zHi S.2.2.2.2
def zfC (w w' : jw) : Prop := (∀ a, a ≠ 35 → a ≠ 51 → a ≠ 54 → w'.1 a = w.1 a) ∧ (∀ p, p ≠ 55 → p ≠ 56 → p ≠ 57 → w'.2.1 p = w.2.1 p) ∧ w'.2.2.1 = w.2.2.1 ∧ ∀ k, (k < 19 ∨ 33 < k) → k ≠ 36 → k ≠ 38 → k ≠ 40 → k ≠ 42 → k ≠ 44 → k ≠ 46 → k ≠ 52 → w'.2.2.2 k = w.2.2.2 k
def zfM (w w' : jw) : Prop := w'.2.2 = w.2.2 ∧ (∀ a, a ≠ 162 → w'.1 a = w.1 a) ∧ (∀ j, j ≠ 36 → j ≠ 37 → w'.1 162 j = w.1 162 j) ∧ (∀ p, p ≠ 182 → p ≠ 183 → p ≠ 184 → p ≠ 185 → p ≠ 186 → w'.2.1 p = w.2.1 p) ∧ w'.2.1 182 5 = w.2.1 182 5 ∧ w'.2.1 182 6 = w.2.1 182 6
theorem zfC_rfl (w : jw) : zfC w w := ⟨fun _ _ _ _ => rfl, fun _ _ _ _ => rfl, rfl, fun _ _ _ _ _ _ _ _ _ => rfl⟩
theorem zfC_trans {a b c : jw} (h : zfC a b) (g : zfC b c) : zfC a c := ⟨fun x x1 x2 x3 => (g.1 x x1 x2 x3).trans (h.1 x x1 x2 x3), fun p p1 p2 p3 => (g.2.1 p p1 p2 p3).trans (h.2.1 p p1 p2 p3), g.2.2.1.trans h.2.2.1, fun k k0 k1 k2 k3 k4 k5 k6 k7 => (g.2.2.2 k k0 k1 k2 k3 k4 k5 k6 k7).trans (h.2.2.2 k k0 k1 k2 k3 k4 k5 k6 k7)⟩
theorem zfC_H {w w' : jw} (h : zfH w w') : zfC w w' := ⟨fun a a1 _ _ => h.1 a a1, fun p _ _ _ => by rw [h.2.1], h.2.2.1, fun k _ k1 k2 k3 k4 _ _ _ => h.2.2.2 k k1 k2 k3 k4⟩
theorem zfC_G {w w' : jw} (h : zfG w w') : zfC w w' := ⟨fun a _ a2 a3 => h.1 a a2 a3, h.2.1, h.2.2.1, fun k k0 _ _ _ _ k5 k6 k7 => h.2.2.2 k k0 k5 k6 k7⟩
theorem zfM_rfl (w : jw) : zfM w w := ⟨rfl, fun _ _ => rfl, fun _ _ _ => rfl, fun _ _ _ _ _ _ => rfl, rfl, rfl⟩
theorem zfM_trans {a b c : jw} (h : zfM a b) (g : zfM b c) : zfM a c := ⟨g.1.trans h.1, fun x hx => (g.2.1 x hx).trans (h.2.1 x hx), fun x x1 x2 => (g.2.2.1 x x1 x2).trans (h.2.2.1 x x1 x2), fun p p1 p2 p3 p4 p5 => (g.2.2.2.1 p p1 p2 p3 p4 p5).trans (h.2.2.2.1 p p1 p2 p3 p4 p5), g.2.2.2.2.1.trans h.2.2.2.2.1, g.2.2.2.2.2.trans h.2.2.2.2.2⟩
theorem zfM_T {w w' : jw} (h : zfT w w') : zfM w w' := ⟨h.2.1, fun _ _ => by rw [h.1], fun _ _ _ => by rw [h.1], fun p p1 _ _ _ _ => h.2.2.1 p p1, h.2.2.2 5 (by decide) (by decide) (by decide) (by decide), h.2.2.2 6 (by decide) (by decide) (by decide) (by decide)⟩
theorem zfM_E {w w' : jw} (h : zfE w w') : zfM w w' := ⟨h.1, h.2.1, h.2.2.1, h.2.2.2.1, h.2.2.2.2 5 (by omega), h.2.2.2.2 6 (by omega)⟩
theorem zgood_p {B : Nat} {t : Int32} {pa : List Nat} {P : Nat} {pg : Nat → zP} {ro : List (Int32 × Int32)} {r : List zE} (h : zgood B t pa P pg ro r) : pa.headD 0 < P := by
  match pa, h with
  | [], h => exact h.elim
  | [p], h => exact h.1
  | p :: q :: up, h => exact h.1.1
theorem zCw_H {B P : Nat} {pg : Nat → zP} {w w' : jw} (h : zCw B P pg w) (f : zfH w w') : zCw B P pg w' := zCw_B h (by rw [f.1 18 (by decide)]) (fun k k1 k2 => f.2.2.2 k (by omega) (by omega) (by omega) (by omega))
theorem zCr_H {ro : List (Int32 × Int32)} {w w' : jw} (h : zCr ro w) (f : zfH w w') : zCr ro w' := ⟨by rw [f.2.2.2 44 (by decide) (by decide) (by decide) (by decide)]; exact h.1, by rw [f.2.2.2 46 (by decide) (by decide) (by decide) (by decide)]; exact h.2⟩
theorem zCh_G {hs : List zH} {w w' : jw} (h : zCh hs w) (f : zfG w w') : zCh hs w' := by
  unfold zCh
  rw [f.2.2.2 36 (by decide) (by decide) (by decide) (by decide), f.2.2.2 38 (by decide) (by decide) (by decide) (by decide), f.2.2.2 40 (by decide) (by decide) (by decide) (by decide), f.2.2.2 42 (by decide) (by decide) (by decide) (by decide), f.1 35 (by decide) (by decide)]
  exact h
theorem zM_T {B P : Nat} {pg : Nat → zP} {w w' : jw} (h : zM B P pg (w.2.1 182)) (f : zfT w w') : zM B P pg (w'.2.1 182) := zM_out h (fun a ha => f.2.2.2 a (by omega) (by omega) (by omega) (by omega))
theorem zMr_T {ro : List (Int32 × Int32)} {w w' : jw} (h : zMr ro (w.2.1 182)) (f : zfT w w') (hl : ro.length ≤ 700) : zMr ro (w'.2.1 182) := by
  refine ⟨by rw [f.2.2.2 2 (by decide) (by decide) (by decide) (by decide)]; exact h.1, fun i q hq => ?_⟩
  have := (List.getElem?_eq_some_iff.mp hq).1
  rw [f.2.2.2 (10 + i) (by omega) (by omega) (by omega) (by omega), f.2.2.2 (710 + i) (by omega) (by omega) (by omega) (by omega)]
  exact h.2 i q hq
theorem zMh_E {hs : List zH} {w w' : jw} (h : zMh hs (w.2.1 182)) (f : zfE w w') : zMh hs (w'.2.1 182) := by
  obtain ⟨h1, h2, h3, h4⟩ := h
  refine ⟨fun i e hi => ?_, by rw [f.2.2.2.2 4 (by omega)]; exact h2, by rw [f.2.2.2.2 7 (by omega)]; exact h3, fun k hk => by rw [f.2.2.2.2 _ (by omega)]; exact h4 k hk⟩
  obtain ⟨f1, f2, f3, f4⟩ := h1 i e hi
  exact ⟨by rw [f.2.2.2.2 _ (by omega)]; exact f1, by rw [f.2.2.2.2 _ (by omega)]; exact f2, by rw [f.2.2.2.2 _ (by omega)]; exact f3, by rw [f.2.2.2.2 _ (by omega)]; exact f4⟩
theorem zT1 (w : jw) (x : Int32) : zfT w (jsetX w 182 0 x) ∧ (jsetX w 182 0 x).2.1 182 0 = x ∧ ∀ a, a ≠ 0 → (jsetX w 182 0 x).2.1 182 a = w.2.1 182 a := ⟨⟨rfl, rfl, fun p hp => z_jX2 hp, fun a a0 _ _ _ => by rw [z_jX1, zup_ne a0]⟩, by rw [z_jX1, zup_eq], fun a a0 => by rw [z_jX1, zup_ne a0]⟩
theorem zMh_0 {hs : List zH} {w : jw} {x : Int32} (h : zMh hs (w.2.1 182)) : zMh hs ((jsetX w 182 0 x).2.1 182) := by
  obtain ⟨h1, h2, h3, h4⟩ := h
  have o := (zT1 w x).2.2
  refine ⟨fun i e hi => ?_, by rw [o 4 (by decide)]; exact h2, by rw [o 7 (by decide)]; exact h3, fun k hk => by rw [o _ (by omega)]; exact h4 k hk⟩
  obtain ⟨f1, f2, f3, f4⟩ := h1 i e hi
  exact ⟨by rw [o _ (by omega)]; exact f1, by rw [o _ (by omega)]; exact f2, by rw [o _ (by omega)]; exact f3, by rw [o _ (by omega)]; exact f4⟩
theorem z_key (k : Nat) (hk : k < 1000) : ¬ nI k < 0 ∧ nI k < 1000 := ⟨nI_pos (by omega), show nI k < nI 1000 from nI_lt hk (by decide)⟩
theorem z_PUT {S : zS} {k : Nat} {v : Int32} {w wm : jw} (h : zIn S) (hP : S.2.1 < 280) (hl : S.2.2.2.2.length ≤ 2900) (hk : k < 1000) (hC : zCi S w) (hM : zMi S (wm.2.1 182)) :
    ∃ S' w' wm', f_X1_bring (nI k) v w = some (true, w') ∧ f_X12_puts (nI k) v wm = some (true, wm') ∧ zIn S' ∧ S'.1 = S.1 ∧ S'.2.2.2.2 = zhap S.2.2.2.2 1 (nI k) v ∧ zCi S' w' ∧ zMi S' (wm'.2.1 182) ∧ zfC w w' ∧ zfM wm wm' := by
  obtain ⟨B, P, pg, ro, hs⟩ := S
  obtain ⟨hI, hH⟩ := h
  obtain ⟨c1, c2, c3⟩ := hC
  obtain ⟨m1, m2, m3, m4⟩ := hM
  simp only [] at *
  have l0 := zHi_len hH
  obtain ⟨k1, k2⟩ := z_key k hk
  have r5 := hI.2.2.2.2.1
  have et : hs.length - 1 + 1 = hs.length := by omega
  obtain ⟨w4, a1, a2, a3⟩ := z_happen (put := 1) (key := nI k) (value := v) c3 hH (by omega) (Or.inr rfl)
  obtain ⟨o, b1, ⟨pa, b2, R, lev, ⟨ro0, f, b3⟩, b4, ⟨lo, hi, b5⟩, b6, b7⟩, w5, b8, b9, b10, b11⟩ := z_putC (v := v) hI hP (by omega) k1 k2 (zCw_H c1 a2) (zCr_H c2 a2)
  rw [et] at b1 b2 b4 b5 b7 b8
  have tm : wm.2.1 182 0 + 1 = nI hs.length := by rw [m4, nI_1, et]
  obtain ⟨t1, t2, t3⟩ := zT1 wm (nI hs.length)
  obtain ⟨w6, w7, e1, e2, e3, e4, e5⟩ := z_hPut (v := v) (zMh_0 (x := nI hs.length) m3) hH hl hk t2
  have e3' := zfT_trans t1 e3
  have pt : hs.length = hs.length - 1 + 1 := et.symm
  rw [pt] at b2 b4 b5 b7 e4
  obtain ⟨w8, u1, u2, u3, u4⟩ := z_putM (v := v) (w := w7) hI hP (by omega) k1 k2 b3 b5 b6 (zM_T m1 e3') (zMr_T m2 e3' (by omega)) e4 b4 (zgood_p b7) b7
  rw [← b2] at u3 u4
  refine ⟨(B, o.1, o.2.1, o.2.2, zhap hs 1 (nI k) v), w5, w8, ?_, ?_, ⟨?_, zHi_hap hH (Or.inr rfl) k1 k2 (by omega)⟩, rfl, rfl, ⟨b10, b11, zCh_G a3 b9⟩, ⟨u3, u4, zMh_E e5 u2, ?_⟩, zfC_trans (zfC_H a2) (zfC_G b9), zfM_trans (zfM_T e3') (zfM_E u2)⟩
  · unfold f_X1_bring
    rw [c1.2.1, if_pos (show nI P < 280 from nI_lt (b := 280) hP (by decide)), a1, z_jbd2]
    exact b8
  · unfold f_X12_puts
    rw [z_jg j_3, k_3, m1.2.1, if_pos (show nI P < 280 from nI_lt (b := 280) hP (by decide)), z_jg j_0, z_jg j_0, z_jl, k_0, tm, e1, z_jbd, e2, z_jbd]
    rw [k_0] at u1
    exact u1
  · show zIx B ((zhap hs 1 (nI k) v).length - 1) o.1 o.2.1 o.2.2
    rw [zhap_len, Nat.add_sub_cancel]
    exact b1
  · show w8.2.1 182 0 = nI ((zhap hs 1 (nI k) v).length - 1)
    rw [zhap_len, Nat.add_sub_cancel, u2.2.2.2.2 0 (by omega), e4, et]
theorem z_PUT0 {S : zS} {k : Nat} {v : Int32} {w wm : jw} (hP : 280 ≤ S.2.1) (hI : zIn S) (hC : zCi S w) (hM : zMi S (wm.2.1 182)) : f_X1_bring (nI k) v w = some (false, w) ∧ f_X12_puts (nI k) v wm = some (false, wm) := by
  have h320 := hI.1.2.2.2.1
  refine ⟨?_, ?_⟩
  · unfold f_X1_bring
    rw [hC.1.2.1, if_neg (show ¬ nI S.2.1 < 280 from nI_nlt (b := 280) hP (by omega))]
  · unfold f_X12_puts
    rw [z_jg j_3, k_3, hM.1.2.1, if_neg (show ¬ nI S.2.1 < 280 from nI_nlt (b := 280) hP (by omega))]
theorem z_CUT {S : zS} {k f0 : Nat} {w wm : jw} (h : zIn S) (hP : S.2.1 < 280) (hl : S.2.2.2.2.length ≤ 2900) (hk : k < 1000) (hz : zlf S.2.2.2.2 (nI k) (S.2.2.2.2.length - 1) = some f0) (hC : zCi S w) (hM : zMi S (wm.2.1 182)) :
    ∃ S' w' wm', f_X1_drop (nI k) w = some (true, w') ∧ f_X12_cuts (nI k) wm = some (true, wm') ∧ zIn S' ∧ S'.1 = S.1 ∧ S'.2.2.2.2 = zhap S.2.2.2.2 0 (nI k) 0 ∧ zCi S' w' ∧ zMi S' (wm'.2.1 182) ∧ zfC w w' ∧ zfM wm wm' := by
  obtain ⟨B, P, pg, ro, hs⟩ := S
  obtain ⟨hI, hH⟩ := h
  obtain ⟨c1, c2, c3⟩ := hC
  obtain ⟨m1, m2, m3, m4⟩ := hM
  simp only [] at *
  have l0 := zHi_len hH
  obtain ⟨k1, k2⟩ := z_key k hk
  have r5 := hI.2.2.2.2.1
  have et : hs.length - 1 + 1 = hs.length := by omega
  have f0l := (zlf_some _ _ hz).2.1
  obtain ⟨w4, a1, a2, a3⟩ := z_happen (put := 0) (key := nI k) (value := 0) c3 hH (by omega) (Or.inl rfl)
  obtain ⟨o, b1, ⟨pa, b2, R, lev, ⟨ro0, f, b3⟩, b4, ⟨lo, hi, b5⟩, b6, b7⟩, w5, b8, b9, b10, b11⟩ := z_cutC hI hP (by omega) k1 k2 (zCw_H c1 a2) (zCr_H c2 a2)
  rw [et] at b1 b2 b4 b5 b7 b8
  have tm : wm.2.1 182 0 + 1 = nI hs.length := by rw [m4, nI_1, et]
  obtain ⟨t1, t2, t3⟩ := zT1 wm (nI hs.length)
  obtain ⟨w7, e1, e3, e4, e5⟩ := z_hCut (v := 0) (zMh_0 (x := nI hs.length) m3) hH hl hk t2
  have e3' := zfT_trans t1 e3
  have pt : hs.length = hs.length - 1 + 1 := et.symm
  rw [pt] at b2 b4 b5 b7 e4
  obtain ⟨w8, u1, u2, u3, u4⟩ := z_cutM (w := w7) hI hP (by omega) k1 k2 b3 b5 b6 (zM_T m1 e3') (zMr_T m2 e3' (by omega)) e4 b4 (zgood_p b7) b7
  rw [← b2] at u3 u4
  have xl := zvr_le hs
  refine ⟨(B, o.1, o.2.1, o.2.2, zhap hs 0 (nI k) 0), w5, w8, ?_, ?_, ⟨?_, zHi_hap hH (Or.inl rfl) k1 k2 (by omega)⟩, rfl, rfl, ⟨b10, b11, zCh_G a3 b9⟩, ⟨u3, u4, zMh_E e5 u2, ?_⟩, zfC_trans (zfC_H a2) (zfC_G b9), zfM_trans (zfM_T e3') (zfM_E u2)⟩
  · unfold f_X1_drop
    rw [c1.2.1, if_neg (show ¬ (280 : Int32) ≤ nI P from nI_ge (b := 280) hP (by decide)), z_now' c3 l0, z_jbd2, z_livingFrom c3 (by omega) (by omega), z_jbd2, hz, if_neg (show ¬ zof (some f0) = -1 from z_nm1 (by omega)), a1, z_jbd2]
    exact b8
  · unfold f_X12_cuts
    have lk : wm.2.1 182 (33700 + k) = nI (zix hs f0) := by
      rw [m3.2.2.2 k hk]
      show zoi hs (zlf hs (nI k) (hs.length - 1)) = _
      rw [hz]
      rfl
    have zx : zix hs f0 ≤ hs.length := by unfold zix; exact Nat.le_trans List.countP_le_length (by rw [List.length_take]; omega)
    rw [z_337, z_jg (z_in (by omega) (by decide)), nI_clamp (by omega), lk, if_neg (nI_pos (by omega)), z_jg j_3, k_3, m1.2.1, if_pos (show nI P < 280 from nI_lt (b := 280) hP (by decide)), z_jg j_0, z_jg j_0, z_jl, k_0, tm, e1, z_jbd]
    exact u1
  · show zIx B ((zhap hs 0 (nI k) 0).length - 1) o.1 o.2.1 o.2.2
    rw [zhap_len, Nat.add_sub_cancel]
    exact b1
  · show w8.2.1 182 0 = nI ((zhap hs 0 (nI k) 0).length - 1)
    rw [zhap_len, Nat.add_sub_cancel, u2.2.2.2.2 0 (by omega), e4, et]
theorem z_CUT0 {S : zS} {k : Nat} {w wm : jw} (hI : zIn S) (hl : S.2.2.2.2.length ≤ 2900) (hk : k < 1000) (hn : 280 ≤ S.2.1 ∨ zlf S.2.2.2.2 (nI k) (S.2.2.2.2.length - 1) = none) (hC : zCi S w) (hM : zMi S (wm.2.1 182)) : f_X1_drop (nI k) w = some (false, w) ∧ f_X12_cuts (nI k) wm = some (false, wm) := by
  obtain ⟨B, P, pg, ro, hs⟩ := S
  obtain ⟨c1, c2, c3⟩ := hC
  obtain ⟨m1, m2, m3, m4⟩ := hM
  have h320 := hI.1.2.2.2.1
  have l0 := zHi_len hI.2
  simp only [] at *
  have lk : wm.2.1 182 (33700 + k) = zoi hs (zlf hs (nI k) (hs.length - 1)) := m3.2.2.2 k hk
  refine ⟨?_, ?_⟩
  · unfold f_X1_drop
    rw [c1.2.1]
    by_cases c : 280 ≤ P
    · rw [if_pos (show (280 : Int32) ≤ nI P from nI_le (a := 280) c (by omega))]
    · have hn' : zlf hs (nI k) (hs.length - 1) = none := by
        rcases hn with z | z
        · exact absurd z c
        · exact z
      rw [if_neg (show ¬ (280 : Int32) ≤ nI P from nI_ge (b := 280) (by omega) (by decide)), z_now' c3 l0, z_jbd2, z_livingFrom c3 (by omega) (by omega), z_jbd2, hn', if_pos (show zof none = -1 from rfl)]
  · unfold f_X12_cuts
    rw [z_337, z_jg (z_in (by omega) (by decide)), nI_clamp (by omega), lk]
    cases hz : zlf hs (nI k) (hs.length - 1) with
    | none => rw [if_pos (show zoi hs none < 0 from z_m1)]
    | some f =>
      have c : 280 ≤ P := by
        rcases hn with z | z
        · exact z
        · rw [hz] at z; cases z
      have fl := (zlf_some _ _ hz).2.1
      have zx : zix hs f ≤ hs.length := by unfold zix; exact Nat.le_trans List.countP_le_length (by rw [List.length_take]; omega)
      rw [if_neg (show ¬ zoi hs (some f) < 0 from nI_pos (by omega)), z_jg j_3, k_3, m1.2.1, if_neg (show ¬ nI P < 280 from nI_nlt (b := 280) c (by omega))]
end
