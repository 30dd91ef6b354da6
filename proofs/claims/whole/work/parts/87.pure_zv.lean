section
/-! feed, back: the tape -/
theorem zb8 (x : BitVec 32) (s : Nat) (hs : s ≤ 24) : (BitVec.sshiftRight x s).signExtend 8 = ((x >>> s) &&& 255#32).signExtend 8 := by
  apply BitVec.eq_of_getLsbD_eq
  intro i hi
  have h1 : s + i < 32 := by omega
  have h2 : (255#32).getLsbD i = true := by
    have : i = 0 ∨ i = 1 ∨ i = 2 ∨ i = 3 ∨ i = 4 ∨ i = 5 ∨ i = 6 ∨ i = 7 := by omega
    rcases this with e | e | e | e | e | e | e | e <;> subst e <;> decide
  rw [BitVec.getLsbD_signExtend, BitVec.getLsbD_signExtend, if_pos (show i < 32 by omega), if_pos (show i < 32 by omega), BitVec.getLsbD_and, BitVec.getLsbD_ushiftRight, BitVec.getLsbD_sshiftRight, h2]
  simp [h1, hi, show i < 32 by omega]
def zlb (b s : Int32) : Int32 := ((b.toUInt32 >>> (Int32.toUInt32 s &&& Int32.toUInt32 31)).toInt32) &&& 255
theorem zb24 (b : Int32) : Int32.toInt8 (b >>> ((24 : Int32) &&& 31)) = Int32.toInt8 (zlb b 24) := Int8.toBitVec_inj.mp (zb8 b.toBitVec 24 (by decide))
theorem zb16 (b : Int32) : Int32.toInt8 (b >>> ((16 : Int32) &&& 31)) = Int32.toInt8 (zlb b 16) := Int8.toBitVec_inj.mp (zb8 b.toBitVec 16 (by decide))
theorem zb08 (b : Int32) : Int32.toInt8 (b >>> ((8 : Int32) &&& 31)) = Int32.toInt8 (zlb b 8) := Int8.toBitVec_inj.mp (zb8 b.toBitVec 8 (by decide))
theorem zb00 (b : Int32) : Int32.toInt8 (b >>> ((0 : Int32) &&& 31)) = Int32.toInt8 (zlb b 0) := Int8.toBitVec_inj.mp (zb8 b.toBitVec 0 (by decide))
theorem zi8 (x : Int8) : (x.toInt32).toInt8 = x := by simp
theorem zlb_255 (b s : Int32) : zlb b s &&& 255 = zlb b s := by
  unfold zlb
  rw [Int32.and_assoc, Int32.and_self]
def zTp (w wm : jw) : Prop := (w.2.2.2 1).length ≤ 2000 ∧ wm.1 162 2 = nI (w.2.2.2 1).length ∧ ∀ (i : Nat) (x : Int32), (w.2.2.2 1)[i]? = some x → x &&& 255 = x ∧ wm.2.1 163 i = (Int32.toInt8 x).toInt32
def zfTc (w w' : jw) : Prop := w'.1 = w.1 ∧ w'.2.1 = w.2.1 ∧ w'.2.2.1 = w.2.2.1 ∧ ∀ k, k ≠ 1 → w'.2.2.2 k = w.2.2.2 k
def zfTm (w w' : jw) : Prop := w'.2.2 = w.2.2 ∧ (∀ a, a ≠ 162 → w'.1 a = w.1 a) ∧ (∀ j, j ≠ 2 → w'.1 162 j = w.1 162 j) ∧ ∀ p, p ≠ 163 → w'.2.1 p = w.2.1 p
theorem zfTc_rfl (w : jw) : zfTc w w := ⟨rfl, rfl, rfl, fun _ _ => rfl⟩
theorem zfTm_rfl (w : jw) : zfTm w w := ⟨rfl, fun _ _ => rfl, fun _ _ => rfl, fun _ _ => rfl⟩
theorem zfTc_trans {a b c : jw} (h : zfTc a b) (g : zfTc b c) : zfTc a c := ⟨g.1.trans h.1, g.2.1.trans h.2.1, g.2.2.1.trans h.2.2.1, fun k hk => (g.2.2.2 k hk).trans (h.2.2.2 k hk)⟩
theorem zfTm_trans {a b c : jw} (h : zfTm a b) (g : zfTm b c) : zfTm a c := ⟨g.1.trans h.1, fun x hx => (g.2.1 x hx).trans (h.2.1 x hx), fun x hx => (g.2.2.1 x hx).trans (h.2.2.1 x hx), fun x hx => (g.2.2.2 x hx).trans (h.2.2.2 x hx)⟩
theorem z_lay1 {w wm : jw} (h : zTp w wm) (hl : (w.2.2.2 1).length < 2000) {b s : Int32} (hs : ¬ s < 0) (hb : Int32.toInt8 (b >>> (s &&& 31)) = Int32.toInt8 (zlb b s)) : ∃ w1 wm1, (∀ n, l_X11_feedFour (n + 1) b s w = l_X11_feedFour n b (s + -8) w1) ∧ (∀ n, l_X12_lays (n + 1) b s wm = l_X12_lays n b (s + -8) wm1) ∧ zTp w1 wm1 ∧ (w1.2.2.2 1).length = (w.2.2.2 1).length + 1 ∧ zfTc w w1 ∧ zfTm wm wm1 := by
  obtain ⟨h1, h2, h3⟩ := h
  refine ⟨jsetR w 1 (w.2.2.2 1 ++ [zlb b s]), jsetI (jsetX wm 163 (w.2.2.2 1).length ((Int32.toInt8 (zlb b s)).toInt32)) 162 2 (nI ((w.2.2.2 1).length + 1)), fun n => ?_, fun n => ?_, ⟨?_, ?_, fun i x hx => ?_⟩, ?_, ⟨rfl, rfl, rfl, fun k hk => z_jR2 hk⟩, ⟨rfl, fun a ha => z_jI2 ha, fun j hj => ?_, fun p hp => ?_⟩⟩
  · conv => lhs; unfold l_X11_feedFour
    rw [if_neg hs, z_jg (decide_eq_true (by omega))]
    rfl
  · conv => lhs; unfold l_X12_lays
    rw [if_neg hs, h2, z_jg (z_in hl (by decide)), nI_clamp (by omega), hb, zi8, z_jl]
    rw [show (jsetX wm 163 (w.2.2.2 1).length ((Int32.toInt8 (zlb b s)).toInt32)).1 162 2 = nI (w.2.2.2 1).length from h2, nI_1]
    rfl
  · rw [z_jR1, List.length_append, List.length_singleton]; omega
  · rw [z_jI1, zup_eq, z_jR1, List.length_append, List.length_singleton]
  · rw [z_jR1, List.getElem?_append] at hx
    show _ ∧ (jsetX wm 163 (w.2.2.2 1).length ((Int32.toInt8 (zlb b s)).toInt32)).2.1 163 i = _
    rw [z_jX1]
    by_cases c : i < (w.2.2.2 1).length
    · rw [if_pos c] at hx
      rw [zup_ne (by omega)]
      exact h3 i x hx
    · rw [if_neg c] at hx
      have c2 : i = (w.2.2.2 1).length := by
        have := (List.getElem?_eq_some_iff.mp hx).1
        simp only [List.length_singleton] at this
        omega
      subst c2
      rw [Nat.sub_self] at hx
      cases hx
      exact ⟨zlb_255 b s, by rw [zup_eq]⟩
  · rw [z_jR1, List.length_append, List.length_singleton]
  · rw [z_jI1, zup_ne hj]; rfl
  · exact z_jX2 hp
theorem z_lay4 {w wm : jw} (h : zTp w wm) (hl : (w.2.2.2 1).length + 4 ≤ 2000) (b : Int32) : ∃ w' wm', f_X11_feedFour b w = some w' ∧ f_X12_lays b wm = some wm' ∧ zTp w' wm' ∧ (w'.2.2.2 1).length = (w.2.2.2 1).length + 4 ∧ zfTc w w' ∧ zfTm wm wm' := by
  obtain ⟨w1, m1, a1, a2, a3, a4, a5, a6⟩ := z_lay1 h (by omega) (show ¬ (24 : Int32) < 0 by decide) (zb24 b)
  obtain ⟨w2, m2, b1, b2, b3, b4, b5, b6⟩ := z_lay1 a3 (by omega) (show ¬ (16 : Int32) < 0 by decide) (zb16 b)
  obtain ⟨w3, m3, c1, c2, c3, c4, c5, c6⟩ := z_lay1 b3 (by omega) (show ¬ (8 : Int32) < 0 by decide) (zb08 b)
  obtain ⟨w4, m4, d1, d2, d3, d4, d5, d6⟩ := z_lay1 c3 (by omega) (show ¬ (0 : Int32) < 0 by decide) (zb00 b)
  refine ⟨w4, m4, ?_, ?_, d3, by omega, zfTc_trans a5 (zfTc_trans b5 (zfTc_trans c5 d5)), zfTm_trans a6 (zfTm_trans b6 (zfTm_trans c6 d6))⟩
  · refine (a1 39999).trans ?_
    rw [show (24 : Int32) + -8 = 16 by decide]
    refine (b1 39998).trans ?_
    rw [show (16 : Int32) + -8 = 8 by decide]
    refine (c1 39997).trans ?_
    rw [show (8 : Int32) + -8 = 0 by decide]
    refine (d1 39996).trans ?_
    unfold l_X11_feedFour
    rw [if_pos (by decide)]
  · refine (a2 39999).trans ?_
    rw [show (24 : Int32) + -8 = 16 by decide]
    refine (b2 39998).trans ?_
    rw [show (16 : Int32) + -8 = 8 by decide]
    refine (c2 39997).trans ?_
    rw [show (8 : Int32) + -8 = 0 by decide]
    refine (d2 39996).trans ?_
    unfold l_X12_lays
    rw [if_pos (by decide)]
theorem t_feed {w wm : jw} (h : zTp w wm) (a b c d e : Int32) : ∃ v w' wm', f_X11_feed a b c d e w = some (v, w') ∧ f_X12_feed a b c d e wm = some (v, wm') ∧ zTp w' wm' ∧ zfTc w w' ∧ zfTm wm wm' := by
  have h1 := h.1
  unfold f_X11_feed f_X12_feed
  rw [h.2.1, show nI (w.2.2.2 1).length + 20 = nI ((w.2.2.2 1).length + 20) from nI_add _ 20]
  by_cases k : (w.2.2.2 1).length + 20 ≤ 2000
  · rw [if_pos (show nI ((w.2.2.2 1).length + 20) ≤ 2000 from nI_le (b := 2000) k (by decide)), if_pos (show nI ((w.2.2.2 1).length + 20) ≤ 2000 from nI_le (b := 2000) k (by decide))]
    obtain ⟨w1, m1, a1, a2, a3, a4, a5, a6⟩ := z_lay4 h (by omega) a
    obtain ⟨w2, m2, b1, b2, b3, b4, b5, b6⟩ := z_lay4 a3 (by omega) b
    obtain ⟨w3, m3, c1, c2, c3, c4, c5, c6⟩ := z_lay4 b3 (by omega) c
    obtain ⟨w4, m4, d1, d2, d3, d4, d5, d6⟩ := z_lay4 c3 (by omega) d
    obtain ⟨w5, m5, e1, e2, e3, e4, e5, e6⟩ := z_lay4 d3 (by omega) e
    rw [a1, z_jbd, b1, z_jbd, c1, z_jbd, d1, z_jbd, e1, z_jbd, a2, z_jbd, b2, z_jbd, c2, z_jbd, d2, z_jbd, e2, z_jbd, e3.2.1]
    exact ⟨_, w5, m5, rfl, rfl, e3, zfTc_trans a5 (zfTc_trans b5 (zfTc_trans c5 (zfTc_trans d5 e5))), zfTm_trans a6 (zfTm_trans b6 (zfTm_trans c6 (zfTm_trans d6 e6)))⟩
  · rw [if_neg (show ¬ nI ((w.2.2.2 1).length + 20) ≤ 2000 from nI_ge (a := 2000) (by omega) (by omega)), if_neg (show ¬ nI ((w.2.2.2 1).length + 20) ≤ 2000 from nI_ge (a := 2000) (by omega) (by omega))]
    exact ⟨-1, w, wm, rfl, rfl, h, zfTc_rfl w, zfTm_rfl wm⟩
theorem t_back {w wm : jw} (h : zTp w wm) (a : Int32) : ∃ v w' wm', f_X11_back a w = some (v, w') ∧ f_X12_back a wm = some (v, wm') ∧ zTp w' wm' ∧ zfTc w w' ∧ zfTm wm wm' := by
  have h1 := h.1
  unfold f_X11_back f_X12_back
  rw [h.2.1]
  by_cases c : a < 0
  · rw [if_pos c, if_pos c]
    exact ⟨-1, w, wm, rfl, rfl, h, zfTc_rfl w, zfTm_rfl wm⟩
  · rw [if_neg c, if_neg c]
    obtain ⟨j, j1, j2⟩ := nI_of c
    subst j2
    by_cases k : j ≤ (w.2.2.2 1).length
    · rw [if_pos (nI_le k (by omega)), if_pos (nI_le k (by omega)), pk_sub k]
      have rc : rcut (w.2.2.2 1) (nI ((w.2.2.2 1).length - j)) = (w.2.2.2 1).take ((w.2.2.2 1).length - j) := by
        unfold rcut
        rw [if_neg (nI_pos (by omega)), nI_clamp (by omega)]
      rw [rc, z_jl, z_jl, z_jR1, z_jI1, zup_eq, List.length_take, Nat.min_eq_left (by omega)]
      refine ⟨_, _, _, rfl, rfl, ⟨?_, ?_, fun i x hx => ?_⟩, ⟨rfl, rfl, rfl, fun k hk => z_jR2 hk⟩, ⟨rfl, fun a ha => z_jI2 ha, fun j hj => ?_, fun p hp => rfl⟩⟩
      · rw [z_jR1, List.length_take]; omega
      · rw [z_jI1, zup_eq, z_jR1, List.length_take, Nat.min_eq_left (by omega)]
      · rw [z_jR1, List.getElem?_take] at hx
        split at hx
        · exact h.2.2 i x hx
        · cases hx
      · rw [z_jI1, zup_ne hj]
    · rw [if_neg (nI_ge (by omega) j1), if_neg (nI_ge (by omega) j1)]
      exact ⟨-1, w, wm, rfl, rfl, h, zfTc_rfl w, zfTm_rfl wm⟩
end
