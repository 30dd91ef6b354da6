section
/-! a put or a cut told: the class's side, the reference's variables -/
def zAy (k : Nat) (b2 l : Int32) (s5 : Int32) (w34 : jw) : Option (Int32 × Int32 × Int32 × jw) := jg (jin (nI k) 210) (jg (jin (nI k) 210) (jbd2 (f_X12_termOf (w34.2.1 171 k) (w34.2.1 172 k) w34) fun x38 w39 => jbd2 (f_X12_keyOf x38 w39) fun x41 w42 => jbd2 (if s5 = 0 then jg (jin (nI k) 210) (jg (jin (nI k) 210) (jbd2 (f_X12_termOf (w42.2.1 172 k) (w42.2.1 173 k) w42) fun x70 w71 => some (x70, w71))) else some ((0 : Int32), w42)) fun x44 w45 => jbd (if s5 = 0 then some x41 else some l) fun x48 => jg (jin 5 34700) (jg (jin 5 34700) (jl (jsetX w45 182 (Int32.toNatClampNeg 5) ((w45.2.1 182 (Int32.toNatClampNeg 5)) + 1)) fun w52 => jbd2 (if s5 = 0 then jbd2 (f_X12_puts x41 x44 w52) fun x65 w66 => some (jb x65, w66) else jbd2 (f_X12_cuts x41 w52) fun x62 w63 => some (jb x62, w63)) fun x54 w55 => (if x54 = 0 then jg (jin 6 34700) (jg (jin 6 34700) (jl (jsetX w55 182 (Int32.toNatClampNeg 6) ((w55.2.1 182 (Int32.toNatClampNeg 6)) + 1)) fun w60 => some (nI k, b2, x48, w60))) else some (nI k, b2, x48, w55))))))
theorem zat_c (w : jw) (i j : Nat) (x : Int32) (h : j ≠ 4) : jsetI (zat w i) 48 j x = zat (jsetI w 48 j x) i := by
  refine z_jIe _ _ _ _ _ rfl fun p q => ?_
  show (if p = 48 ∧ q = j then x else if p = 48 ∧ q = 4 then nI i else w.1 p q) = if p = 48 ∧ q = 4 then nI i else if p = 48 ∧ q = j then x else w.1 p q
  by_cases c : p = 48 ∧ q = j
  · rw [if_pos c, if_neg (by omega), if_pos c]
  · rw [if_neg c, if_neg c]
theorem zenv_j (w : jw) (j : Nat) (x : Int32) (h : j ≠ 5) : zenv (jsetI w 48 j x) = zenv w := by
  funext n
  unfold zenv
  rw [show (jsetI w 48 j x).1 35 4 = w.1 35 4 from by rw [z_jI2 (by decide)], show (jsetI w 48 j x).1 48 5 = w.1 48 5 from by rw [zI_ne (Ne.symm h)]]
  rfl
variable {T : List zT} {N : Nat} {P : zPrg} {k c : Nat} {rr : List Int32} {w : jw}
theorem zg_act (hP : zPq T N P) (hl : T.length ≤ 401) (h : zCs T N P k rr w) (hk : k < N) (s : qso P k ≤ 1) (hc : c < 10000) : ∃ w', (∀ n, l_X10_goOn (n + 1) (nI c) w = some (true, w')) ∧ w'.1 48 6 = (if qso P k = 0 then 4 else 5) ∧ w'.1 48 7 = fmq (zvl (zenv w) (qc1 P k)) ∧ (qso P k = 0 → w'.1 48 8 = zvl (zenv w) (qc2 P k) ∧ w'.1 48 5 = w'.1 48 7) ∧ (qso P k = 1 → w'.1 48 5 = w.1 48 5) ∧ zCs T N P (k + 1) rr w' ∧ (∀ a, a ≠ 48 → w'.1 a = w.1 a) ∧ w'.2 = w.2 := by
  have pk := zPq_ps hP hl k (by omega)
  have ta : zTa T P k := by
    rcases hP.1.1 k hk with z | z | ⟨z, _⟩
    · exact z
    · have := z.1; omega
    · have := z.1; omega
  obtain ⟨_, t2, ⟨j1, j2, x1, x2, x3⟩, _, _⟩ := ta
  have h' := h
  obtain ⟨hp, h4, h5⟩ := h
  have at1 : ∀ x, jsetI (jsetI w 48 6 x) 48 4 ((jsetI w 48 6 x).1 48 4 + 1) = zat (jsetI w 48 6 x) (qps P k + 1) := fun x => by
    rw [show (jsetI w 48 6 x).1 48 4 = nI (qps P k) from by rw [zI_ne (by decide)]; exact h4, nI_1]
    rfl
  have hC2 : ∀ x, zTC T (jsetI w 48 6 x) := fun x => hp.1
  have hC3 : ∀ x y, zTC T (jsetI (jsetI w 48 6 x) 48 7 y) := fun x y => hp.1
  have rws : ∀ v : jw, v.2 = w.2 → v.1 48 4 = nI (qps P (k + 1)) → zCs T N P (k + 1) rr v := fun v e1 e2 => ⟨zPcl_fr hp (fun j _ => by rw [e1]), e2, by rw [e1]; exact h5⟩
  by_cases s0 : qso P k = 0
  · rw [if_pos s0] at t2
    rcases x2 with ⟨_, x2⟩ | ⟨y, _⟩
    · have T1 := x1.2 _ (hC2 (zkC kPut))
      have T2 := x2.2 _ (hC3 (zkC kPut) (fmq (zvl (zenv w) (qc1 P k))))
      rw [zenv_j _ _ _ (by decide)] at T1
      rw [zenv_j _ _ _ (by decide), zenv_j _ _ _ (by decide)] at T2
      refine ⟨jsetI (jsetI (jsetI (zat (jsetI (jsetI w 48 6 (zkC kPut)) 48 7 (fmq (zvl (zenv w) (qc1 P k)))) j2) 48 8 (zvl (zenv w) (qc2 P k))) 48 5 (fmq (zvl (zenv w) (qc1 P k)))) 48 4 (nI (j2 + 1)), fun n => ?_, ?_, ?_, fun _ => ⟨?_, ?_⟩, fun z => by omega, rws _ rfl (by rw [zI_eq, x3]), fun a ha => ?_, rfl⟩
      · have e7 : (jsetI (zat (jsetI (jsetI w 48 6 (zkC kPut)) 48 7 (fmq (zvl (zenv w) (qc1 P k)))) j2) 48 8 (zvl (zenv w) (qc2 P k))).1 48 7 = fmq (zvl (zenv w) (qc1 P k)) := by
          rw [zI_ne (by decide)]; unfold zat; rw [zI_ne (by decide), zI_eq]
        have e4 : (jsetI (jsetI (zat (jsetI (jsetI w 48 6 (zkC kPut)) 48 7 (fmq (zvl (zenv w) (qc1 P k)))) j2) 48 8 (zvl (zenv w) (qc2 P k))) 48 5 (fmq (zvl (zenv w) (qc1 P k)))).1 48 4 = nI j2 := by
          rw [zI_ne (by decide), zI_ne (by decide), zat_4]
        rw [z_g0 pk h' hc, t2, z_jl, if_pos (by decide), at1, z_jl, T1, z_jbd2, z_jl, zat_c _ _ _ _ (by decide), T2, z_jbd2, z_jl, z_jl, e7, z_jl, e4, nI_1]
      · rw [zI_ne (by decide), zI_ne (by decide), zI_ne (by decide)]; unfold zat; rw [zI_ne (by decide), zI_ne (by decide), zI_eq, if_pos s0]; rfl
      · rw [zI_ne (by decide), zI_ne (by decide), zI_ne (by decide)]; unfold zat; rw [zI_ne (by decide), zI_eq]
      · rw [zI_ne (by decide), zI_ne (by decide), zI_eq]
      · rw [zI_ne (by decide), zI_eq, zI_ne (by decide), zI_ne (by decide), zI_ne (by decide)]; unfold zat; rw [zI_ne (by decide), zI_eq]
      · rw [z_jI2 ha, z_jI2 ha, z_jI2 ha]; unfold zat; rw [z_jI2 ha, z_jI2 ha, z_jI2 ha]
    · omega
  · have s1 : qso P k = 1 := by omega
    rw [if_neg s0] at t2
    rcases x2 with ⟨y, _⟩ | ⟨_, y2, y3⟩
    · omega
    · have T1 := x1.2 _ (hC2 (zkC kCut))
      rw [zenv_j _ _ _ (by decide)] at T1
      refine ⟨jsetI (zat (jsetI (jsetI w 48 6 (zkC kCut)) 48 7 (fmq (zvl (zenv w) (qc1 P k)))) j1) 48 4 (nI (j1 + 1)), fun n => ?_, ?_, ?_, fun z => by omega, fun _ => ?_, rws _ rfl (by rw [zI_eq, x3, y3]), fun a ha => ?_, rfl⟩
      · rw [z_g0 pk h' hc, t2, z_jl, if_neg (by decide), if_pos (by decide), at1, z_jl, T1, z_jbd2, z_jl, zat_c _ _ _ _ (by decide), z_jl, zat_4, nI_1]
      · rw [zI_ne (by decide)]; unfold zat; rw [zI_ne (by decide), zI_ne (by decide), zI_eq, if_neg s0]; rfl
      · rw [zI_ne (by decide)]; unfold zat; rw [zI_ne (by decide), zI_eq]
      · rw [zI_ne (by decide)]; unfold zat; rw [zI_ne (by decide), zI_ne (by decide), zI_ne (by decide)]
      · rw [z_jI2 ha]; unfold zat; rw [z_jI2 ha, z_jI2 ha, z_jI2 ha]
/-- the reference's six variables -/
theorem z_vars {S : zS} {l s5 : Int32} {wm : jw} (hr : rr.length ≤ 3) (hm : zMs N P rr wm) (hC : zCi S w) (hM : zMi S (wm.2.1 182)) (hi : 0 < S.2.2.2.2.length) (h5 : w.2.2.2 49 = rr) (hl : l = w.1 48 5) : ∃ w34, zAx k (nI rr.length) l wm s5 = zAy k (nI rr.length) l s5 w34 ∧ (∀ j, j < 6 → w34.2.1 179 j = zenv w j) ∧ zfA 179 wm w34 := by
  have r1 : (if nI rr.length ≤ 0 then some (0 : Int32) else jg (jin (nI rr.length - 1) 3) (some (wm.2.1 181 (Int32.toNatClampNeg (nI rr.length - 1))))) = some (rat rr (nI rr.length - 1)) := by
    by_cases c : rr.length = 0
    · rw [if_pos (by rw [c]; decide), c, show nI 0 - 1 = (-1 : Int32) from rfl, z_ratm]
    · have e : nI rr.length - 1 = nI (rr.length - 1) := pk_sub (b := 1) (by omega)
      rw [if_neg (show ¬ nI rr.length ≤ 0 from nI_ge (a := 0) (by omega) (by omega)), e, z_jg (z_in (by omega) (by decide)), nI_clamp (by omega), z_rat (by omega), hm.2 (rr.length - 1) (rr.getD (rr.length - 1) 0) (by rw [List.getD_eq_getElem?_getD, List.getElem?_eq_getElem (show rr.length - 1 < rr.length by omega)]; rfl)]
  have r2 : ∀ v : jw, v.2.1 181 = wm.2.1 181 → (if nI rr.length ≤ 1 then some (0 : Int32) else jg (jin (nI rr.length - 2) 3) (some (v.2.1 181 (Int32.toNatClampNeg (nI rr.length - 2))))) = some (rat rr (nI rr.length - 2)) := fun v hv => by
    by_cases c : rr.length = 0
    · rw [if_pos (by rw [c]; decide), c]
      have : rr = [] := List.length_eq_zero_iff.mp c
      rw [this]; rfl
    · by_cases c1 : rr.length = 1
      · rw [if_pos (by rw [c1]; decide), c1, show nI 1 - 2 = (-1 : Int32) from rfl, z_ratm]
      · have e : nI rr.length - 2 = nI (rr.length - 2) := pk_sub (b := 2) (by omega)
        rw [if_neg (show ¬ nI rr.length ≤ 1 from nI_ge (a := 1) (by omega) (by omega)), e, z_jg (z_in (by omega) (by decide)), nI_clamp (by omega), z_rat (by omega), hv, hm.2 (rr.length - 2) (rr.getD (rr.length - 2) 0) (by rw [List.getD_eq_getElem?_getD, List.getElem?_eq_getElem (show rr.length - 2 < rr.length by omega)]; rfl)]
  refine ⟨jsetX (jsetX (jsetX (jsetX (jsetX (jsetX wm 179 0 (rat rr (nI rr.length - 1))) 179 1 (rat rr (nI rr.length - 2))) 179 2 (wm.2.1 182 0)) 179 3 (wm.2.1 182 7)) 179 4 l) 179 5 (wm.2.1 182 3), ?_, fun j hj => ?_, ?_⟩
  · unfold zAx
    rw [r1, z_jbd, z_jg (show jin 0 6 = true by decide), z_jl, r2 _ (z_jX2 (by decide)), z_jbd, z_jg (show jin 1 6 = true by decide), z_jl, z_jg (show jin 0 34700 = true by decide), z_jg (show jin 2 6 = true by decide), z_jl, z_jg (show jin 7 34700 = true by decide), z_jg (show jin 3 6 = true by decide), z_jl, z_jg (show jin 4 6 = true by decide), z_jl, z_jg (show jin 3 34700 = true by decide), z_jg (show jin 5 6 = true by decide), z_jl]
    rw [z_jX2 (show 182 ≠ 179 by decide), z_jX2 (show 182 ≠ 179 by decide), z_jX2 (show 182 ≠ 179 by decide), z_jX2 (show 182 ≠ 179 by decide), z_jX2 (show 182 ≠ 179 by decide)]
    rfl
  · rw [z_jX1, z_jX1, z_jX1, z_jX1, z_jX1, z_jX1]
    unfold zenv
    have c36 : (w.2.2.2 36).length = S.2.2.2.2.length := by rw [hC.2.2.1, List.length_map]
    have c19 : (w.2.2.2 19).length = S.2.1 := hC.1.2.1
    have : j = 0 ∨ j = 1 ∨ j = 2 ∨ j = 3 ∨ j = 4 ∨ j = 5 := by omega
    rcases this with z | z | z | z | z | z <;> subst z
    · rw [zup_ne (by decide), zup_ne (by decide), zup_ne (by decide), zup_ne (by decide), zup_ne (by decide), zup_eq, if_pos rfl, h5]
    · rw [zup_ne (by decide), zup_ne (by decide), zup_ne (by decide), zup_ne (by decide), zup_eq, if_neg (by decide), if_pos rfl, h5]
    · rw [zup_ne (by decide), zup_ne (by decide), zup_ne (by decide), zup_eq, if_neg (by decide), if_neg (by decide), if_pos rfl, hM.2.2.2, c36]
      exact (pk_sub (b := 1) (by omega)).symm
    · rw [zup_ne (by decide), zup_ne (by decide), zup_eq, if_neg (by decide), if_neg (by decide), if_neg (by decide), if_pos rfl, hM.2.2.1.2.2.1, hC.2.2.2.2.2.2]
    · rw [zup_ne (by decide), zup_eq, if_neg (by decide), if_neg (by decide), if_neg (by decide), if_neg (by decide), if_pos rfl, hl]
    · rw [zup_eq, if_neg (by decide), if_neg (by decide), if_neg (by decide), if_neg (by decide), if_neg (by decide), hM.1.2.1, c19]
  · exact zfA_trans (zfA_X _ 179 _ _) (zfA_trans (zfA_X _ 179 _ _) (zfA_trans (zfA_X _ 179 _ _) (zfA_trans (zfA_X _ 179 _ _) (zfA_trans (zfA_X _ 179 _ _) (zfA_X _ 179 _ _)))))
end
