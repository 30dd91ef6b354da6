section
/-! versions by the reference -/
def zMv (vs : List zE) (n : Nat) (lv : Nat → Int32) (N : Nat → Int32) : Prop := zSm N 18100 vs ∧ N 4 = nI vs.length ∧ N 7 = nI n ∧ ∀ k, k < 1000 → N (33700 + k) = lv k
def zfT (w w' : jw) : Prop := w'.1 = w.1 ∧ w'.2.2 = w.2.2 ∧ (∀ p, p ≠ 182 → w'.2.1 p = w.2.1 p) ∧ ∀ a, a ≠ 0 → a ≠ 4 → a ≠ 7 → a < 18100 → w'.2.1 182 a = w.2.1 182 a
theorem zfT_trans {a b c : jw} (h : zfT a b) (g : zfT b c) : zfT a c := ⟨g.1.trans h.1, g.2.1.trans h.2.1, fun p hp => (g.2.2.1 p hp).trans (h.2.2.1 p hp), fun x x0 x1 x2 x3 => (g.2.2.2 x x0 x1 x2 x3).trans (h.2.2.2 x x0 x1 x2 x3)⟩
theorem zfT_rfl (w : jw) : zfT w w := ⟨rfl, rfl, fun _ _ => rfl, fun _ _ _ _ _ => rfl⟩
theorem z_337 (k : Nat) : (33700 : Int32) + nI k = nI (33700 + k) := nI_add 33700 k
theorem z_verEnds0 {vs : List zE} {n k : Nat} {lv : Nat → Int32} {w : jw} (h : zMv vs n lv (w.2.1 182)) (hk : k < 1000) (hv : lv k = -1) : f_X12_versionEnds (nI k) w = some w := by
  unfold f_X12_versionEnds
  rw [z_337, z_jg (z_in (by omega) (by decide)), z_jl, nI_clamp (by omega), h.2.2.2 k hk, hv, if_neg (by decide)]
theorem z_verEnds1 {vs : List zE} {n k i : Nat} {v : zE} {t : Int32} {lv : Nat → Int32} {w : jw} (h : zMv vs n lv (w.2.1 182)) (hk : k < 1000) (hl : vs.length ≤ 3000) (hv : lv k = nI i) (hi : vs[i]? = some v) (n1 : 1 ≤ n) (ht : w.2.1 182 0 = t) :
    ∃ w', f_X12_versionEnds (nI k) w = some w' ∧ zfT w w' ∧ zMv (vs.set i (v.1, v.2.1, t, v.2.2.2)) (n - 1) (zup lv k (-1)) (w'.2.1 182) ∧ w'.2.1 182 0 = t := by
  have il := zlen_lt hi
  unfold f_X12_versionEnds
  rw [z_337, z_jg (z_in (by omega) (by decide)), z_jl, nI_clamp (by omega), h.2.2.2 k hk, hv, if_pos (nI_pos' (by omega)), z_pa i 18100 18100 rfl, nI_p2, z_jg j_0, z_jg (z_in (by omega) (by decide)), z_jl, k_0, ht, nI_clamp (by omega)]
  simp only [z_jl, z_jg (z_in (show 33700 + k < 34700 by omega) (by decide)), z_jg j_7, k_7, z_jX1]
  rw [zup_ne (show 7 ≠ 33700 + k by omega), zup_ne (show 7 ≠ 18100 + 4 * i + 2 by omega), h.2.2.1, show nI n - 1 = nI (n - 1) from pk_sub (b := 1) n1]
  have ot : ∀ a, a ≠ 7 → a ≠ 33700 + k → a ≠ 18100 + 4 * i + 2 → (jsetX (jsetX (jsetX w 182 (18100 + 4 * i + 2) t) 182 (33700 + k) (-1)) 182 7 (nI (n - 1))).2.1 182 a = w.2.1 182 a := fun a a1 a2 a3 => by
    rw [z_jX1, z_jX1, z_jX1, zup_ne a1, zup_ne a2, zup_ne a3]
  refine ⟨_, rfl, ⟨rfl, rfl, fun p hp => by rw [z_jX2 hp, z_jX2 hp, z_jX2 hp], fun a a0 a1 a2 a3 => ot a a2 (by omega) (by omega)⟩, ⟨fun j e hj => ?_, by rw [ot _ (by omega) (by omega) (by omega), List.length_set]; exact h.2.1, by rw [z_jX1, zup_eq], fun k' hk' => ?_⟩, by rw [ot _ (by omega) (by omega) (by omega)]; exact ht⟩
  · have jl := zlen_lt hj
    rw [List.length_set] at jl
    by_cases c : i = j
    · subst c
      rw [List.getElem?_set, if_pos rfl, if_pos il] at hj
      cases hj
      obtain ⟨f1, f2, f3, f4⟩ := h.1 i v hi
      exact ⟨by rw [ot _ (by omega) (by omega) (by omega)]; exact f1, by rw [ot _ (by omega) (by omega) (by omega)]; exact f2, by rw [z_jX1, z_jX1, z_jX1, zup_ne (by omega), zup_ne (by omega), zup_eq], by rw [ot _ (by omega) (by omega) (by omega)]; exact f4⟩
    · rw [List.getElem?_set, if_neg c] at hj
      obtain ⟨f1, f2, f3, f4⟩ := h.1 j e hj
      exact ⟨by rw [ot _ (by omega) (by omega) (by omega)]; exact f1, by rw [ot _ (by omega) (by omega) (by omega)]; exact f2, by rw [ot _ (by omega) (by omega) (by omega)]; exact f3, by rw [ot _ (by omega) (by omega) (by omega)]; exact f4⟩
  · by_cases c : k' = k
    · subst c
      rw [zup_eq, z_jX1, z_jX1, zup_ne (by omega), zup_eq]
    · rw [zup_ne c, ot _ (by omega) (by omega) (by omega)]
      exact h.2.2.2 k' hk'
theorem z_verComes {vs : List zE} {n k : Nat} {t v : Int32} {lv : Nat → Int32} {w : jw} (h : zMv vs n lv (w.2.1 182)) (hk : k < 1000) (hl : vs.length ≤ 3000) (ht : w.2.1 182 0 = t) :
    ∃ w', f_X12_versionComes (nI k) v w = some w' ∧ zfT w w' ∧ zMv (vs ++ [(nI k, t, -2, v)]) (n + 1) (zup lv k (nI vs.length)) (w'.2.1 182) ∧ w'.2.1 182 0 = t := by
  generalize hL : vs.length = L at *
  unfold f_X12_versionComes
  simp only [z_jg j_4, z_jl, k_4, h.2.1, hL, z_pa L 18100 18100 rfl, nI_1, nI_p2, nI_p3, z_337, nI_clamp (show 18100 + 4 * L < 2 ^ 31 by omega), nI_clamp (show 18100 + 4 * L + 1 < 2 ^ 31 by omega), nI_clamp (show 18100 + 4 * L + 2 < 2 ^ 31 by omega), nI_clamp (show 18100 + 4 * L + 3 < 2 ^ 31 by omega), nI_clamp (show 33700 + k < 2 ^ 31 by omega), z_jg (z_in (show 18100 + 4 * L < 34700 by omega) (by decide)), z_jg (z_in (show 18100 + 4 * L + 1 < 34700 by omega) (by decide)), z_jg (z_in (show 18100 + 4 * L + 2 < 34700 by omega) (by decide)), z_jg (z_in (show 18100 + 4 * L + 3 < 34700 by omega) (by decide)), z_jg (z_in (show 33700 + k < 34700 by omega) (by decide)), z_jg j_0, k_0, z_jg j_7, k_7, z_jX1]
  have r0 : zup (w.2.1 182) (18100 + 4 * L) (nI k) 0 = t := by rw [zup_ne (by omega)]; exact ht
  have r4 : zup (zup (zup (zup (zup (w.2.1 182) (18100 + 4 * L) (nI k)) (18100 + 4 * L + 1) t) (18100 + 4 * L + 2) (-2)) (18100 + 4 * L + 3) v) (33700 + k) (nI L) 4 = nI L := by
    rw [zup_ne (by omega), zup_ne (by omega), zup_ne (by omega), zup_ne (by omega), zup_ne (by omega), h.2.1, hL]
  have r7 : zup (zup (zup (zup (zup (zup (w.2.1 182) (18100 + 4 * L) (nI k)) (18100 + 4 * L + 1) t) (18100 + 4 * L + 2) (-2)) (18100 + 4 * L + 3) v) (33700 + k) (nI L)) 4 (nI (L + 1)) 7 = nI n := by
    rw [zup_ne (by omega), zup_ne (by omega), zup_ne (by omega), zup_ne (by omega), zup_ne (by omega), zup_ne (by omega), h.2.2.1]
  rw [r0, r4, nI_1, r7, nI_1]
  generalize hw : jsetX (jsetX (jsetX (jsetX (jsetX (jsetX (jsetX w 182 (18100 + 4 * L) (nI k)) 182 (18100 + 4 * L + 1) t) 182 (18100 + 4 * L + 2) (-2)) 182 (18100 + 4 * L + 3) v) 182 (33700 + k) (nI L)) 182 4 (nI (L + 1))) 182 7 (nI (n + 1)) = w'
  have N' : w'.2.1 182 = zup (zup (zup (zup (zup (zup (zup (w.2.1 182) (18100 + 4 * L) (nI k)) (18100 + 4 * L + 1) t) (18100 + 4 * L + 2) (-2)) (18100 + 4 * L + 3) v) (33700 + k) (nI L)) 4 (nI (L + 1))) 7 (nI (n + 1)) := by
    rw [← hw, z_jX1, z_jX1, z_jX1, z_jX1, z_jX1, z_jX1, z_jX1]
  have ot : ∀ a, a ≠ 7 → a ≠ 4 → a ≠ 33700 + k → (a < 18100 + 4 * L ∨ 18100 + 4 * L + 3 < a) → w'.2.1 182 a = w.2.1 182 a := fun a a1 a2 a3 a4 => by
    rw [N', zup_ne a1, zup_ne a2, zup_ne a3, zup_ne (by omega), zup_ne (by omega), zup_ne (by omega), zup_ne (by omega)]
  refine ⟨w', rfl, ⟨by rw [← hw]; rfl, by rw [← hw]; rfl, fun p hp => by rw [← hw, z_jX2 hp, z_jX2 hp, z_jX2 hp, z_jX2 hp, z_jX2 hp, z_jX2 hp, z_jX2 hp], fun a a0 a1 a2 a3 => ot a a2 a1 (by omega) (by omega)⟩, ⟨fun j e hj => ?_, ?_, by rw [N', zup_eq], fun k' hk' => ?_⟩, by rw [ot 0 (by omega) (by omega) (by omega) (by omega)]; exact ht⟩
  · have jl := zlen_lt hj
    rw [List.length_append, List.length_singleton, hL] at jl
    by_cases c : j = L
    · subst c
      rw [← hL, List.getElem?_append_right (Nat.le_refl _), Nat.sub_self] at hj
      cases hj
      refine ⟨?_, ?_, ?_, ?_⟩
      · rw [N', zup_ne (by omega), zup_ne (by omega), zup_ne (by omega), zup_ne (by omega), zup_ne (by omega), zup_ne (by omega), zup_eq]
      · rw [N', zup_ne (by omega), zup_ne (by omega), zup_ne (by omega), zup_ne (by omega), zup_ne (by omega), zup_eq]
      · rw [N', zup_ne (by omega), zup_ne (by omega), zup_ne (by omega), zup_ne (by omega), zup_eq]
      · rw [N', zup_ne (by omega), zup_ne (by omega), zup_ne (by omega), zup_eq]
    · rw [List.getElem?_append_left (by omega)] at hj
      obtain ⟨f1, f2, f3, f4⟩ := h.1 j e hj
      exact ⟨by rw [ot _ (by omega) (by omega) (by omega) (by omega)]; exact f1, by rw [ot _ (by omega) (by omega) (by omega) (by omega)]; exact f2, by rw [ot _ (by omega) (by omega) (by omega) (by omega)]; exact f3, by rw [ot _ (by omega) (by omega) (by omega) (by omega)]; exact f4⟩
  · rw [N', zup_ne (by omega), zup_eq, List.length_append, List.length_singleton, hL]
  · by_cases c : k' = k
    · subst c
      rw [zup_eq, N', zup_ne (by omega), zup_ne (by omega), zup_eq]
    · rw [zup_ne c, ot _ (by omega) (by omega) (by omega) (by omega)]
      exact h.2.2.2 k' hk'
def zoi (hs : List zH) (o : Option Nat) : Int32 := match o with
  | none => -1
  | some f => nI (zix hs f)
def zMh (hs : List zH) (N : Nat → Int32) : Prop := zMv (zvr hs 0) (zliv hs) (fun k => zoi hs (zlf hs (nI k) (hs.length - 1))) N
theorem zix_all (hs : List zH) : zix hs hs.length = (zvr hs 0).length := by unfold zix; rw [List.take_length, zvr_len]
theorem zMv_lv {vs : List zE} {n : Nat} {lv lv' : Nat → Int32} {N : Nat → Int32} (h : zMv vs n lv N) (hl : ∀ k, k < 1000 → lv' k = lv k) : zMv vs n lv' N := ⟨h.1, h.2.1, h.2.2.1, fun k hk => by rw [hl k hk]; exact h.2.2.2 k hk⟩
theorem zvr_le (hs : List zH) : (zvr hs 0).length ≤ hs.length := by rw [zvr_len]; exact List.countP_le_length
/-- what happens, by the reference: first the version that lives ends -/
theorem z_hE {hs : List zH} {k : Nat} {w : jw} (h : zMh hs (w.2.1 182)) (hi : zHi hs) (hl : hs.length ≤ 3000) (hk : k < 1000) (ht : w.2.1 182 0 = nI hs.length) :
    ∃ w', f_X12_versionEnds (nI k) w = some w' ∧ zfT w w' ∧ w'.2.1 182 0 = nI hs.length ∧ zMv (match zlf hs (nI k) (hs.length - 1) with
      | some f => (zvr hs 0).set (zix hs f) ((hs.getD f (0, 0, 0, 0)).2.1, nI f, nI hs.length, (hs.getD f (0, 0, 0, 0)).2.2.1)
      | none => zvr hs 0) (zliv hs - (if (zlf hs (nI k) (hs.length - 1)).isSome = true then 1 else 0)) (zup (fun j => zoi hs (zlf hs (nI j) (hs.length - 1))) k (-1)) (w'.2.1 182) := by
  have vl := zvr_le hs
  cases hz : zlf hs (nI k) (hs.length - 1) with
  | none =>
    have := z_verEnds0 h hk (by show zoi hs (zlf hs (nI k) (hs.length - 1)) = -1; rw [hz]; rfl)
    refine ⟨w, this, zfT_rfl w, ht, zMv_lv h (fun j hj => ?_)⟩
    by_cases c : j = k
    · subst c; rw [zup_eq, hz]; rfl
    · rw [zup_ne c]
  | some f =>
    obtain ⟨_, _, ⟨x, q1, q2, q3⟩, _⟩ := zlf_some _ _ hz
    have gd : hs.getD f (0, 0, 0, 0) = x := by simp [List.getD_eq_getElem?_getD, q1]
    have hz1 : 1 ≤ zliv hs := by
      unfold zliv
      exact List.countP_pos_iff.mpr ⟨zver f x, List.mem_of_getElem? (zvr_at q1 q2), (znw_lf hi q1 q2).mpr (by rw [q3]; exact hz)⟩
    obtain ⟨w', a1, a2, a3, a4⟩ := z_verEnds1 (i := zix hs f) (v := zver f x) (t := nI hs.length) h hk (by omega) (by show zoi hs (zlf hs (nI k) (hs.length - 1)) = _; rw [hz]; rfl) (zvr_at q1 q2) hz1 ht
    simp only [Option.isSome_some, if_true]
    rw [gd]
    exact ⟨w', a1, a2, a4, a3⟩
theorem z_lvnew {hs : List zH} {put : Int32} {k : Nat} {v x : Int32} (hi : zHi hs) (hk : k < 1000) (hx : zoi (zhap hs put (nI k) v) (if put = 1 then some hs.length else none) = x) : ∀ j, j < 1000 → (fun j => zoi (zhap hs put (nI k) v) (zlf (zhap hs put (nI k) v) (nI j) ((zhap hs put (nI k) v).length - 1))) j = zup (fun j => zoi hs (zlf hs (nI j) (hs.length - 1))) k x j := by
  intro j hj
  simp only []
  rw [zhap_len, Nat.add_sub_cancel, zlf_hap2 (zHi_len hi)]
  by_cases c : j = k
  · subst c
    rw [if_pos rfl, zup_eq]
    exact hx
  · rw [if_neg (fun e => c ((nI_eq (by omega) (by omega)).mp e.symm)), zup_ne c]
    cases hz : zlf hs (nI j) (hs.length - 1) with
    | none => rfl
    | some f =>
      have := (zlf_some _ _ hz).2.1
      show nI (zix _ f) = nI (zix _ f)
      rw [zix_hap (by omega)]
theorem z_hPut {hs : List zH} {k : Nat} {v : Int32} {w : jw} (h : zMh hs (w.2.1 182)) (hi : zHi hs) (hl : hs.length ≤ 2900) (hk : k < 1000) (ht : w.2.1 182 0 = nI hs.length) :
    ∃ w6 w', f_X12_versionEnds (nI k) w = some w6 ∧ f_X12_versionComes (nI k) v w6 = some w' ∧ zfT w w' ∧ w'.2.1 182 0 = nI hs.length ∧ zMh (zhap hs 1 (nI k) v) (w'.2.1 182) := by
  obtain ⟨w6, a1, a2, a3, a4⟩ := z_hE h hi (by omega) hk ht
  have vl := zvr_le hs
  have len : (match zlf hs (nI k) (hs.length - 1) with
      | some f => (zvr hs 0).set (zix hs f) ((hs.getD f (0, 0, 0, 0)).2.1, nI f, nI hs.length, (hs.getD f (0, 0, 0, 0)).2.2.1)
      | none => zvr hs 0).length = (zvr hs 0).length := by split <;> simp
  obtain ⟨w', b1, b2, b3, b4⟩ := z_verComes (v := v) a4 hk (by rw [len]; omega) a3
  refine ⟨w6, w', a1, b1, zfT_trans a2 b2, b4, ?_⟩
  rw [len] at b3
  have lv := zliv_hap (put := 1) (key := nI k) (value := v) hi (Or.inr rfl)
  have e1 : zliv hs - (if (zlf hs (nI k) (hs.length - 1)).isSome = true then 1 else 0) + 1 = zliv (zhap hs 1 (nI k) v) := by
    have le : (if (zlf hs (nI k) (hs.length - 1)).isSome = true then 1 else 0) ≤ zliv hs := by
      split
      · rename_i c
        obtain ⟨f, hz⟩ := Option.isSome_iff_exists.mp c
        obtain ⟨_, _, ⟨x, q1, q2, q3⟩, _⟩ := zlf_some _ _ hz
        unfold zliv
        exact List.countP_pos_iff.mpr ⟨zver f x, List.mem_of_getElem? (zvr_at q1 q2), (znw_lf hi q1 q2).mpr (by rw [q3]; exact hz)⟩
      · exact Nat.zero_le _
    rw [if_pos rfl] at lv
    omega
  unfold zMh
  rw [zhap_vr, if_pos rfl, ← e1]
  refine zMv_lv b3 (fun j hj => ?_)
  refine Eq.trans (z_lvnew (put := 1) (v := v) (x := nI (zvr hs 0).length) hi hk (by rw [if_pos rfl]; show nI (zix _ hs.length) = _; rw [zix_hap (Nat.le_refl _), zix_all]) j hj) ?_
  by_cases c : j = k
  · subst c; rw [zup_eq, zup_eq]
  · rw [zup_ne c, zup_ne c, zup_ne c]
theorem z_hCut {hs : List zH} {k : Nat} {v : Int32} {w : jw} (h : zMh hs (w.2.1 182)) (hi : zHi hs) (hl : hs.length ≤ 2900) (hk : k < 1000) (ht : w.2.1 182 0 = nI hs.length) :
    ∃ w', f_X12_versionEnds (nI k) w = some w' ∧ zfT w w' ∧ w'.2.1 182 0 = nI hs.length ∧ zMh (zhap hs 0 (nI k) v) (w'.2.1 182) := by
  obtain ⟨w6, a1, a2, a3, a4⟩ := z_hE h hi (by omega) hk ht
  refine ⟨w6, a1, a2, a3, ?_⟩
  have lv := zliv_hap (put := 0) (key := nI k) (value := v) hi (Or.inl rfl)
  have e1 : zliv hs - (if (zlf hs (nI k) (hs.length - 1)).isSome = true then 1 else 0) = zliv (zhap hs 0 (nI k) v) := by
    rw [if_neg (show ¬ (0 : Int32) = 1 by decide)] at lv
    omega
  unfold zMh
  rw [zhap_vr, if_neg (show ¬ (0 : Int32) = 1 by decide), List.append_nil, ← e1]
  exact zMv_lv a4 (z_lvnew hi hk (by rw [if_neg (by decide)]; rfl))
end
