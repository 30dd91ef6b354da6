section
/-! root, deep, leaf, way -/
theorem zfQm_D {w w' : jw} (h : zfD w w') : zfQm w w' := ⟨h.1, h.2.1, fun j j1 _ => h.2.2.1 j j1, fun p p1 _ _ _ _ => h.2.2.2 p p1⟩
theorem z_way {S : zS} (hI : zIn S) {τ k : Nat} (hτ : τ ≤ S.2.2.2.2.length - 1) (hk : k < 1000) : ∃ L : List Nat, 0 < L.length ∧ L.length ≤ 31 ∧ (∀ w, zCi S w → f_X9_trace_64 (nI k) (nI τ) w = some (jsetR w 64 (L.map nI))) ∧
    ∀ w : jw, zMi S (w.2.1 182) → ∃ w', f_X12_goesDownThen (nI k) (nI τ) w = some w' ∧ zfD w w' ∧ w'.1 162 36 = nI L.length ∧ ∀ i y, L[i]? = some y → w'.2.1 183 i = nI y := by
  obtain ⟨h1, h2, h3, h4, h5, ⟨q0, h6, h6'⟩, h7, h8, h9⟩ := hI.1
  obtain ⟨R, lo, hi, lev, g1, g2, g3⟩ := h9 τ hτ
  have rn : S.2.2.2.1 ≠ [] := fun z => by rw [z] at h6; cases h6
  refine ⟨zpth S.2.2.1 (nI k) (nI τ) (lev R) R, by rw [zpth_len]; omega, by rw [zpth_len]; omega, fun w hC => ?_, fun w hM => ?_⟩
  · exact z_trace_64 g1 h2 (by omega) hC.1 hC.2.1 g3 rn (by omega) (by omega) (z_key k hk).1 (z_key k hk).2
  · rw [zpth_len]
    exact z_gdThen g1 hM.1 hM.2.1 g3 rn (by omega) (fun q hq => by rw [h6] at hq; cases hq; rw [h6']; exact nI_pos' (by omega)) (by omega) (z_key k hk).1 (z_key k hk).2
theorem q_root {S : zS} (hI : zIn S) (a : Int32) : zQ S (f_X11_root a) (f_X12_root a) := by
  have l0 := zHi_len hI.2
  have lm := hI.2.2.1
  obtain ⟨h1, h2, h3, h4, h5, ⟨q0, h6, h6'⟩, h7, h8, h9⟩ := hI.1
  have rn : S.2.2.2.1 ≠ [] := fun z => by rw [z] at h6; cases h6
  cases c : zit (S.2.2.2.2.length - 1) a with
  | false => exact zQ_c (-1) (fun w hC => by unfold f_X11_root; rw [z_isTimeC a hC hI, z_jbd2, c]; rfl) (fun w hM => by unfold f_X12_root; rw [z_isTimeM a hM, z_jbd2, c]; rfl)
  | true =>
    obtain ⟨τ, t1, t2⟩ := zit_t (by omega) c
    subst t2
    exact zQ_c (zrt S.2.2.2.1 (nI τ)) (fun w hC => by unfold f_X11_root; rw [z_isTimeC _ hC hI, z_jbd2, c, if_neg (by decide), z_rootAtC hC.2.1 rn (by omega), z_jbd2]) (fun w hM => by unfold f_X12_root; rw [z_isTimeM _ hM, z_jbd2, c, if_neg (by decide), z_rootAtM hM.2.1 rn (by omega) (fun q hq => by rw [h6] at hq; cases hq; rw [h6']; exact nI_pos' (by omega)), z_jbd2])
theorem q_deep {S : zS} (hI : zIn S) (a : Int32) : zQ S (f_X11_deep a) (f_X12_deep a) := by
  have l0 := zHi_len hI.2
  have lm := hI.2.2.1
  cases c : zit (S.2.2.2.2.length - 1) a with
  | false => exact zQ_c (-1) (fun w hC => by unfold f_X11_deep; rw [z_isTimeC a hC hI, z_jbd2, c]; rfl) (fun w hM => by unfold f_X12_deep; rw [z_isTimeM a hM, z_jbd2, c]; rfl)
  | true =>
    obtain ⟨τ, t1, t2⟩ := zit_t (by omega) c
    subst t2
    obtain ⟨L, L1, L2, L3, L4⟩ := z_way hI t1 (show 0 < 1000 by decide)
    intro w wm hC hM
    obtain ⟨w', e1, e2, e3, e4⟩ := L4 wm hM
    refine ⟨nI L.length, jsetR w 64 (L.map nI), w', ?_, zfQc_R (Or.inr (Or.inr (Or.inl rfl))), ?_, zfQm_D e2⟩
    · have r := L3 w hC
      rw [nI_0] at r
      unfold f_X11_deep f_X5_levels
      rw [z_isTimeC _ hC hI, z_jbd2, c, if_neg (by decide), r, z_jbd, z_jR1, List.length_map, z_jbd2]
    · rw [nI_0] at e1
      unfold f_X12_deep
      rw [z_isTimeM _ hM, z_jbd2, c, if_neg (by decide), e1, z_jbd, e3]
theorem z_mg {L : List Nat} {i : Nat} (h : i < L.length) : (L.map nI).getD i 0 = nI L[i] := by simp [List.getD_eq_getElem?_getD, h]
theorem q_leaf {S : zS} (hI : zIn S) (a b : Int32) : zQ S (f_X11_leaf a b) (f_X12_leaf a b) := by
  have l0 := zHi_len hI.2
  have lm := hI.2.2.1
  cases h1 : zik a with
  | false => exact zQ_c (-1) (fun w hC => by unfold f_X11_leaf; rw [z_isKeyC, z_jbd2, h1]; rfl) (fun w hM => by unfold f_X12_leaf; rw [z_isKeyM, z_jbd2, h1]; rfl)
  | true =>
    cases c : zit (S.2.2.2.2.length - 1) b with
    | false => exact zQ_c (-1) (fun w hC => by unfold f_X11_leaf; rw [z_isKeyC, z_jbd2, h1, if_neg (by decide), z_isTimeC b hC hI, z_jbd2, c]; rfl) (fun w hM => by unfold f_X12_leaf; rw [z_isKeyM, z_jbd2, h1, if_neg (by decide), z_isTimeM b hM, z_jbd2, c]; rfl)
    | true =>
      obtain ⟨τ, t1, t2⟩ := zit_t (by omega) c
      obtain ⟨k, k1, k2⟩ := zik_t h1
      subst t2 k2
      obtain ⟨L, L1, L2, L3, L4⟩ := z_way hI t1 k1
      intro w wm hC hM
      obtain ⟨w', e1, e2, e3, e4⟩ := L4 wm hM
      have ls : nI L.length - 1 = nI (L.length - 1) := pk_sub (b := 1) L1
      refine ⟨nI L[L.length - 1], jsetR w 64 (L.map nI), w', ?_, zfQc_R (Or.inr (Or.inr (Or.inl rfl))), ?_, zfQm_D e2⟩
      · unfold f_X11_leaf f_X5_leafOf
        rw [z_isKeyC, z_jbd2, h1, if_neg (by decide), z_isTimeC _ hC hI, z_jbd2, c, if_neg (by decide), L3 w hC, z_jbd, z_jR1, List.length_map, ls, z_rat (by omega), z_mg (by omega), z_jbd2]
      · unfold f_X12_leaf
        rw [z_isKeyM, z_jbd2, h1, if_neg (by decide), z_isTimeM _ hM, z_jbd2, c, if_neg (by decide), e1, z_jbd, e3, ls, z_jg (z_in (by omega) (by decide)), nI_clamp (by omega), e4 (L.length - 1) _ (List.getElem?_eq_getElem (by omega))]
theorem q_way {S : zS} (hI : zIn S) (a b d : Int32) : zQ S (f_X11_way a b d) (f_X12_way a b d) := by
  have l0 := zHi_len hI.2
  have lm := hI.2.2.1
  cases h1 : zik a with
  | false => exact zQ_c (-1) (fun w hC => by unfold f_X11_way; rw [z_isKeyC, z_jbd2, h1]; rfl) (fun w hM => by unfold f_X12_way; rw [z_isKeyM, z_jbd2, h1]; rfl)
  | true =>
    cases c : zit (S.2.2.2.2.length - 1) b with
    | false => exact zQ_c (-1) (fun w hC => by unfold f_X11_way; rw [z_isKeyC, z_jbd2, h1, if_neg (by decide), z_isTimeC b hC hI, z_jbd2, c]; rfl) (fun w hM => by unfold f_X12_way; rw [z_isKeyM, z_jbd2, h1, if_neg (by decide), z_isTimeM b hM, z_jbd2, c]; rfl)
    | true =>
      obtain ⟨τ, t1, t2⟩ := zit_t (by omega) c
      obtain ⟨k, k1, k2⟩ := zik_t h1
      subst t2 k2
      obtain ⟨L, L1, L2, L3, L4⟩ := z_way hI t1 k1
      intro w wm hC hM
      obtain ⟨w', e1, e2, e3, e4⟩ := L4 wm hM
      have ls : nI L.length - 1 = nI (L.length - 1) := pk_sub (b := 1) L1
      have r1 : f_X11_way (nI k) (nI τ) d w = jbd2 (if d < 0 then some ((-1 : Int32), jsetR w 64 (L.map nI)) else if nI L.length ≤ d then some (-1, jsetR w 64 (L.map nI)) else some (rat (L.map nI) d, jsetR w 64 (L.map nI))) (fun x w => some (x, w)) := by
        unfold f_X11_way f_X5_pageOnWay
        rw [z_isKeyC, z_jbd2, h1, if_neg (by decide), z_isTimeC _ hC hI, z_jbd2, c, if_neg (by decide), L3 w hC, z_jbd, z_jR1, List.length_map]
      have r2 : f_X12_way (nI k) (nI τ) d wm = if jb (if d < 0 then false else if nI (L.length - 1) < d then false else true) = 0 then some (-1, w') else jg (jin d 40) (some (w'.2.1 183 (Int32.toNatClampNeg d), w')) := by
        unfold f_X12_way
        rw [z_isKeyM, z_jbd2, h1, if_neg (by decide), z_isTimeM _ hM, z_jbd2, c, if_neg (by decide), e1, z_jbd, e3, ls, z_inM, z_jbd2]
      by_cases d1 : d < 0
      · rw [if_pos d1] at r1 r2
        exact ⟨-1, _, w', r1, zfQc_R (Or.inr (Or.inr (Or.inl rfl))), r2, zfQm_D e2⟩
      · rw [if_neg d1] at r1 r2
        obtain ⟨j, j1, j2⟩ := nI_of d1
        subst j2
        by_cases d2 : L.length ≤ j
        · rw [if_pos (nI_le d2 j1)] at r1
          rw [if_pos (nI_lt (by omega) j1)] at r2
          exact ⟨-1, _, w', r1, zfQc_R (Or.inr (Or.inr (Or.inl rfl))), r2, zfQm_D e2⟩
        · rw [if_neg (nI_ge (by omega) (by omega)), z_rat j1, z_mg (by omega)] at r1
          rw [if_neg (nI_nlt (by omega) (by omega)), if_neg (show ¬ jb true = 0 by decide), z_jg (z_in (by omega) (by decide)), nI_clamp j1, e4 j _ (List.getElem?_eq_getElem (by omega))] at r2
          exact ⟨_, _, w', r1, zfQc_R (Or.inr (Or.inr (Or.inl rfl))), r2, zfQm_D e2⟩
end
