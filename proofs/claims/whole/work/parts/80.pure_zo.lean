section
/-! busiest -/
def zct (hs : List zH) (k f : Nat) : Int32 := if (hs.getD f (0, 0, 0, 0)).2.1 = nI k then (hs.getD f (0, 0, 0, 0)).1 else 0
def zcv (k : Nat) (v : zE) : Int32 := if v.1 = nI k then 1 else 0
theorem z_busyC_l {hs : List zH} {a1 a2 a3 : Int32} (hi : zHi hs) (hl : hs.length ≤ 3000) : ∀ (d n f : Nat) (w : jw), zCh hs w → f + d = hs.length → 1 ≤ f → d < n → (w.2.2.2 59).length = 1000 →
    ∃ l : List Int32, l_X3_mostVersions_14 n a1 a2 a3 (nI f) w = l_X3_mostVersions_87 jfu a1 a2 a3 (-2) a1 (jsetR w 59 l) ∧ ∀ k, k < 1000 → l.getD k 0 = (w.2.2.2 59).getD k 0 + zSu (zct hs k) d f := by
  intro d
  induction d with
  | zero =>
    intro n f w hC h1 h2 h3 h4
    cases n with
    | zero => cases h3
    | succ n =>
      unfold l_X3_mostVersions_14
      rw [hC.1, List.length_map, if_pos (nI_le (by omega) (by omega))]
      refine ⟨w.2.2.2 59, by rw [z_jRs], fun k hk => ?_⟩
      exact (Int32.add_zero _).symm
  | succ d ih =>
    intro n f w hC h1 h2 h3 h4
    cases n with
    | zero => cases h3
    | succ n =>
      have hx := List.getElem?_eq_getElem (show f < hs.length by omega)
      generalize hh : hs[f] = h at hx
      obtain ⟨k0, k1, k2⟩ := zHk hi h2 hx
      unfold l_X3_mostVersions_14
      rw [hC.1, List.length_map, if_neg (nI_ge (by omega) (by omega)), z_rat (by omega), z_rat (by omega), hC.2.1, z_gm hx, z_gm hx, k2]
      simp only [z_jl, nI_1]
      rw [z_rat (by omega), z_rset (by omega)]
      obtain ⟨l, r1, r2⟩ := ih n (f + 1) (jsetR w 59 ((w.2.2.2 59).set k0 ((w.2.2.2 59).getD k0 0 + h.1))) (zCh_59 hC) (by omega) (by omega) (by omega) (by rw [z_jR1, List.length_set]; exact h4)
      refine ⟨l, by rw [r1, z_jRR], fun k hk => ?_⟩
      rw [r2 k hk, z_jR1, z_gset _ _ _ (by omega)]
      show _ = _ + (zct hs k f + zSu (zct hs k) d (f + 1))
      by_cases c : k = k0
      · have e : zct hs k f = h.1 := by unfold zct; rw [z_gd0 hx, k2, c, if_pos rfl]
        rw [if_pos c, e, c, Int32.add_assoc]
      · have e : zct hs k f = 0 := by unfold zct; rw [z_gd0 hx, k2]; exact if_neg (fun z => c ((nI_eq (by omega) (by omega)).mp z.symm))
        rw [if_neg c, e, Int32.zero_add]
theorem z_busyM50 {hs : List zH} {a1 a2 a3 : Int32} (hi : zHi hs) (hl : hs.length ≤ 3000) : ∀ (rest : List zE) (n i : Nat) (w : jw), zMh hs (w.2.1 182) → (zvr hs 0).drop i = rest → i ≤ (zvr hs 0).length → rest.length < n →
    ∃ w', l_X12_busiest_50 n a1 a2 a3 (nI (18100 + 4 * i)) w = l_X12_busiest_96 jfu a1 a2 a3 (-2) a1 w' ∧ zfA 187 w w' ∧ ∀ k, k < 1000 → w'.2.1 187 k = w.2.1 187 k + zLs (zcv k) rest := by
  have vl := zvr_le hs
  intro rest
  induction rest with
  | nil =>
    intro n i w h h1 h2 h3
    have hii : (zvr hs 0).length ≤ i := by simpa using h1
    cases n with
    | zero => cases h3
    | succ n =>
      unfold l_X12_busiest_50
      rw [z_jg j_4, k_4, h.2.1, z_18, if_pos (nI_le (by omega) (by omega))]
      exact ⟨w, rfl, zfA_rfl _ w, fun k hk => (Int32.add_zero _).symm⟩
  | cons v rest ih =>
    intro n i w h h1 h2 h3
    obtain ⟨g1, g2, g3⟩ := zvdrop h1
    simp only [List.length_cons] at h3
    obtain ⟨f1, f2, f3, f4⟩ := h.1 i v g1
    obtain ⟨f, x, x1, x2, x3, x4⟩ := zvr_inv hs 0 i v g1
    rw [Nat.zero_add] at x3
    obtain ⟨k0, k0l, k2⟩ := zHk hi (zHi_pos hi x1 x2) x1
    have vk : v.1 = nI k0 := by rw [x3]; exact k2
    cases n with
    | zero => cases h3
    | succ n =>
      unfold l_X12_busiest_50
      have nx : 18100 + 4 * i + 4 = 18100 + 4 * (i + 1) := by omega
      rw [z_jg j_4, k_4, h.2.1, z_18, if_neg (nI_ge (by omega) (by omega)), z_jg (z_in (by omega) (by decide)), nI_clamp (by omega), f1, vk, z_jg (z_in k0l (by decide)), z_jg (z_in k0l (by decide)), nI_clamp (by omega)]
      simp only [z_jl, nI_p4, nx]
      obtain ⟨w', r1, r2, r3⟩ := ih n (i + 1) (jsetX w 187 k0 (w.2.1 187 k0 + 1)) (by show zMh hs ((jsetX w 187 k0 _).2.1 182); rw [z_jX2 (by decide)]; exact h) g2 (by omega) (by omega)
      refine ⟨w', r1, zfA_trans (zfA_X w 187 k0 _) r2, fun k hk => ?_⟩
      rw [r3 k hk, z_jX1]
      show _ = _ + (zcv k v + zLs (zcv k) rest)
      by_cases c : k = k0
      · have e : zcv k v = 1 := by unfold zcv; rw [vk, c, if_pos rfl]
        rw [c, zup_eq, ← c, e, Int32.add_assoc]
      · have e : zcv k v = 0 := by unfold zcv; rw [vk]; exact if_neg (fun z => c ((nI_eq (by omega) (by omega)).mp z.symm))
        rw [zup_ne c, e, Int32.zero_add]
theorem z_busyM23 {hs : List zH} {a1 a2 a3 : Int32} (hi : zHi hs) (hl : hs.length ≤ 3000) : ∀ (d n k0 : Nat) (w : jw), zMh hs (w.2.1 182) → k0 + d = 1000 → d < n → (∀ k, k < k0 → w.2.1 187 k = 0) → ∃ w', l_X12_busiest_23 n a1 a2 a3 (nI k0) w = l_X12_busiest_96 jfu a1 a2 a3 (-2) a1 w' ∧ zfA 187 w w' ∧ ∀ k, k < 1000 → w'.2.1 187 k = zLs (zcv k) (zvr hs 0) := by
  have vl := zvr_le hs
  intro d
  induction d with
  | zero =>
    intro n k0 w h h1 h2 h3
    cases n with
    | zero => cases h2
    | succ n =>
      unfold l_X12_busiest_23
      rw [if_pos (show (1000 : Int32) ≤ nI k0 from nI_le (a := 1000) (by omega) (by omega))]
      obtain ⟨w', r1, r2, r3⟩ := z_busyM50 (a1 := a1) (a2 := a2) (a3 := a3) hi hl (zvr hs 0) jfu 0 w h rfl (by omega) (by show _ < 40000; omega)
      exact ⟨w', r1, r2, fun k hk => by rw [r3 k hk, h3 k (by omega), Int32.zero_add]⟩
  | succ d ih =>
    intro n k0 w h h1 h2 h3
    cases n with
    | zero => cases h2
    | succ n =>
      unfold l_X12_busiest_23
      rw [if_neg (show ¬ (1000 : Int32) ≤ nI k0 from nI_ge (b := 1000) (by omega) (by decide)), z_jg (z_in (by omega) (by decide)), nI_clamp (by omega)]
      simp only [z_jl, nI_1]
      obtain ⟨w', r1, r2, r3⟩ := ih n (k0 + 1) (jsetX w 187 k0 0) (by show zMh hs ((jsetX w 187 k0 _).2.1 182); rw [z_jX2 (by decide)]; exact h) (by omega) (by omega) (fun k hk => by
        rw [z_jX1]
        by_cases c : k = k0
        · rw [c, zup_eq]
        · rw [zup_ne c]; exact h3 k (by omega))
      exact ⟨w', r1, zfA_trans (zfA_X w 187 k0 _) r2, r3⟩
theorem zct_eq {hs : List zH} {k : Nat} (hi : zHi hs) : zLs (zcv k) (zvr hs 0) = zSu (zct hs k) (hs.length - 1) 1 := by
  have l0 := zHi_len hi
  rw [zLs_su (hs := hs) hs 0 rfl, show hs.length = (hs.length - 1) + 1 by omega]
  show (if zpt (hs.getD 0 (0, 0, 0, 0)) = true then zcv k (zver 0 (hs.getD 0 (0, 0, 0, 0))) else 0) + zSu _ (hs.length - 1) 1 = _
  rw [z_gd0 hi.1, if_neg (show ¬ zpt (0, -1, 0, 0) = true by decide), Int32.zero_add]
  refine zSu_c _ _ (fun f f1 f2 => ?_)
  have hx := List.getElem?_eq_getElem (show f < hs.length by omega)
  generalize hh : hs[f] = x at hx
  unfold zct zcv
  rw [z_gd0 hx]
  obtain ⟨p, _⟩ := hi.2.2.1 f x f1 hx
  show (if zpt x = true then (if x.2.1 = nI k then 1 else 0) else 0) = _
  rcases p with p | p
  · rw [if_neg (show ¬ zpt x = true by simp [zpt, p]), p]
    split <;> rfl
  · rw [if_pos (show zpt x = true by simp [zpt, p]), p]
theorem z_busy_l {C : Nat → Int32} {w wm : jw} {a1 a3 : Int32} {lb : Nat} (hb : lb < 1000) (h : ∀ k, k < 1000 → (w.2.2.2 59).getD k 0 = C k) (g : ∀ k, k < 1000 → wm.2.1 187 k = C k) : ∀ (d n k : Nat) (b : Int32), d = lb + 1 - k → k ≤ 1000 → d < n → (b = -2 ∨ ∃ j, j < 1000 ∧ b = nI j ∧ ¬ C j ≤ 0) →
    ∃ v, l_X3_mostVersions_87 n a1 (nI lb) a3 b (nI k) w = some (v, w) ∧ l_X12_busiest_96 n a1 (nI lb) a3 b (nI k) wm = some (v, wm) := by
  intro d
  induction d with
  | zero =>
    intro n k b h1 h2 h3 h4
    cases n with
    | zero => cases h3
    | succ n =>
      unfold l_X3_mostVersions_87 l_X12_busiest_96
      rw [if_pos (nI_lt (by omega) (by omega)), if_pos (nI_lt (by omega) (by omega))]
      rcases h4 with e | ⟨j, j1, e, j2⟩
      · subst e
        refine ⟨-2, ?_, by rw [if_pos (by decide)]⟩
        split
        · rfl
        · rw [if_pos rfl]
      · subst e
        rw [if_neg (show ¬ nI j < 0 from nI_pos (by omega)), if_neg (z_nm2 (by omega)), z_rat (by omega), h j j1, z_jg (z_in j1 (by decide)), nI_clamp (by omega), g j j1]
        by_cases c : a3 = 0
        · rw [if_pos c, if_pos c]; exact ⟨_, rfl, rfl⟩
        · rw [if_neg c, if_neg c]; exact ⟨_, rfl, rfl⟩
  | succ d ih =>
    intro n k b h1 h2 h3 h4
    cases n with
    | zero => cases h3
    | succ n =>
      unfold l_X3_mostVersions_87 l_X12_busiest_96
      rw [if_neg (nI_nlt (by omega) (by omega)), if_neg (nI_nlt (by omega) (by omega)), z_rat (by omega), h k (by omega), z_jg (z_in (by omega) (by decide)), nI_clamp (by omega), g k (by omega)]
      simp only [z_jl, nI_1]
      rcases h4 with e | ⟨j, j1, e, j2⟩
      · subst e
        rw [show rat (w.2.2.2 59) (-2) = 0 by unfold rat; rw [if_pos (by decide)], if_pos (show (-2 : Int32) < 0 by decide)]
        by_cases c : C k ≤ 0
        · rw [if_pos c, if_pos c]
          exact ih n (k + 1) _ (by omega) (by omega) (by omega) (Or.inl rfl)
        · rw [if_neg c, if_neg c]
          exact ih n (k + 1) _ (by omega) (by omega) (by omega) (Or.inr ⟨k, by omega, rfl, c⟩)
      · subst e
        rw [z_rat (by omega), h j j1, if_neg (show ¬ nI j < 0 from nI_pos (by omega)), z_jg (z_in (by omega) (by decide)), z_jg (z_in j1 (by decide)), nI_clamp (by omega), g j j1]
        by_cases c : C k ≤ C j
        · rw [if_pos c, if_pos c]
          have R := ih n (k + 1) (nI j) (by omega) (by omega) (by omega) (Or.inr ⟨j, j1, rfl, j2⟩)
          split
          · exact R
          · exact R
        · have c2 : ¬ C k ≤ 0 := fun z => c (Int32.le_trans z (Int32.le_of_lt (Int32.not_le.mp j2)))
          rw [if_neg c, if_neg c2, if_neg c]
          exact ih n (k + 1) _ (by omega) (by omega) (by omega) (Or.inr ⟨k, by omega, rfl, c2⟩)
theorem q_busiest {S : zS} (hI : zIn S) (hl : S.2.2.2.2.length ≤ 2900) (a b c : Int32) : zQ S (f_X11_busiest a b c) (f_X12_busiest a b c) := by
  have l0 := zHi_len hI.2
  cases h1 : (zik a && zik b) with
  | false => exact zQ_c (-1) (fun w hC => by unfold f_X11_busiest; rw [z_isRangeC, z_jbd2, h1]; rfl) (fun w hM => by unfold f_X12_busiest; rw [z_isRangeM, z_jbd2, h1]; rfl)
  | true =>
    cases h2 : zei c with
    | false => exact zQ_c (-1) (fun w hC => by unfold f_X11_busiest; rw [z_isRangeC, z_jbd2, h1, if_neg (by decide), z_isEitherC, z_jbd2, h2]; rfl) (fun w hM => by unfold f_X12_busiest; rw [z_isRangeM, z_jbd2, h1, if_neg (by decide), z_in01, z_jbd2, h2]; rfl)
    | true =>
      obtain ⟨ka, kb⟩ := zand h1
      obtain ⟨la, la1, la2⟩ := zik_t ka
      obtain ⟨lb, lb1, lb2⟩ := zik_t kb
      subst la2 lb2
      intro w wm hC hM
      obtain ⟨l, r1, r2⟩ := z_busyC_l (a1 := nI la) (a2 := nI lb) (a3 := c) hI.2 (by omega) (S.2.2.2.2.length - 1) jfu 1 (jsetR w 59 (List.replicate 1000 0)) (zCh_59 hC.2.2) (by omega) (by omega) (by show _ < 40000; omega) (by rw [z_jR1, List.length_replicate])
      rw [z_jRR] at r1
      obtain ⟨w1, d1, d2, d3⟩ := z_busyM23 (a1 := nI la) (a2 := nI lb) (a3 := c) hI.2 (by omega) 1000 jfu 0 wm hM.2.2.1 rfl (by show _ < 40000; omega) (fun k hk => by omega)
      obtain ⟨v, v1, v2⟩ := z_busy_l (C := fun k => zSu (zct S.2.2.2.2 k) (S.2.2.2.2.length - 1) 1) (w := jsetR w 59 l) (wm := w1) (a1 := nI la) (a3 := c) lb1 (fun k hk => by rw [z_jR1, r2 k hk, z_jR1, z_rep hk, Int32.zero_add]) (fun k hk => by rw [d3 k hk, zct_eq hI.2]) (lb + 1 - la) jfu la (-2) rfl (by omega) (by show _ < 40000; omega) (Or.inl rfl)
      refine ⟨v, jsetR w 59 l, w1, ?_, zfQc_R (Or.inl rfl), ?_, zfQm_A (Or.inl rfl) d2⟩
      · unfold f_X11_busiest f_X3_mostVersions
        rw [z_isRangeC, z_jbd2, h1, if_neg (by decide), z_isEitherC, z_jbd2, h2, if_neg (by decide), z_jl]
        exact (congrArg (fun o => jbd2 o _) (r1.trans v1)).trans (z_jbd2 _ _ _)
      · unfold f_X12_busiest
        rw [z_isRangeM, z_jbd2, h1, if_neg (by decide), z_in01, z_jbd2, h2, if_neg (by decide)]
        exact d1.trans v2
end
