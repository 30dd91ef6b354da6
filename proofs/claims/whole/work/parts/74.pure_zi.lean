section
/-! tables by key -/
theorem z_rep {n k : Nat} {x : Int32} (h : k < n) : (List.replicate n x).getD k 0 = x := by
  have := z_grep2 (l := []) (n := n) (j := k) (x := x) (Nat.zero_le _) (by simp only [List.length_nil]; omega)
  exact this
theorem z_fillTable_59_l {hs : List zH} {w : jw} {τ : Nat} (hi : zHi hs) (hl : hs.length ≤ 3000) (hτ : τ < hs.length) : ∀ (d n f : Nat) (w : jw), zCh hs w → f + d = τ + 1 → 1 ≤ f → d < n → (w.2.2.2 59).length = 1000 → (∀ k, k < 1000 → (w.2.2.2 59).getD k 0 = zof (zlf hs (nI k) (f - 1))) →
    ∃ l : List Int32, l_X3_fillTable_59 n (nI τ) (nI f) w = some (jsetR w 59 l) ∧ l.length = 1000 ∧ ∀ k, k < 1000 → l.getD k 0 = zof (zlf hs (nI k) τ) := by
  intro d
  induction d with
  | zero =>
    intro n f w hC h1 h2 h3 h4 h5
    cases n with
    | zero => cases h3
    | succ n =>
      unfold l_X3_fillTable_59
      rw [if_pos (nI_lt (by omega) (by omega))]
      refine ⟨w.2.2.2 59, by rw [z_jRs], h4, fun k hk => ?_⟩
      rw [h5 k hk, show f - 1 = τ by omega]
  | succ d ih =>
    intro n f w hC h1 h2 h3 h4 h5
    cases n with
    | zero => cases h3
    | succ n =>
      have hx := List.getElem?_eq_getElem (show f < hs.length by omega)
      generalize hh : hs[f] = h at hx
      obtain ⟨v1, v2, v3⟩ := hi.2.2.1 f h h2 hx
      obtain ⟨k0, k1, k2⟩ := nI_of v2
      have k0l : k0 < 1000 := by
        rw [k2] at v3
        rcases Nat.lt_or_ge k0 1000 with z | z
        · exact z
        · exact absurd v3 (show ¬ nI k0 < 1000 from nI_nlt (b := 1000) z k1)
      have step : ∀ x : Int32, x = zof (if h.1 = 1 then some f else none) → ∃ l : List Int32, l_X3_fillTable_59 n (nI τ) (nI (f + 1)) (jsetR w 59 (rset (w.2.2.2 59) (nI k0) x)) = some (jsetR w 59 l) ∧ l.length = 1000 ∧ ∀ k, k < 1000 → l.getD k 0 = zof (zlf hs (nI k) τ) := fun x hxx => by
        rw [z_rset (by omega)]
        obtain ⟨l, r1, r2, r3⟩ := ih n (f + 1) (jsetR w 59 ((w.2.2.2 59).set k0 x)) (by
          obtain ⟨c1, c2, c3, c4, c5⟩ := hC
          exact ⟨by rw [z_jR2 (by decide)]; exact c1, by rw [z_jR2 (by decide)]; exact c2, by rw [z_jR2 (by decide)]; exact c3, by rw [z_jR2 (by decide)]; exact c4, c5⟩) (by omega) (by omega) (by omega) (by rw [z_jR1, List.length_set]; exact h4) (fun k hk => by
          rw [z_jR1, z_gset _ _ _ (by omega)]
          obtain ⟨g, hg⟩ : ∃ g, f = g + 1 := ⟨f - 1, by omega⟩
          rw [show f + 1 - 1 = f by omega]
          have e1 : zlf hs (nI k) f = (if h.2.1 = nI k then (if h.1 = 1 then some f else none) else zlf hs (nI k) (f - 1)) := by
            rw [hg] at hx ⊢
            show (match hs[g + 1]? with
              | some h => if h.2.1 = nI k then (if h.1 = 1 then some (g + 1) else none) else zlf hs (nI k) g
              | none => zlf hs (nI k) g) = _
            rw [hx]
            rfl
          rw [e1, k2]
          by_cases c : k = k0
          · rw [if_pos c, if_pos (by rw [c]), hxx]
          · rw [if_neg c, if_neg (fun e => c ((nI_eq (by omega) (by omega)).mp e.symm))]
            exact h5 k hk)
        exact ⟨l, by rw [r1, z_jRR], r2, r3⟩
      unfold l_X3_fillTable_59
      rw [if_neg (nI_nlt (by omega) (by omega)), z_rat (by omega), z_rat (by omega), hC.1, hC.2.1, z_gm hx, z_gm hx, k2]
      simp only [z_jl, nI_1]
      by_cases c : h.1 = 1
      · rw [if_pos c]
        exact step (nI f) (by rw [if_pos c]; rfl)
      · rw [if_neg c]
        exact step (-1) (by rw [if_neg c]; rfl)
theorem z_fillTable_59 {hs : List zH} {w : jw} {τ : Nat} (hC : zCh hs w) (hi : zHi hs) (hl : hs.length ≤ 3000) (hτ : τ < hs.length) : ∃ l : List Int32, f_X3_fillTable_59 (nI τ) w = some (jsetR w 59 l) ∧ l.length = 1000 ∧ ∀ k, k < 1000 → l.getD k 0 = zof (zlf hs (nI k) τ) := by
  unfold f_X3_fillTable_59
  rw [z_jl]
  obtain ⟨l, r1, r2, r3⟩ := z_fillTable_59_l (w := w) hi hl hτ τ jfu 1 (jsetR w 59 (List.replicate 1000 (-1))) (by
    obtain ⟨c1, c2, c3, c4, c5⟩ := hC
    exact ⟨by rw [z_jR2 (by decide)]; exact c1, by rw [z_jR2 (by decide)]; exact c2, by rw [z_jR2 (by decide)]; exact c3, by rw [z_jR2 (by decide)]; exact c4, c5⟩) (by omega) (Nat.le_refl _) (by show _ < 40000; omega) (by rw [z_jR1, List.length_replicate]) (fun k hk => by rw [z_jR1]; exact z_rep hk)
  exact ⟨l, Eq.trans r1 (by rw [z_jRR]), r2, r3⟩
theorem z_fillTable_61_l {hs : List zH} {w : jw} {τ : Nat} (hi : zHi hs) (hl : hs.length ≤ 3000) (hτ : τ < hs.length) : ∀ (d n f : Nat) (w : jw), zCh hs w → f + d = τ + 1 → 1 ≤ f → d < n → (w.2.2.2 61).length = 1000 → (∀ k, k < 1000 → (w.2.2.2 61).getD k 0 = zof (zlf hs (nI k) (f - 1))) →
    ∃ l : List Int32, l_X3_fillTable_61 n (nI τ) (nI f) w = some (jsetR w 61 l) ∧ l.length = 1000 ∧ ∀ k, k < 1000 → l.getD k 0 = zof (zlf hs (nI k) τ) := by
  intro d
  induction d with
  | zero =>
    intro n f w hC h1 h2 h3 h4 h5
    cases n with
    | zero => cases h3
    | succ n =>
      unfold l_X3_fillTable_61
      rw [if_pos (nI_lt (by omega) (by omega))]
      refine ⟨w.2.2.2 61, by rw [z_jRs], h4, fun k hk => ?_⟩
      rw [h5 k hk, show f - 1 = τ by omega]
  | succ d ih =>
    intro n f w hC h1 h2 h3 h4 h5
    cases n with
    | zero => cases h3
    | succ n =>
      have hx := List.getElem?_eq_getElem (show f < hs.length by omega)
      generalize hh : hs[f] = h at hx
      obtain ⟨v1, v2, v3⟩ := hi.2.2.1 f h h2 hx
      obtain ⟨k0, k1, k2⟩ := nI_of v2
      have k0l : k0 < 1000 := by
        rw [k2] at v3
        rcases Nat.lt_or_ge k0 1000 with z | z
        · exact z
        · exact absurd v3 (show ¬ nI k0 < 1000 from nI_nlt (b := 1000) z k1)
      have step : ∀ x : Int32, x = zof (if h.1 = 1 then some f else none) → ∃ l : List Int32, l_X3_fillTable_61 n (nI τ) (nI (f + 1)) (jsetR w 61 (rset (w.2.2.2 61) (nI k0) x)) = some (jsetR w 61 l) ∧ l.length = 1000 ∧ ∀ k, k < 1000 → l.getD k 0 = zof (zlf hs (nI k) τ) := fun x hxx => by
        rw [z_rset (by omega)]
        obtain ⟨l, r1, r2, r3⟩ := ih n (f + 1) (jsetR w 61 ((w.2.2.2 61).set k0 x)) (by
          obtain ⟨c1, c2, c3, c4, c5⟩ := hC
          exact ⟨by rw [z_jR2 (by decide)]; exact c1, by rw [z_jR2 (by decide)]; exact c2, by rw [z_jR2 (by decide)]; exact c3, by rw [z_jR2 (by decide)]; exact c4, c5⟩) (by omega) (by omega) (by omega) (by rw [z_jR1, List.length_set]; exact h4) (fun k hk => by
          rw [z_jR1, z_gset _ _ _ (by omega)]
          obtain ⟨g, hg⟩ : ∃ g, f = g + 1 := ⟨f - 1, by omega⟩
          rw [show f + 1 - 1 = f by omega]
          have e1 : zlf hs (nI k) f = (if h.2.1 = nI k then (if h.1 = 1 then some f else none) else zlf hs (nI k) (f - 1)) := by
            rw [hg] at hx ⊢
            show (match hs[g + 1]? with
              | some h => if h.2.1 = nI k then (if h.1 = 1 then some (g + 1) else none) else zlf hs (nI k) g
              | none => zlf hs (nI k) g) = _
            rw [hx]
            rfl
          rw [e1, k2]
          by_cases c : k = k0
          · rw [if_pos c, if_pos (by rw [c]), hxx]
          · rw [if_neg c, if_neg (fun e => c ((nI_eq (by omega) (by omega)).mp e.symm))]
            exact h5 k hk)
        exact ⟨l, by rw [r1, z_jRR], r2, r3⟩
      unfold l_X3_fillTable_61
      rw [if_neg (nI_nlt (by omega) (by omega)), z_rat (by omega), z_rat (by omega), hC.1, hC.2.1, z_gm hx, z_gm hx, k2]
      simp only [z_jl, nI_1]
      by_cases c : h.1 = 1
      · rw [if_pos c]
        exact step (nI f) (by rw [if_pos c]; rfl)
      · rw [if_neg c]
        exact step (-1) (by rw [if_neg c]; rfl)
theorem z_fillTable_61 {hs : List zH} {w : jw} {τ : Nat} (hC : zCh hs w) (hi : zHi hs) (hl : hs.length ≤ 3000) (hτ : τ < hs.length) : ∃ l : List Int32, f_X3_fillTable_61 (nI τ) w = some (jsetR w 61 l) ∧ l.length = 1000 ∧ ∀ k, k < 1000 → l.getD k 0 = zof (zlf hs (nI k) τ) := by
  unfold f_X3_fillTable_61
  rw [z_jl]
  obtain ⟨l, r1, r2, r3⟩ := z_fillTable_61_l (w := w) hi hl hτ τ jfu 1 (jsetR w 61 (List.replicate 1000 (-1))) (by
    obtain ⟨c1, c2, c3, c4, c5⟩ := hC
    exact ⟨by rw [z_jR2 (by decide)]; exact c1, by rw [z_jR2 (by decide)]; exact c2, by rw [z_jR2 (by decide)]; exact c3, by rw [z_jR2 (by decide)]; exact c4, c5⟩) (by omega) (Nat.le_refl _) (by show _ < 40000; omega) (by rw [z_jR1, List.length_replicate]) (fun k hk => by rw [z_jR1]; exact z_rep hk)
  exact ⟨l, Eq.trans r1 (by rw [z_jRR]), r2, r3⟩
/-! the reference's table -/
theorem zfi_snoc {ok : zE → Bool} {v : zE} : ∀ (l : List zE) (i : Nat), zfi ok (l ++ [v]) i = match zfi ok l i with
    | some j => some j
    | none => if ok v = true then some (i + l.length) else none := by
  intro l
  induction l with
  | nil => intro i; rfl
  | cons x l ih =>
    intro i
    show (if ok x = true then some i else zfi ok (l ++ [v]) (i + 1)) = match (if ok x = true then some i else zfi ok l (i + 1)) with
      | some j => some j
      | none => _
    by_cases c : ok x = true
    · rw [if_pos c, if_pos c]
    · rw [if_neg c, if_neg c, ih, List.length_cons, show i + 1 + l.length = i + (l.length + 1) by omega]
def zfA (p : Nat) (w w' : jw) : Prop := w'.1 = w.1 ∧ w'.2.2 = w.2.2 ∧ ∀ q, q ≠ p → w'.2.1 q = w.2.1 q
theorem zfA_trans {p : Nat} {a b c : jw} (h : zfA p a b) (g : zfA p b c) : zfA p a c := ⟨g.1.trans h.1, g.2.1.trans h.2.1, fun q hq => (g.2.2 q hq).trans (h.2.2 q hq)⟩
theorem zfA_rfl (p : Nat) (w : jw) : zfA p w w := ⟨rfl, rfl, fun _ _ => rfl⟩
theorem zfA_X (w : jw) (p i : Nat) (x : Int32) : zfA p w (jsetX w p i x) := ⟨rfl, rfl, fun _ hq => z_jX2 hq⟩
theorem zfQm_A {w w' : jw} {p : Nat} (hp : p = 187 ∨ p = 188 ∨ p = 189 ∨ p = 190) (h : zfA p w w') : zfQm w w' := ⟨h.2.1, fun _ _ => by rw [h.1], fun _ _ _ => by rw [h.1], fun q _ q2 q3 q4 q5 => h.2.2 q (by omega)⟩
theorem z_fills26 {hs : List zH} {τ : Nat} (hi : zHi hs) (hl : hs.length ≤ 3000) (hτ : τ < 100000) : ∀ (rest : List zE) (n i : Nat) (w : jw), zMh hs (w.2.1 182) → (zvr hs 0).drop i = rest → i ≤ (zvr hs 0).length → rest.length < n → (∀ k, k < 1000 → w.2.1 187 k = zva (zfi (zvk (nI k) (nI τ)) ((zvr hs 0).take i) 0)) →
    ∃ w', l_X12_fillsThen_26 n (nI τ) (nI (18100 + 4 * i)) w = some w' ∧ zfA 187 w w' ∧ ∀ k, k < 1000 → w'.2.1 187 k = zva ((zlf hs (nI k) τ).map (zix hs)) := by
  have vl := zvr_le hs
  intro rest
  induction rest with
  | nil =>
    intro n i w h h1 h2 h3 h4
    have hii : (zvr hs 0).length ≤ i := by simpa using h1
    cases n with
    | zero => cases h3
    | succ n =>
      unfold l_X12_fillsThen_26
      rw [z_jg j_4, k_4, h.2.1, z_18, if_pos (nI_le (by omega) (by omega))]
      refine ⟨w, rfl, zfA_rfl _ w, fun k hk => ?_⟩
      rw [h4 k hk, List.take_of_length_le hii, z_vfi hi hτ]
  | cons v rest ih =>
    intro n i w h h1 h2 h3 h4
    obtain ⟨g1, g2, g3⟩ := zvdrop h1
    simp only [List.length_cons] at h3
    obtain ⟨f1, f2, f3, f4⟩ := h.1 i v g1
    obtain ⟨f, x, x1, x2, x3, x4⟩ := zvr_inv hs 0 i v g1
    rw [Nat.zero_add] at x3
    obtain ⟨v1, v2, v3⟩ := hi.2.2.1 f x (zHi_pos hi x1 x2) x1
    obtain ⟨k0, k1, k2⟩ := nI_of v2
    have k0l : k0 < 1000 := by
      rw [k2] at v3
      rcases Nat.lt_or_ge k0 1000 with z | z
      · exact z
      · exact absurd v3 (show ¬ nI k0 < 1000 from nI_nlt (b := 1000) z k1)
    have vk : v.1 = nI k0 := by rw [x3]; exact k2
    have tk : (zvr hs 0).take (i + 1) = (zvr hs 0).take i ++ [v] := by rw [List.take_succ, g1]; rfl
    have tl : ((zvr hs 0).take i).length = i := by rw [List.length_take]; omega
    cases n with
    | zero => cases h3
    | succ n =>
      unfold l_X12_fillsThen_26
      have nx : 18100 + 4 * i + 4 = 18100 + 4 * (i + 1) := by omega
      rw [z_jg j_4, k_4, h.2.1, z_18, if_neg (nI_ge (by omega) (by omega)), nI_1, nI_p2, z_jg (z_in (by omega) (by decide)), z_jg (z_in (by omega) (by decide)), nI_clamp (by omega), nI_clamp (by omega), f2, f3, z_livesThen v, z_jbd2]
      simp only [z_jb0, z_jl, nI_p4, nx]
      by_cases d : zlv (nI τ) v = true
      · rw [if_neg (by rw [d]; decide), z_jg (z_in (by omega) (by decide)), nI_clamp (by omega), f1, vk, z_jg (z_in k0l (by decide)), nI_clamp (by omega)]
        obtain ⟨w', r1, r2, r3⟩ := ih n (i + 1) (jsetX w 187 k0 (nI (18100 + 4 * i))) (by show zMh hs ((jsetX w 187 k0 _).2.1 182); rw [z_jX2 (by decide)]; exact h) g2 (by omega) (by omega) (fun k hk => by
          rw [z_jX1, tk, zfi_snoc, tl, Nat.zero_add]
          by_cases c : k = k0
          · subst c
            rw [zup_eq]
            have okv : zvk (nI k) (nI τ) v = true := by simp [zvk, vk, d]
            cases hz : zfi (zvk (nI k) (nI τ)) ((zvr hs 0).take i) 0 with
            | none => simp only []; rw [if_pos okv]; rfl
            | some j =>
              exfalso
              obtain ⟨_, y, y1, y2⟩ := zfi_some _ _ _ hz
              have jl := zlen_lt y1
              rw [Nat.sub_zero, tl] at jl
              rw [Nat.sub_zero, List.getElem?_take_of_lt jl] at y1
              have u := z_vfi hi (k := nI k) hτ
              obtain ⟨f', xx, b1, b2, b3, b4⟩ := zvr_inv hs 0 j y y1
              rw [Nat.zero_add] at b3
              have l1 : zlf hs (nI k) τ = some f := by
                have := (zlv_lf hi x1 x2 hτ).mp (by rw [← x3]; exact d)
                rw [k2] at this
                exact this
              have yk : zlv (nI τ) y = true ∧ y.1 = nI k := by
                simp only [zvk, Bool.and_eq_true, decide_eq_true_eq] at y2
                exact ⟨y2.2, y2.1⟩
              have l2 : zlf hs (nI k) τ = some f' := by
                have := (zlv_lf hi b1 b2 hτ).mp (by rw [← b3]; exact yk.1)
                have e : xx.2.1 = nI k := by rw [b3] at yk; exact yk.2
                rw [e] at this
                exact this
              rw [l1] at l2
              cases l2
              rw [← x4] at b4
              omega
          · rw [zup_ne c, h4 k hk]
            cases hz : zfi (zvk (nI k) (nI τ)) ((zvr hs 0).take i) 0 with
            | some j => rfl
            | none =>
              simp only []
              rw [if_neg (by simp only [zvk, Bool.and_eq_true, decide_eq_true_eq]; exact fun z => c ((nI_eq (by omega) (by omega)).mp (z.1.symm.trans vk)))])
        exact ⟨w', r1, zfA_trans (zfA_X w 187 k0 _) r2, r3⟩
      · rw [if_pos (by simpa using d)]
        refine ih n (i + 1) w h g2 (by omega) (by omega) (fun k hk => ?_)
        rw [tk, zfi_snoc, h4 k hk]
        cases hz : zfi (zvk (nI k) (nI τ)) ((zvr hs 0).take i) 0 with
        | some j => rfl
        | none =>
          simp only []
          rw [if_neg (by simp [zvk, d])]
theorem z_fills2 {hs : List zH} {τ : Nat} (hi : zHi hs) (hl : hs.length ≤ 3000) (hτ : τ < 100000) : ∀ (d n k0 : Nat) (w : jw), zMh hs (w.2.1 182) → k0 + d = 1000 → d < n → (∀ k, k < k0 → w.2.1 187 k = -1) → ∃ w', l_X12_fillsThen_2 n (nI τ) (nI k0) w = some w' ∧ zfA 187 w w' ∧ ∀ k, k < 1000 → w'.2.1 187 k = zva ((zlf hs (nI k) τ).map (zix hs)) := by
  have vl := zvr_le hs
  intro d
  induction d with
  | zero =>
    intro n k0 w h h1 h2 h3
    cases n with
    | zero => cases h2
    | succ n =>
      unfold l_X12_fillsThen_2
      rw [if_pos (show (1000 : Int32) ≤ nI k0 from nI_le (a := 1000) (by omega) (by omega))]
      exact z_fills26 hi hl hτ (zvr hs 0) jfu 0 w h rfl (by omega) (by show _ < 40000; omega) (fun k hk => by rw [h3 k (by omega)]; rfl)
  | succ d ih =>
    intro n k0 w h h1 h2 h3
    cases n with
    | zero => cases h2
    | succ n =>
      unfold l_X12_fillsThen_2
      rw [if_neg (show ¬ (1000 : Int32) ≤ nI k0 from nI_ge (b := 1000) (by omega) (by decide)), z_jg (z_in (by omega) (by decide)), nI_clamp (by omega)]
      simp only [z_jl, nI_1]
      obtain ⟨w', r1, r2, r3⟩ := ih n (k0 + 1) (jsetX w 187 k0 (-1)) (by show zMh hs ((jsetX w 187 k0 _).2.1 182); rw [z_jX2 (by decide)]; exact h) (by omega) (by omega) (fun k hk => by
        rw [z_jX1]
        by_cases c : k = k0
        · rw [c, zup_eq]
        · rw [zup_ne c]; exact h3 k (by omega))
      exact ⟨w', r1, zfA_trans (zfA_X w 187 k0 _) r2, r3⟩
theorem z_fillsThen {hs : List zH} {w : jw} {τ : Nat} (h : zMh hs (w.2.1 182)) (hi : zHi hs) (hl : hs.length ≤ 3000) (hτ : τ < 100000) : ∃ w', f_X12_fillsThen (nI τ) w = some w' ∧ zfA 187 w w' ∧ ∀ k, k < 1000 → w'.2.1 187 k = zva ((zlf hs (nI k) τ).map (zix hs)) := by
  unfold f_X12_fillsThen
  exact z_fills2 hi hl hτ 1000 jfu 0 w h rfl (by show _ < 40000; omega) (fun k hk => by omega)
end
