section
theorem zsp2_t {T : Nat} {a b : Int32} (hT : T < 100000) (h : zsp2 T a b = true) : ∃ t u, t ≤ u ∧ u ≤ T ∧ a = nI t ∧ b = nI u := by
  simp only [zsp2, Bool.and_eq_true, Bool.not_eq_true', decide_eq_false_iff_not] at h
  obtain ⟨⟨h1, h2⟩, h3⟩ := h
  obtain ⟨t, t1, t2⟩ := zit_t hT h1
  obtain ⟨u, u1, u2⟩ := zit_t hT h2
  subst t2 u2
  refine ⟨t, u, ?_, u1, rfl, rfl⟩
  rcases Nat.lt_or_ge u t with z | z
  · exact absurd (nI_lt z (by omega)) h3
  · exact z
theorem zlv_i {t : Int32} {v : zE} : zlv t v = true ↔ ¬ t < v.2.1 ∧ (v.2.2.1 = -2 ∨ ¬ v.2.2.1 ≤ t) := by
  unfold zlv
  by_cases c : t < v.2.1
  · simp [c]
  · by_cases d : v.2.2.1 = -2
    · simp [c, d]
    · by_cases e : v.2.2.1 ≤ t
      · simp [c, d, e]
      · simp [c, d, e]
def zWe (hs : List zH) (a b k : Nat) : Prop := zp hs a k = true ∨ ∃ (f : Nat) (x : zH), a < f ∧ f ≤ b ∧ hs[f]? = some x ∧ zpt x = true ∧ x.2.1 = nI k
def zVe (hs : List zH) (a b i k : Nat) : Prop := ∃ (j : Nat) (v : zE), j < i ∧ (zvr hs 0)[j]? = some v ∧ v.1 = nI k ∧ ¬ nI b < v.2.1 ∧ (v.2.2.1 = -2 ∨ ¬ v.2.2.1 ≤ nI a)
theorem zVWe {hs : List zH} {a b k : Nat} (hi : zHi hs) (hl : hs.length ≤ 3000) (hab : a ≤ b) (hb : b < hs.length) : zVe hs a b (zvr hs 0).length k ↔ zWe hs a b k := by
  constructor
  · rintro ⟨j, v, h1, h2, h3, h4, h5⟩
    obtain ⟨f, x, x1, x2, x3, x4⟩ := zvr_inv hs 0 j v h2
    rw [Nat.zero_add] at x3
    have fl := (List.getElem?_eq_some_iff.mp x1).1
    have xk : x.2.1 = nI k := by rw [x3] at h3; exact h3
    have fb : f ≤ b := by
      rcases Nat.lt_or_ge b f with z | z
      · rw [x3] at h4; exact absurd (nI_lt z (by omega)) h4
      · exact z
    by_cases c : a < f
    · exact Or.inr ⟨f, x, c, fb, x1, x2, xk⟩
    · have l := (zlv_lf hi x1 x2 (τ := a) (by omega)).mp (by rw [zlv_i, ← x3]; exact ⟨by rw [x3]; exact nI_nlt (by omega) (by omega), h5⟩)
      rw [xk] at l
      exact Or.inl (by unfold zp; rw [l]; rfl)
  · rintro (h | ⟨f, x, h1, h2, x1, x2, x3⟩)
    · unfold zp at h
      cases hz : zlf hs (nI k) a with
      | none => rw [hz] at h; cases h
      | some f =>
        obtain ⟨q1, q2, ⟨x, x1, x2, x3⟩, _⟩ := zlf_some _ _ hz
        have l := zlv_i.mp ((zlv_lf hi x1 x2 (τ := a) (by omega)).mpr (by rw [x3]; exact hz))
        have g := zvr_at x1 x2
        exact ⟨zix hs f, zver f x, (List.getElem?_eq_some_iff.mp g).1, g, x3, nI_nlt (by omega) (by omega), l.2⟩
    · have g := zvr_at x1 x2
      refine ⟨zix hs f, zver f x, (List.getElem?_eq_some_iff.mp g).1, g, x3, nI_nlt h2 (by omega), ?_⟩
      rcases hi.2.2.2 f x x1 x2 with ⟨z, _⟩ | ⟨j, y, j1, j2, j3, _⟩
      · exact Or.inl z
      · have jl := (List.getElem?_eq_some_iff.mp j2).1
        refine Or.inr ?_
        show ¬ x.2.2.2 ≤ nI a
        rw [j3]
        exact nI_ge (by omega) (by omega)
theorem zCh_59 {hs : List zH} {w : jw} {l : List Int32} (hC : zCh hs w) : zCh hs (jsetR w 59 l) := by
  obtain ⟨c1, c2, c3, c4, c5⟩ := hC
  exact ⟨by rw [z_jR2 (by decide)]; exact c1, by rw [z_jR2 (by decide)]; exact c2, by rw [z_jR2 (by decide)]; exact c3, by rw [z_jR2 (by decide)]; exact c4, c5⟩
theorem z_cntC_l {p : Nat → Bool} {w : jw} {a1 a3 a4 : Int32} {lb : Nat} (hb : lb < 1000) (h : ∀ k, k < 1000 → ((w.2.2.2 59).getD k 0 = -1 ↔ p k = false)) : ∀ (d n k : Nat) (c : Int32), d = lb + 1 - k → k ≤ 1000 → d < n → l_X3_livingWithin_70 n a1 (nI lb) a3 a4 c (nI k) w = some (zcn p d k c, w) := by
  intro d
  induction d with
  | zero =>
    intro n k c h1 h2 h3
    cases n with
    | zero => cases h3
    | succ n =>
      unfold l_X3_livingWithin_70
      rw [if_pos (nI_lt (by omega) (by omega))]
      rfl
  | succ d ih =>
    intro n k c h1 h2 h3
    cases n with
    | zero => cases h3
    | succ n =>
      unfold l_X3_livingWithin_70 zcn
      rw [if_neg (nI_nlt (by omega) (by omega)), z_rat (by omega)]
      simp only [z_jl, nI_1]
      cases hp : p k with
      | false => rw [if_pos ((h k (by omega)).mpr hp), if_neg (show ¬ (false = true) by decide)]; exact ih n (k + 1) c (by omega) (by omega) (by omega)
      | true => rw [if_neg (fun z => by rw [(h k (by omega)).mp z] at hp; cases hp), if_pos rfl]; exact ih n (k + 1) (c + 1) (by omega) (by omega) (by omega)
theorem z_cntM_l {p : Nat → Bool} {w : jw} {a1 a3 a4 : Int32} {lb : Nat} (hb : lb < 1000) (h : ∀ k, k < 1000 → (w.2.1 187 k < 0 ↔ p k = false)) : ∀ (d n k : Nat) (c : Int32), d = lb + 1 - k → k ≤ 1000 → d < n → l_X12_ever_135 n a1 (nI lb) a3 a4 c (nI k) w = some (zcn p d k c, w) := by
  intro d
  induction d with
  | zero =>
    intro n k c h1 h2 h3
    cases n with
    | zero => cases h3
    | succ n =>
      unfold l_X12_ever_135
      rw [if_pos (nI_lt (by omega) (by omega))]
      rfl
  | succ d ih =>
    intro n k c h1 h2 h3
    cases n with
    | zero => cases h3
    | succ n =>
      unfold l_X12_ever_135 zcn
      rw [if_neg (nI_nlt (by omega) (by omega)), z_jg (z_in (by omega) (by decide)), nI_clamp (by omega)]
      simp only [z_jl, nI_1]
      cases hp : p k with
      | false => rw [if_pos ((h k (by omega)).mpr hp), if_neg (show ¬ (false = true) by decide)]; exact ih n (k + 1) c (by omega) (by omega) (by omega)
      | true => rw [if_neg (fun z => by rw [(h k (by omega)).mp z] at hp; cases hp), if_pos rfl]; exact ih n (k + 1) (c + 1) (by omega) (by omega) (by omega)
theorem z_everC_l {hs : List zH} {a b : Nat} {a1 a2 : Int32} (hi : zHi hs) (hl : hs.length ≤ 3000) (hb : b < hs.length) : ∀ (d n f : Nat) (w : jw), zCh hs w → f + d = b + 1 → a < f → d < n → (w.2.2.2 59).length = 1000 → (∀ k, k < 1000 → ((w.2.2.2 59).getD k 0 = -1 ↔ ¬ zWe hs a (f - 1) k)) →
    ∃ l : List Int32, l_X3_livingWithin_14 n a1 a2 (nI a) (nI b) (nI f) w = l_X3_livingWithin_70 jfu a1 a2 (nI a) (nI b) 0 a1 (jsetR w 59 l) ∧ ∀ k, k < 1000 → (l.getD k 0 = -1 ↔ ¬ zWe hs a b k) := by
  intro d
  induction d with
  | zero =>
    intro n f w hC h1 h2 h3 h4 h5
    cases n with
    | zero => cases h3
    | succ n =>
      unfold l_X3_livingWithin_14
      rw [if_pos (nI_lt (by omega) (by omega))]
      refine ⟨w.2.2.2 59, by rw [z_jRs], fun k hk => ?_⟩
      rw [h5 k hk, show f - 1 = b by omega]
  | succ d ih =>
    intro n f w hC h1 h2 h3 h4 h5
    cases n with
    | zero => cases h3
    | succ n =>
      have hx := List.getElem?_eq_getElem (show f < hs.length by omega)
      generalize hh : hs[f] = h at hx
      obtain ⟨k0, k1, k2⟩ := zHk hi (by omega) hx
      unfold l_X3_livingWithin_14
      rw [if_neg (nI_nlt (by omega) (by omega)), z_rat (by omega), z_rat (by omega), hC.1, hC.2.1, z_gm hx, z_gm hx, k2]
      simp only [z_jl, nI_1]
      have mono : ∀ k, zWe hs a (f - 1) k → zWe hs a f k := fun k z => by
        rcases z with z | ⟨g, y, g1, g2, g3⟩
        · exact Or.inl z
        · exact Or.inr ⟨g, y, g1, by omega, g3⟩
      have back : ∀ k, (¬ h.1 = 1 ∨ ¬ h.2.1 = nI k) → zWe hs a f k → zWe hs a (f - 1) k := fun k hn z => by
        rcases z with z | ⟨g, y, g1, g2, g3, g4, g5⟩
        · exact Or.inl z
        · refine Or.inr ⟨g, y, g1, ?_, g3, g4, g5⟩
          rcases Nat.lt_or_ge g f with q | q
          · omega
          · have : g = f := by omega
            subst this
            rw [hx] at g3
            cases g3
            rcases hn with hn | hn
            · exact absurd (by simpa [zpt] using g4) hn
            · exact absurd g5 hn
      by_cases c : h.1 = 1
      · rw [if_pos c, z_rset (by omega)]
        obtain ⟨l, r1, r2⟩ := ih n (f + 1) (jsetR w 59 ((w.2.2.2 59).set k0 (nI f))) (zCh_59 hC) (by omega) (by omega) (by omega) (by rw [z_jR1, List.length_set]; exact h4) (fun k hk => by
          rw [z_jR1, z_gset _ _ _ (by omega), show f + 1 - 1 = f by omega]
          by_cases e : k = k0
          · rw [if_pos e]
            exact ⟨fun z => absurd z (z_nm1 (by omega)), fun z => absurd (Or.inr ⟨f, h, h2, Nat.le_refl _, hx, by simp [zpt, c], by rw [e]; exact k2⟩) z⟩
          · rw [if_neg e, h5 k hk]
            have : ¬ h.2.1 = nI k := fun q => e ((nI_eq (by omega) (by omega)).mp (q.symm.trans k2))
            exact ⟨fun z q => z (back k (Or.inr this) q), fun z q => z (mono k q)⟩)
        exact ⟨l, by rw [r1, z_jRR], r2⟩
      · rw [if_neg c]
        exact ih n (f + 1) w hC (by omega) (by omega) (by omega) h4 (fun k hk => by
          rw [h5 k hk, show f + 1 - 1 = f by omega]
          exact ⟨fun z q => z (back k (Or.inl c) q), fun z q => z (mono k q)⟩)
theorem z_everM51 {hs : List zH} {a b : Nat} {a1 a2 : Int32} (hi : zHi hs) (hl : hs.length ≤ 3000) : ∀ (rest : List zE) (n i : Nat) (w : jw), zMh hs (w.2.1 182) → (zvr hs 0).drop i = rest → i ≤ (zvr hs 0).length → rest.length < n → (∀ k, k < 1000 → (w.2.1 187 k < 0 ↔ ¬ zVe hs a b i k)) →
    ∃ w', l_X12_ever_51 n a1 a2 (nI a) (nI b) (nI (18100 + 4 * i)) w = l_X12_ever_135 jfu a1 a2 (nI a) (nI b) 0 a1 w' ∧ zfA 187 w w' ∧ ∀ k, k < 1000 → (w'.2.1 187 k < 0 ↔ ¬ zVe hs a b (zvr hs 0).length k) := by
  have vl := zvr_le hs
  intro rest
  induction rest with
  | nil =>
    intro n i w h h1 h2 h3 h4
    have hii : (zvr hs 0).length ≤ i := by simpa using h1
    cases n with
    | zero => cases h3
    | succ n =>
      unfold l_X12_ever_51
      rw [z_jg j_4, k_4, h.2.1, z_18, if_pos (nI_le (by omega) (by omega))]
      refine ⟨w, rfl, zfA_rfl _ w, fun k hk => ?_⟩
      rw [h4 k hk, show i = (zvr hs 0).length by omega]
  | cons v rest ih =>
    intro n i w h h1 h2 h3 h4
    obtain ⟨g1, g2, g3⟩ := zvdrop h1
    simp only [List.length_cons] at h3
    obtain ⟨f1, f2, f3, f4⟩ := h.1 i v g1
    obtain ⟨f, x, x1, x2, x3, x4⟩ := zvr_inv hs 0 i v g1
    rw [Nat.zero_add] at x3
    obtain ⟨k0, k0l, k2⟩ := zHk hi (zHi_pos hi x1 x2) x1
    have vk : v.1 = nI k0 := by rw [x3]; exact k2
    cases n with
    | zero => cases h3
    | succ n =>
      unfold l_X12_ever_51
      have nx : 18100 + 4 * i + 4 = 18100 + 4 * (i + 1) := by omega
      rw [z_jg j_4, k_4, h.2.1, z_18, if_neg (nI_ge (by omega) (by omega)), nI_1, nI_p2, z_jg (z_in (by omega) (by decide)), nI_clamp (by omega), nI_clamp (by omega), f2, f3]
      simp only [z_jl, nI_p4, nx]
      have mono : ∀ k, zVe hs a b i k → zVe hs a b (i + 1) k := fun k ⟨j, u, z1, z2⟩ => ⟨j, u, by omega, z2⟩
      have back : ∀ k, (¬ (v.1 = nI k ∧ ¬ nI b < v.2.1 ∧ (v.2.2.1 = -2 ∨ ¬ v.2.2.1 ≤ nI a))) → zVe hs a b (i + 1) k → zVe hs a b i k := fun k hn ⟨j, u, z1, z2, z3, z4, z5⟩ => by
        refine ⟨j, u, ?_, z2, z3, z4, z5⟩
        rcases Nat.lt_or_ge j i with q | q
        · exact q
        · have : j = i := by omega
          subst this
          rw [g1] at z2
          cases z2
          exact absurd ⟨z3, z4, z5⟩ hn
      have skip : ¬ (¬ nI b < v.2.1 ∧ (v.2.2.1 = -2 ∨ ¬ v.2.2.1 ≤ nI a)) → ∃ w', l_X12_ever_51 n a1 a2 (nI a) (nI b) (nI (18100 + 4 * (i + 1))) w = l_X12_ever_135 jfu a1 a2 (nI a) (nI b) 0 a1 w' ∧ zfA 187 w w' ∧ ∀ k, k < 1000 → (w'.2.1 187 k < 0 ↔ ¬ zVe hs a b (zvr hs 0).length k) := fun hn => ih n (i + 1) w h g2 (by omega) (by omega) (fun k hk => by
        rw [h4 k hk]
        exact ⟨fun z q => z (back k (fun q2 => hn q2.2) q), fun z q => z (mono k q)⟩)
      have take : (¬ nI b < v.2.1 ∧ (v.2.2.1 = -2 ∨ ¬ v.2.2.1 ≤ nI a)) → ∃ w', l_X12_ever_51 n a1 a2 (nI a) (nI b) (nI (18100 + 4 * (i + 1))) (jsetX w 187 k0 (nI (18100 + 4 * i))) = l_X12_ever_135 jfu a1 a2 (nI a) (nI b) 0 a1 w' ∧ zfA 187 w w' ∧ ∀ k, k < 1000 → (w'.2.1 187 k < 0 ↔ ¬ zVe hs a b (zvr hs 0).length k) := fun hn => by
        obtain ⟨w', r1, r2, r3⟩ := ih n (i + 1) (jsetX w 187 k0 (nI (18100 + 4 * i))) (by show zMh hs ((jsetX w 187 k0 _).2.1 182); rw [z_jX2 (by decide)]; exact h) g2 (by omega) (by omega) (fun k hk => by
          rw [z_jX1]
          by_cases c : k = k0
          · rw [c, zup_eq]
            exact ⟨fun z => absurd z (nI_pos (by omega)), fun z => absurd ⟨i, v, by omega, g1, vk, hn.1, hn.2⟩ z⟩
          · rw [zup_ne c, h4 k hk]
            exact ⟨fun z q => z (back k (fun q2 => c ((nI_eq (by omega) (by omega)).mp (q2.1.symm.trans vk))) q), fun z q => z (mono k q)⟩)
        exact ⟨w', r1, zfA_trans (zfA_X w 187 k0 _) r2, r3⟩
      by_cases c1 : nI b < v.2.1
      · rw [if_pos c1]
        exact skip (fun z => z.1 c1)
      · rw [if_neg c1, z_jg (z_in (by omega) (by decide))]
        by_cases c2 : v.2.2.1 = -2
        · rw [if_pos c2, z_jg (z_in (by omega) (by decide)), nI_clamp (by omega), f1, vk, z_jg (z_in k0l (by decide)), nI_clamp (by omega)]
          exact take ⟨c1, Or.inl c2⟩
        · rw [if_neg c2, z_jg (z_in (by omega) (by decide))]
          by_cases c3 : v.2.2.1 ≤ nI a
          · rw [if_pos c3]
            exact skip (fun z => z.2.elim c2 (fun q => q c3))
          · rw [if_neg c3, z_jg (z_in (by omega) (by decide)), nI_clamp (by omega), f1, vk, z_jg (z_in k0l (by decide)), nI_clamp (by omega)]
            exact take ⟨c1, Or.inr c3⟩
theorem z_everM24 {hs : List zH} {a b : Nat} {a1 a2 : Int32} (hi : zHi hs) (hl : hs.length ≤ 3000) : ∀ (d n k0 : Nat) (w : jw), zMh hs (w.2.1 182) → k0 + d = 1000 → d < n → (∀ k, k < k0 → w.2.1 187 k = -1) → ∃ w', l_X12_ever_24 n a1 a2 (nI a) (nI b) (nI k0) w = l_X12_ever_135 jfu a1 a2 (nI a) (nI b) 0 a1 w' ∧ zfA 187 w w' ∧ ∀ k, k < 1000 → (w'.2.1 187 k < 0 ↔ ¬ zVe hs a b (zvr hs 0).length k) := by
  have vl := zvr_le hs
  intro d
  induction d with
  | zero =>
    intro n k0 w h h1 h2 h3
    cases n with
    | zero => cases h2
    | succ n =>
      unfold l_X12_ever_24
      rw [if_pos (show (1000 : Int32) ≤ nI k0 from nI_le (a := 1000) (by omega) (by omega))]
      exact z_everM51 hi hl (zvr hs 0) jfu 0 w h rfl (by omega) (by show _ < 40000; omega) (fun k hk => by
        rw [h3 k (by omega)]
        exact ⟨fun _ ⟨j, _, z, _⟩ => by omega, fun _ => z_m1⟩)
  | succ d ih =>
    intro n k0 w h h1 h2 h3
    cases n with
    | zero => cases h2
    | succ n =>
      unfold l_X12_ever_24
      rw [if_neg (show ¬ (1000 : Int32) ≤ nI k0 from nI_ge (b := 1000) (by omega) (by decide)), z_jg (z_in (by omega) (by decide)), nI_clamp (by omega)]
      simp only [z_jl, nI_1]
      obtain ⟨w', r1, r2, r3⟩ := ih n (k0 + 1) (jsetX w 187 k0 (-1)) (by show zMh hs ((jsetX w 187 k0 _).2.1 182); rw [z_jX2 (by decide)]; exact h) (by omega) (by omega) (fun k hk => by
        rw [z_jX1]
        by_cases c : k = k0
        · rw [c, zup_eq]
        · rw [zup_ne c]; exact h3 k (by omega))
      exact ⟨w', r1, zfA_trans (zfA_X w 187 k0 _) r2, r3⟩
theorem q_ever {S : zS} (hI : zIn S) (hl : S.2.2.2.2.length ≤ 2900) (a b c d : Int32) : zQ S (f_X11_ever a b c d) (f_X12_ever a b c d) := by
  have l0 := zHi_len hI.2
  cases h1 : (zik a && zik b) with
  | false => exact zQ_c (-1) (fun w hC => by unfold f_X11_ever; rw [z_isRangeC, z_jbd2, h1]; rfl) (fun w hM => by unfold f_X12_ever; rw [z_isRangeM, z_jbd2, h1]; rfl)
  | true =>
    cases h2 : zsp2 (S.2.2.2.2.length - 1) c d with
    | false => exact zQ_c (-1) (fun w hC => by unfold f_X11_ever; rw [z_isRangeC, z_jbd2, h1, if_neg (by decide), z_isSpanC c d hC hI, z_jbd2, h2]; rfl) (fun w hM => by unfold f_X12_ever; rw [z_isRangeM, z_jbd2, h1, if_neg (by decide), z_areTimes c d hM, z_jbd2, h2]; rfl)
    | true =>
      obtain ⟨t, u, t1, t2, t3, t4⟩ := zsp2_t (by omega) h2
      obtain ⟨ka, kb⟩ := zand h1
      obtain ⟨la, la1, la2⟩ := zik_t ka
      obtain ⟨lb, lb1, lb2⟩ := zik_t kb
      subst t3 t4 la2 lb2
      intro w wm hC hM
      obtain ⟨l, e1, e2, e3⟩ := z_fillTable_59 (τ := t) hC.2.2 hI.2 (by omega) (by omega)
      obtain ⟨l', r1, r2⟩ := z_everC_l (a := t) (b := u) (a1 := nI la) (a2 := nI lb) hI.2 (by omega) (by omega) (u - t) jfu (t + 1) (jsetR w 59 l) (zCh_59 hC.2.2) (by omega) (by omega) (by show _ < 40000; omega) (by rw [z_jR1]; exact e2) (fun k hk => by
        rw [z_jR1, e3 k hk, ztab (by omega), show t + 1 - 1 = t by omega]
        constructor
        · rintro z (q | ⟨f, _, f1, f2, _⟩)
          · rw [z] at q; cases q
          · omega
        · intro z
          cases q : zp S.2.2.2.2 t k with
          | false => rfl
          | true => exact absurd (Or.inl q) z)
      rw [z_jRR] at r1
      obtain ⟨w1, d1, d2, d3⟩ := z_everM24 (a := t) (b := u) (a1 := nI la) (a2 := nI lb) hI.2 (by omega) 1000 jfu 0 wm hM.2.2.1 rfl (by show _ < 40000; omega) (fun k hk => by omega)
      refine ⟨zcn (fun k => !decide (l'.getD k 0 = -1)) (lb + 1 - la) la 0, jsetR w 59 l', w1, ?_, zfQc_R (Or.inl rfl), ?_, zfQm_A (Or.inl rfl) d2⟩
      · unfold f_X11_ever f_X3_livingWithin
        rw [z_isRangeC, z_jbd2, h1, if_neg (by decide), z_isSpanC _ _ hC hI, z_jbd2, h2, if_neg (by decide), e1, z_jbd, z_jl, nI_1, r1, z_cntC_l (p := fun k => !decide (l'.getD k 0 = -1)) lb1 (fun k hk => by rw [z_jR1]; simp) (lb + 1 - la) jfu la 0 rfl (by omega) (by show _ < 40000; omega), z_jbd2]
      · unfold f_X12_ever
        rw [z_isRangeM, z_jbd2, h1, if_neg (by decide), z_areTimes _ _ hM, z_jbd2, h2, if_neg (by decide)]
        refine Eq.trans d1 ?_
        exact z_cntM_l lb1 (fun k hk => by
          rw [d3 k hk, zVWe hI.2 (by omega) t1 (by omega), ← r2 k hk]
          simp) (lb + 1 - la) jfu la 0 rfl (by omega) (by show _ < 40000; omega)
end
