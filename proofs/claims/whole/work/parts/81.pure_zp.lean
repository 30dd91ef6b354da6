section
/-! peak -/
def zpk (D : Nat → Int32) : Nat → Nat → Int32 → Int32 → Int32 → Int32 × Int32
  | 0, _, _, b, wh => (b, wh)
  | d + 1, f, now, b, wh => if now + D f ≤ b then zpk D d (f + 1) (now + D f) b wh else zpk D d (f + 1) (now + D f) (now + D f) (nI f)
theorem zpk_c {D D' : Nat → Int32} : ∀ (d f : Nat) (now b wh : Int32), (∀ i, f ≤ i → i < f + d → D i = D' i) → zpk D d f now b wh = zpk D' d f now b wh := by
  intro d
  induction d with
  | zero => intro f now b wh _; rfl
  | succ d ih =>
    intro f now b wh h
    unfold zpk
    rw [h f (by omega) (by omega), ih (f + 1) _ _ _ (fun i i1 i2 => h i (by omega) (by omega)), ih (f + 1) _ _ _ (fun i i1 i2 => h i (by omega) (by omega))]
theorem zpk_0 {D : Nat → Int32} {L : Nat} (h : 0 < L) (h0 : D 0 = 0) : zpk D L 0 0 0 0 = zpk D (L - 1) 1 0 0 0 := by
  obtain ⟨m, e⟩ : ∃ m, L = m + 1 := ⟨L - 1, by omega⟩
  subst e
  rw [show m + 1 - 1 = m by omega]
  show (if (0 : Int32) + D 0 ≤ 0 then zpk D m 1 (0 + D 0) 0 0 else zpk D m 1 (0 + D 0) (0 + D 0) (nI 0)) = _
  rw [h0, if_pos (by decide)]
  rfl
def zpd (hs : List zH) (la lb f : Nat) : Int32 := if (hs.getD f (0, 0, 0, 0)).2.1 < nI la then 0 else if nI lb < (hs.getD f (0, 0, 0, 0)).2.1 then 0 else (hs.getD f (0, 0, 0, 0)).1 - (if (zlf hs (hs.getD f (0, 0, 0, 0)).2.1 (f - 1)).isSome = true then 1 else 0)
theorem z_peakC_l {hs : List zH} {la lb : Nat} {a3 : Int32} (hi : zHi hs) (hl : hs.length ≤ 3000) : ∀ (d n f : Nat) (now b wh : Int32) (w : jw), zCh hs w → f + d = hs.length → 1 ≤ f → d < n → (w.2.2.2 59).length = 1000 → (∀ k, k < 1000 → ¬ nI k < nI la → ¬ nI lb < nI k → (w.2.2.2 59).getD k 0 = ztm hs k (f - 1)) →
    ∃ l : List Int32, l_X3_mostLiving n (nI la) (nI lb) a3 now b wh (nI f) w = some (if a3 = 0 then (zpk (zpd hs la lb) d f now b wh).2 else (zpk (zpd hs la lb) d f now b wh).1, jsetR w 59 l) := by
  intro d
  induction d with
  | zero =>
    intro n f now b wh w hC h1 h2 h3 h4 h5
    cases n with
    | zero => cases h3
    | succ n =>
      unfold l_X3_mostLiving
      rw [hC.1, List.length_map, if_pos (nI_le (by omega) (by omega))]
      refine ⟨w.2.2.2 59, ?_⟩
      rw [z_jRs]
      unfold zpk
      by_cases c : a3 = 0
      · rw [if_pos c, if_pos c]
      · rw [if_neg c, if_neg c]
  | succ d ih =>
    intro n f now b wh w hC h1 h2 h3 h4 h5
    cases n with
    | zero => cases h3
    | succ n =>
      have hx := List.getElem?_eq_getElem (show f < hs.length by omega)
      generalize hh : hs[f] = h at hx
      obtain ⟨k0, k1, k2⟩ := zHk hi h2 hx
      obtain ⟨pp, _⟩ := hi.2.2.1 f h h2 hx
      have oth : ∀ k, k < 1000 → k ≠ k0 → ztm hs k f = ztm hs k (f - 1) := fun k hk c => by
        unfold ztm zp
        rw [zlf_st h2 hx, if_neg (show ¬ h.2.1 = nI k from fun z => c ((nI_eq (by omega) (by omega)).mp (z.symm.trans k2)))]
      have own : ztm hs k0 f = h.1 := by
        unfold ztm zp
        rw [zlf_st h2 hx, if_pos k2]
        rcases pp with p | p
        · rw [p, if_neg (show ¬ (0 : Int32) = 1 by decide)]; rfl
        · rw [p, if_pos rfl]; rfl
      unfold l_X3_mostLiving
      rw [hC.1, List.length_map, if_neg (nI_ge (by omega) (by omega)), z_rat (by omega), z_rat (by omega), hC.2.1, z_gm hx, z_gm hx, k2]
      simp only [z_jl, nI_1]
      have e : zpd hs la lb f = if nI k0 < nI la then 0 else if nI lb < nI k0 then 0 else h.1 - ztm hs k0 (f - 1) := by
        unfold zpd ztm zp
        rw [z_gd0 hx, k2]
      unfold zpk
      rw [e]
      by_cases c1 : nI k0 < nI la
      · rw [if_pos c1, if_pos c1, Int32.add_zero]
        have R : ∀ b wh, ∃ l : List Int32, l_X3_mostLiving n (nI la) (nI lb) a3 now b wh (nI (f + 1)) w = some (if a3 = 0 then (zpk (zpd hs la lb) d (f + 1) now b wh).2 else (zpk (zpd hs la lb) d (f + 1) now b wh).1, jsetR w 59 l) := fun b wh => ih n (f + 1) now b wh w hC (by omega) (by omega) (by omega) h4 (fun k hk q1 q2 => by
          rw [show f + 1 - 1 = f by omega, oth k hk (fun z => by rw [z] at q1; exact q1 c1)]
          exact h5 k hk q1 q2)
        by_cases c3 : now ≤ b
        · rw [if_pos c3, if_pos c3]; exact R b wh
        · rw [if_neg c3, if_neg c3]; exact R now (nI f)
      · rw [if_neg c1, if_neg c1]
        by_cases c2 : nI lb < nI k0
        · rw [if_pos c2, if_pos c2, Int32.add_zero]
          have R : ∀ b wh, ∃ l : List Int32, l_X3_mostLiving n (nI la) (nI lb) a3 now b wh (nI (f + 1)) w = some (if a3 = 0 then (zpk (zpd hs la lb) d (f + 1) now b wh).2 else (zpk (zpd hs la lb) d (f + 1) now b wh).1, jsetR w 59 l) := fun b wh => ih n (f + 1) now b wh w hC (by omega) (by omega) (by omega) h4 (fun k hk q1 q2 => by
            rw [show f + 1 - 1 = f by omega, oth k hk (fun z => by rw [z] at q2; exact q2 c2)]
            exact h5 k hk q1 q2)
          by_cases c3 : now ≤ b
          · rw [if_pos c3, if_pos c3]; exact R b wh
          · rw [if_neg c3, if_neg c3]; exact R now (nI f)
        · rw [if_neg c2, if_neg c2, z_rat (by omega), z_rset (by omega), h5 k0 k1 c1 c2]
          have R : ∀ now b wh, ∃ l : List Int32, l_X3_mostLiving n (nI la) (nI lb) a3 now b wh (nI (f + 1)) (jsetR w 59 ((w.2.2.2 59).set k0 h.1)) = some (if a3 = 0 then (zpk (zpd hs la lb) d (f + 1) now b wh).2 else (zpk (zpd hs la lb) d (f + 1) now b wh).1, jsetR w 59 l) := fun now b wh => by
            obtain ⟨l, r⟩ := ih n (f + 1) now b wh (jsetR w 59 ((w.2.2.2 59).set k0 h.1)) (zCh_59 hC) (by omega) (by omega) (by omega) (by rw [z_jR1, List.length_set]; exact h4) (fun k hk q1 q2 => by
              rw [show f + 1 - 1 = f by omega, z_jR1, z_gset _ _ _ (by omega)]
              by_cases c : k = k0
              · rw [if_pos c, c, own]
              · rw [if_neg c, oth k hk c]
                exact h5 k hk q1 q2)
            exact ⟨l, by rw [r, z_jRR]⟩
          by_cases c3 : now + (h.1 - ztm hs k0 (f - 1)) ≤ b
          · rw [if_pos c3, if_pos c3]; exact R _ b wh
          · rw [if_neg c3, if_neg c3]; exact R _ _ (nI f)
def zdv (la lb j : Nat) (v : zE) : Int32 := if v.1 < nI la then 0 else if nI lb < v.1 then 0 else (if v.2.1 = nI j then 1 else 0) + (if v.2.2.1 = nI j then -1 else 0)
theorem z_inc {w : jw} {i j : Nat} {y : Int32} (hi : i < 2 ^ 31) (hj : j < 2 ^ 31) : (jsetX w 189 i (w.2.1 189 i + y)).2.1 189 j = w.2.1 189 j + (if nI i = nI j then y else 0) := by
  rw [z_jX1]
  by_cases c : i = j
  · rw [c, zup_eq, if_pos rfl]
  · rw [zup_ne (fun z => c z.symm), if_neg (fun z => c ((nI_eq hi hj).mp z)), Int32.add_zero]
theorem z_peakM59 {hs : List zH} {la lb : Nat} {a3 b4 b5 b6 : Int32} (hi : zHi hs) (hl : hs.length ≤ 3000) : ∀ (rest : List zE) (n i : Nat) (w : jw), zMh hs (w.2.1 182) → (zvr hs 0).drop i = rest → i ≤ (zvr hs 0).length → rest.length < n →
    ∃ w', l_X12_peak_59 n (nI la) (nI lb) a3 b4 b5 b6 (nI (18100 + 4 * i)) w = l_X12_peak_153 jfu (nI la) (nI lb) a3 b4 b5 b6 0 w' ∧ zfA 189 w w' ∧ ∀ j, j < 7800 → w'.2.1 189 j = w.2.1 189 j + zLs (zdv la lb j) rest := by
  have vl := zvr_le hs
  intro rest
  induction rest with
  | nil =>
    intro n i w h h1 h2 h3
    have hii : (zvr hs 0).length ≤ i := by simpa using h1
    cases n with
    | zero => cases h3
    | succ n =>
      unfold l_X12_peak_59
      rw [z_jg j_4, k_4, h.2.1, z_18, if_pos (nI_le (by omega) (by omega))]
      exact ⟨w, rfl, zfA_rfl _ w, fun k hk => (Int32.add_zero _).symm⟩
  | cons v rest ih =>
    intro n i w h h1 h2 h3
    obtain ⟨g1, g2, g3⟩ := zvdrop h1
    simp only [List.length_cons] at h3
    obtain ⟨f1, f2, f3, f4⟩ := h.1 i v g1
    obtain ⟨f, x, x1, x2, x3, x4⟩ := zvr_inv hs 0 i v g1
    rw [Nat.zero_add] at x3
    have fl := (List.getElem?_eq_some_iff.mp x1).1
    have vf : v.2.1 = nI f := by rw [x3]; rfl
    have ve : v.2.2.1 = x.2.2.2 := by rw [x3]; rfl
    cases n with
    | zero => cases h3
    | succ n =>
      unfold l_X12_peak_59
      have nx : 18100 + 4 * i + 4 = 18100 + 4 * (i + 1) := by omega
      rw [z_jg j_4, k_4, h.2.1, z_18, if_neg (nI_ge (by omega) (by omega)), z_jg (z_in (by omega) (by decide)), nI_clamp (by omega), f1, z_inM, z_jbd2]
      simp only [z_jl, nI_p4, nx]
      have skip : zdv la lb = zdv la lb → (∀ j, zdv la lb j v = 0) → ∃ w', l_X12_peak_59 n (nI la) (nI lb) a3 b4 b5 b6 (nI (18100 + 4 * (i + 1))) w = l_X12_peak_153 jfu (nI la) (nI lb) a3 b4 b5 b6 0 w' ∧ zfA 189 w w' ∧ ∀ j, j < 7800 → w'.2.1 189 j = w.2.1 189 j + zLs (zdv la lb j) (v :: rest) := fun _ q => by
        obtain ⟨w', r1, r2, r3⟩ := ih n (i + 1) w h g2 (by omega) (by omega)
        refine ⟨w', r1, r2, fun j hj => ?_⟩
        show _ = _ + (zdv la lb j v + zLs (zdv la lb j) rest)
        rw [r3 j hj, q j, Int32.zero_add]
      by_cases c1 : v.1 < nI la
      · rw [if_pos c1, if_pos (show jb false = 0 from rfl)]
        exact skip rfl (fun j => if_pos c1)
      · rw [if_neg c1]
        by_cases c2 : nI lb < v.1
        · rw [if_pos c2, if_pos (show jb false = 0 from rfl)]
          exact skip rfl (fun j => by unfold zdv; rw [if_neg c1, if_pos c2])
        · rw [if_neg c2, if_neg (show ¬ jb true = 0 by decide), nI_1, z_jg (z_in (by omega) (by decide)), nI_clamp (by omega), f2, vf, z_jg (z_in (by omega) (by decide)), z_jg (z_in (by omega) (by decide)), nI_clamp (by omega), nI_p2, z_jg (z_in (by omega) (by decide)), nI_clamp (by omega), show (jsetX w 189 f (w.2.1 189 f + 1)).2.1 182 = w.2.1 182 from z_jX2 (by decide), f3]
          have dv : ∀ j, zdv la lb j v = (if nI f = nI j then 1 else 0) + (if v.2.2.1 = nI j then -1 else 0) := fun j => by unfold zdv; rw [if_neg c1, if_neg c2, vf]
          have h' : zMh hs ((jsetX w 189 f (w.2.1 189 f + 1)).2.1 182) := by rw [z_jX2 (by decide)]; exact h
          rcases hi.2.2.2 f x x1 x2 with ⟨z, _⟩ | ⟨e, y, e1, e2, e3, _⟩
          · rw [if_pos (show v.2.2.1 = -2 by rw [ve]; exact z)]
            obtain ⟨w', r1, r2, r3⟩ := ih n (i + 1) _ h' g2 (by omega) (by omega)
            refine ⟨w', r1, zfA_trans (zfA_X w 189 f _) r2, fun j hj => ?_⟩
            show _ = _ + (zdv la lb j v + zLs (zdv la lb j) rest)
            rw [r3 j hj, z_inc (by omega) (by omega), dv j, if_neg (show ¬ v.2.2.1 = nI j by rw [ve, z]; exact fun q => z_nm2 (n := j) (by omega) q.symm), Int32.add_zero, Int32.add_assoc]
          · have el := (List.getElem?_eq_some_iff.mp e2).1
            have ve' : v.2.2.1 = nI e := by rw [ve]; exact e3
            rw [if_neg (show ¬ v.2.2.1 = -2 by rw [ve']; exact z_nm2 (by omega)), ve', z_jg (z_in (by omega) (by decide)), z_jg (z_in (by omega) (by decide)), z_jg (z_in (by omega) (by decide)), nI_clamp (by omega)]
            have h'' : zMh hs ((jsetX (jsetX w 189 f (w.2.1 189 f + 1)) 189 e ((jsetX w 189 f (w.2.1 189 f + 1)).2.1 189 e - 1)).2.1 182) := by rw [z_jX2 (by decide)]; exact h'
            obtain ⟨w', r1, r2, r3⟩ := ih n (i + 1) _ h'' g2 (by omega) (by omega)
            refine ⟨w', r1, zfA_trans (zfA_trans (zfA_X w 189 f _) (zfA_X _ 189 e _)) r2, fun j hj => ?_⟩
            show _ = _ + (zdv la lb j v + zLs (zdv la lb j) rest)
            rw [r3 j hj, Int32.sub_eq_add_neg, z_inc (by omega) (by omega), z_inc (by omega) (by omega), dv j, ve', Int32.add_assoc, Int32.add_assoc, Int32.add_assoc]
theorem z_peakM32 {hs : List zH} {la lb : Nat} {a3 b4 b5 b6 : Int32} (hi : zHi hs) (hl : hs.length ≤ 3000) : ∀ (d n k0 : Nat) (w : jw), zMh hs (w.2.1 182) → k0 + d = 7800 → d < n → (∀ k, k < k0 → w.2.1 189 k = 0) → ∃ w', l_X12_peak_32 n (nI la) (nI lb) a3 b4 b5 b6 (nI k0) w = l_X12_peak_153 jfu (nI la) (nI lb) a3 b4 b5 b6 0 w' ∧ zfA 189 w w' ∧ ∀ j, j < 7800 → w'.2.1 189 j = zLs (zdv la lb j) (zvr hs 0) := by
  have vl := zvr_le hs
  intro d
  induction d with
  | zero =>
    intro n k0 w h h1 h2 h3
    cases n with
    | zero => cases h2
    | succ n =>
      unfold l_X12_peak_32
      rw [if_pos (show (7800 : Int32) ≤ nI k0 from nI_le (a := 7800) (by omega) (by omega))]
      obtain ⟨w', r1, r2, r3⟩ := z_peakM59 (la := la) (lb := lb) (a3 := a3) (b4 := b4) (b5 := b5) (b6 := b6) hi hl (zvr hs 0) jfu 0 w h rfl (by omega) (by show _ < 40000; omega)
      exact ⟨w', r1, r2, fun k hk => by rw [r3 k hk, h3 k (by omega), Int32.zero_add]⟩
  | succ d ih =>
    intro n k0 w h h1 h2 h3
    cases n with
    | zero => cases h2
    | succ n =>
      unfold l_X12_peak_32
      rw [if_neg (show ¬ (7800 : Int32) ≤ nI k0 from nI_ge (b := 7800) (by omega) (by decide)), z_jg (z_in (by omega) (by decide)), nI_clamp (by omega)]
      simp only [z_jl, nI_1]
      obtain ⟨w', r1, r2, r3⟩ := ih n (k0 + 1) (jsetX w 189 k0 0) (by show zMh hs ((jsetX w 189 k0 _).2.1 182); rw [z_jX2 (by decide)]; exact h) (by omega) (by omega) (fun k hk => by
        rw [z_jX1]
        by_cases c : k = k0
        · rw [c, zup_eq]
        · rw [zup_ne c]; exact h3 k (by omega))
      exact ⟨w', r1, zfA_trans (zfA_X w 189 k0 _) r2, r3⟩
theorem z_peakM153 {D : Nat → Int32} {w : jw} {a1 a2 a3 : Int32} {L : Nat} (hl : L ≤ 3000) (l0 : 0 < L) (hN : w.2.1 182 0 = nI (L - 1)) (hD : ∀ j, j < 7800 → w.2.1 189 j = D j) : ∀ (d n f : Nat) (wh b now : Int32), f + d = L → d < n → l_X12_peak_153 n a1 a2 a3 wh b now (nI f) w = some (if a3 = 0 then (zpk D d f now b wh).2 else (zpk D d f now b wh).1, w) := by
  intro d
  induction d with
  | zero =>
    intro n f wh b now h1 h2
    cases n with
    | zero => cases h2
    | succ n =>
      unfold l_X12_peak_153
      rw [z_jg j_0, k_0, hN, if_pos (nI_lt (by omega) (by omega))]
      unfold zpk
      by_cases c : a3 = 0
      · rw [if_pos c, if_pos c]
      · rw [if_neg c, if_neg c]
  | succ d ih =>
    intro n f wh b now h1 h2
    cases n with
    | zero => cases h2
    | succ n =>
      unfold l_X12_peak_153 zpk
      rw [z_jg j_0, k_0, hN, if_neg (nI_nlt (by omega) (by omega)), z_jg (z_in (by omega) (by decide)), nI_clamp (by omega), hD f (by omega)]
      simp only [z_jl, nI_1]
      by_cases c : now + D f ≤ b
      · rw [if_neg (Int32.not_lt.mpr c), if_pos c]
        exact ih n (f + 1) _ _ _ (by omega) (by omega)
      · rw [if_pos (Int32.not_le.mp c), if_neg c]
        exact ih n (f + 1) _ _ _ (by omega) (by omega)
/-- an end is the next time of the same key -/
theorem zend {hs : List zH} (hi : zHi hs) (hl : hs.length ≤ 3000) {g j : Nat} {x y : zH} (hx : hs[g]? = some x) (hp : zpt x = true) (hy : hs[j]? = some y) (j1 : 1 ≤ j) : x.2.2.2 = nI j ↔ zlf hs y.2.1 (j - 1) = some g := by
  have gl := (List.getElem?_eq_some_iff.mp hx).1
  have jl := (List.getElem?_eq_some_iff.mp hy).1
  constructor
  · intro e
    rcases hi.2.2.2 g x hx hp with ⟨z, _⟩ | ⟨i, y', i1, i2, i3, i4, i5⟩
    · rw [z] at e; exact absurd e.symm (z_nm2 (by omega))
    · have il := (List.getElem?_eq_some_iff.mp i2).1
      have : i = j := (nI_eq (by omega) (by omega)).mp (i3.symm.trans e)
      subst this
      rw [hy] at i2
      cases i2
      exact zlf_of _ g x (zHi_pos hi hx hp) (by omega) hx hp i4.symm (fun m z m1 m2 m3 => by rw [i4]; exact i5 m z m1 (by omega) m3)
  · intro e
    obtain ⟨q1, q2, ⟨x', q3, q4, q5⟩, q6⟩ := zlf_some _ _ e
    rw [hx] at q3
    cases q3
    rcases hi.2.2.2 g x hx hp with ⟨_, z⟩ | ⟨i, y', i1, i2, i3, i4, i5⟩
    · exact absurd q5.symm (z j y (by omega) hy)
    · rw [i3]
      have : i = j := by
        rcases Nat.lt_trichotomy i j with c | c | c
        · exact absurd (i4.trans q5) (q6 i y' i1 (by omega) i2)
        · exact c
        · exact absurd q5.symm (i5 j y (by omega) c hy)
      rw [this]
theorem zpd_eq {hs : List zH} {la lb j : Nat} (hi : zHi hs) (hl : hs.length ≤ 3000) (j1 : 1 ≤ j) (jl : j < hs.length) : zLs (zdv la lb j) (zvr hs 0) = zpd hs la lb j := by
  have hy := List.getElem?_eq_getElem jl
  generalize hh : hs[j] = y at hy
  obtain ⟨pp, _⟩ := hi.2.2.1 j y j1 hy
  have key : ∀ g x, hs[g]? = some x → zlf hs y.2.1 (j - 1) = some g → x.2.1 = y.2.1 := fun g x hx z => by
    obtain ⟨_, _, ⟨x', q3, q4, q5⟩, _⟩ := zlf_some _ _ z
    rw [hx] at q3
    cases q3
    exact q5
  rw [zLs_su (hs := hs) hs 0 rfl]
  have A : zSu (fun f => if zpt (hs.getD f (0, 0, 0, 0)) = true then zdv la lb j (zver f (hs.getD f (0, 0, 0, 0))) else 0) hs.length 0 = zSu (fun f => (if f = j then (if y.2.1 < nI la then 0 else if nI lb < y.2.1 then 0 else y.1) else 0) + (if zlf hs y.2.1 (j - 1) = some f then (if y.2.1 < nI la then 0 else if nI lb < y.2.1 then 0 else -1) else 0)) hs.length 0 := zSu_c _ _ (fun g _ gl => by
    rw [Nat.zero_add] at gl
    have hx := List.getElem?_eq_getElem gl
    generalize hh' : hs[g] = x at hx
    rw [z_gd0 hx]
    by_cases c : zpt x = true
    · rw [if_pos c]
      have ze := zend hi hl hx c hy j1
      show (if x.2.1 < nI la then 0 else if nI lb < x.2.1 then 0 else (if nI g = nI j then 1 else 0) + (if x.2.2.2 = nI j then -1 else 0)) = _
      have gj : (nI g = nI j) ↔ g = j := nI_eq (by omega) (by omega)
      simp only [gj, ze]
      by_cases c1 : g = j
      · subst c1
        rw [hx] at hy
        cases hy
        have n1 : ¬ zlf hs y.2.1 (g - 1) = some g := fun z => by have := (zlf_some _ _ z).2.1; omega
        have p1 : y.1 = 1 := by simpa [zpt] using c
        rw [if_pos rfl, if_pos rfl, if_neg n1, if_neg n1, p1, Int32.add_zero, Int32.add_zero]
      · rw [if_neg c1, if_neg c1, Int32.zero_add, Int32.zero_add]
        by_cases c2 : zlf hs y.2.1 (j - 1) = some g
        · rw [if_pos c2, if_pos c2, key g x hx c2]
        · rw [if_neg c2, if_neg c2]
          split
          · rfl
          · split <;> rfl
    · rw [if_neg c]
      have n1 : ¬ zlf hs y.2.1 (j - 1) = some g := fun z => by
        obtain ⟨_, _, ⟨x', q3, q4, q5⟩, _⟩ := zlf_some _ _ z
        rw [hx] at q3
        cases q3
        exact c q4
      rw [if_neg n1, Int32.add_zero]
      by_cases c1 : g = j
      · subst c1
        rw [hx] at hy
        cases hy
        have p1 : y.1 = 0 := by
          rcases pp with p | p
          · exact p
          · exact absurd (by simp [zpt, p]) c
        rw [if_pos rfl, p1]
        split
        · rfl
        · split <;> rfl
      · rw [if_neg c1])
  rw [A, zSu_a, zSu_1 (j := j) _ _ (Nat.zero_le _) (by omega) (fun i _ _ i3 => if_neg i3), if_pos rfl]
  unfold zpd
  rw [z_gd0 hy]
  cases hz : zlf hs y.2.1 (j - 1) with
  | none =>
    rw [zSu_0 _ _ (fun i _ _ => if_neg (fun z => by cases z)), Int32.add_zero]
    simp
  | some g =>
    have gl := (zlf_some _ _ hz).2.1
    rw [zSu_1 (j := g) _ _ (Nat.zero_le _) (by omega) (fun i _ _ i3 => if_neg (fun z => i3 (Option.some.inj z).symm)), if_pos rfl]
    simp only [Option.isSome_some, if_true]
    by_cases c1 : y.2.1 < nI la
    · rw [if_pos c1, if_pos c1, if_pos c1]; rfl
    · rw [if_neg c1, if_neg c1, if_neg c1]
      by_cases c2 : nI lb < y.2.1
      · rw [if_pos c2, if_pos c2, if_pos c2]; rfl
      · rw [if_neg c2, if_neg c2, if_neg c2, Int32.sub_eq_add_neg]
theorem zpd_0 {hs : List zH} {la lb : Nat} (hi : zHi hs) (hl : hs.length ≤ 3000) : zLs (zdv la lb 0) (zvr hs 0) = 0 := by
  rw [zLs_su (hs := hs) hs 0 rfl]
  refine zSu_0 _ _ (fun g _ gl => ?_)
  rw [Nat.zero_add] at gl
  have hx := List.getElem?_eq_getElem gl
  generalize hh' : hs[g] = x at hx
  rw [z_gd0 hx]
  by_cases c : zpt x = true
  · rw [if_pos c]
    have g1 := zHi_pos hi hx c
    show (if x.2.1 < nI la then 0 else if nI lb < x.2.1 then 0 else (if nI g = nI 0 then 1 else 0) + (if x.2.2.2 = nI 0 then -1 else 0)) = 0
    have n1 : ¬ nI g = nI 0 := fun z => by have := (nI_eq (by omega) (by omega)).mp z; omega
    have n2 : ¬ x.2.2.2 = nI 0 := fun z => by
      rcases hi.2.2.2 g x hx c with ⟨q, _⟩ | ⟨i, y', i1, i2, i3, _⟩
      · rw [q] at z; exact absurd z.symm (z_nm2 (by omega))
      · have il := (List.getElem?_eq_some_iff.mp i2).1
        have := (nI_eq (by omega) (by omega)).mp (i3.symm.trans z)
        omega
    rw [if_neg n1, if_neg n2]
    split
    · rfl
    · split <;> rfl
  · rw [if_neg c]
theorem q_peak {S : zS} (hI : zIn S) (hl : S.2.2.2.2.length ≤ 2900) (a b c : Int32) : zQ S (f_X11_peak a b c) (f_X12_peak a b c) := by
  have l0 := zHi_len hI.2
  cases h1 : (zik a && zik b) with
  | false => exact zQ_c (-1) (fun w hC => by unfold f_X11_peak; rw [z_isRangeC, z_jbd2, h1]; rfl) (fun w hM => by unfold f_X12_peak; rw [z_isRangeM, z_jbd2, h1]; rfl)
  | true =>
    cases h2 : zei c with
    | false => exact zQ_c (-1) (fun w hC => by unfold f_X11_peak; rw [z_isRangeC, z_jbd2, h1, if_neg (by decide), z_isEitherC, z_jbd2, h2]; rfl) (fun w hM => by unfold f_X12_peak; rw [z_isRangeM, z_jbd2, h1, if_neg (by decide), z_in01, z_jbd2, h2]; rfl)
    | true =>
      obtain ⟨ka, kb⟩ := zand h1
      obtain ⟨la, la1, la2⟩ := zik_t ka
      obtain ⟨lb, lb1, lb2⟩ := zik_t kb
      subst la2 lb2
      intro w wm hC hM
      obtain ⟨l, r1⟩ := z_peakC_l (la := la) (lb := lb) (a3 := c) hI.2 (by omega) (S.2.2.2.2.length - 1) jfu 1 0 0 0 (jsetR w 59 (List.replicate 1000 0)) (zCh_59 hC.2.2) (by omega) (by omega) (by show _ < 40000; omega) (by rw [z_jR1, List.length_replicate]) (fun k hk _ _ => by rw [z_jR1, z_rep hk]; rfl)
      rw [z_jRR] at r1
      obtain ⟨w1, d1, d2, d3⟩ := z_peakM32 (la := la) (lb := lb) (a3 := c) (b4 := 0) (b5 := 0) (b6 := 0) hI.2 (by omega) 7800 jfu 0 wm hM.2.2.1 rfl (by show _ < 40000; omega) (fun k hk => by omega)
      have e := z_peakM153 (w := w1) (a1 := nI la) (a2 := nI lb) (a3 := c) (L := S.2.2.2.2.length) (by omega) l0 (by rw [d2.2.2 182 (by decide)]; exact hM.2.2.2) d3 S.2.2.2.2.length jfu 0 0 0 0 (by omega) (by show _ < 40000; omega)
      have ee : zpk (fun j => zLs (zdv la lb j) (zvr S.2.2.2.2 0)) S.2.2.2.2.length 0 0 0 0 = zpk (zpd S.2.2.2.2 la lb) (S.2.2.2.2.length - 1) 1 0 0 0 := by
        rw [zpk_0 l0 (zpd_0 hI.2 (by omega))]
        exact zpk_c _ _ _ _ _ (fun i i1 i2 => zpd_eq hI.2 (by omega) i1 (by omega))
      rw [ee] at e
      generalize (if c = 0 then (zpk (zpd S.2.2.2.2 la lb) (S.2.2.2.2.length - 1) 1 0 0 0).2 else (zpk (zpd S.2.2.2.2 la lb) (S.2.2.2.2.length - 1) 1 0 0 0).1) = v at e r1
      refine ⟨v, jsetR w 59 l, w1, ?_, zfQc_R (Or.inl rfl), ?_, zfQm_A (Or.inr (Or.inr (Or.inl rfl))) d2⟩
      rotate_left
      · unfold f_X12_peak
        rw [z_isRangeM, z_jbd2, h1, if_neg (by decide), z_in01, z_jbd2, h2, if_neg (by decide)]
        exact d1.trans e
      · unfold f_X11_peak f_X3_mostLiving
        rw [z_isRangeC, z_jbd2, h1, if_neg (by decide), z_isEitherC, z_jbd2, h2, if_neg (by decide), z_jl]
        exact (congrArg (fun o => jbd2 o _) r1).trans (z_jbd2 _ _ _)
end
