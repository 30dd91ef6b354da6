section
theorem zof_m {o : Option Nat} (h : ∀ f, o = some f → f < 2 ^ 31) : zof o = -1 ↔ o.isSome = false := by
  cases o with
  | none => exact ⟨fun _ => rfl, fun _ => rfl⟩
  | some f => exact ⟨fun z => absurd z (z_nm1 (h f rfl)), fun z => by cases z⟩
theorem zva_m {o : Option Nat} (h : ∀ f, o = some f → f < 100000) : 0 ≤ zva o ↔ o.isSome = true := by
  cases o with
  | none => exact ⟨fun z => absurd z (by show ¬ (0 : Int32) ≤ -1; decide), fun z => by cases z⟩
  | some f => exact ⟨fun _ => rfl, fun _ => nI_pos' (by have := h f rfl; omega)⟩
theorem zva_n {o : Option Nat} (h : ∀ f, o = some f → f < 100000) : zva o < 0 ↔ o.isSome = false := by
  cases o with
  | none => exact ⟨fun _ => rfl, fun _ => z_m1⟩
  | some f => exact ⟨fun z => absurd z (nI_pos (by have := h f rfl; omega)), fun z => by cases z⟩
def zp (hs : List zH) (τ k : Nat) : Bool := (zlf hs (nI k) τ).isSome
theorem zlf_b {hs : List zH} {k : Int32} {τ : Nat} (hτ : τ < 100000) : ∀ f, zlf hs k τ = some f → f < 2 ^ 31 := fun f hf => by have := (zlf_some _ _ hf).2.1; omega
theorem zix_b {hs : List zH} {k : Int32} {τ : Nat} (hl : hs.length ≤ 3000) : ∀ f, (zlf hs k τ).map (zix hs) = some f → f < 100000 := fun f hf => by
  obtain ⟨g, g1, g2⟩ := Option.map_eq_some_iff.mp hf
  have := zix_le hs g
  omega
theorem ztab {hs : List zH} {τ k : Nat} (hτ : τ < 100000) : zof (zlf hs (nI k) τ) = -1 ↔ zp hs τ k = false := zof_m (zlf_b hτ)
theorem zarr {hs : List zH} {τ k : Nat} (hl : hs.length ≤ 3000) : 0 ≤ zva ((zlf hs (nI k) τ).map (zix hs)) ↔ zp hs τ k = true := by
  rw [zva_m (zix_b hl), Option.isSome_map]
  rfl
theorem zarrn {hs : List zH} {τ k : Nat} (hl : hs.length ≤ 3000) : zva ((zlf hs (nI k) τ).map (zix hs)) < 0 ↔ zp hs τ k = false := by
  rw [zva_n (zix_b hl), Option.isSome_map]
  rfl
/-- the key by rank -/
def zrk (p : Nat → Bool) : Nat → Nat → Int32 → Int32
  | 0, _, _ => -2
  | d + 1, k, left => if p k = true then (if left = 0 then nI k else zrk p d (k + 1) (left + (-1))) else zrk p d (k + 1) left
theorem z_nthC_l {p : Nat → Bool} {w : jw} {a1 a2 : Int32} (h : ∀ k, k < 1000 → ((w.2.2.2 59).getD k 0 = -1 ↔ p k = false)) : ∀ (d n k : Nat) (left : Int32), k + d = 1000 → d < n → l_X3_keyByRank n a1 a2 left (nI k) w = some (zrk p d k left, w) := by
  intro d
  induction d with
  | zero =>
    intro n k left h1 h2
    cases n with
    | zero => cases h2
    | succ n =>
      unfold l_X3_keyByRank
      rw [if_pos (show (1000 : Int32) ≤ nI k from nI_le (a := 1000) (by omega) (by omega))]
      rfl
  | succ d ih =>
    intro n k left h1 h2
    cases n with
    | zero => cases h2
    | succ n =>
      unfold l_X3_keyByRank zrk
      rw [if_neg (show ¬ (1000 : Int32) ≤ nI k from nI_ge (b := 1000) (by omega) (by decide)), z_rat (by omega)]
      simp only [z_jl, nI_1]
      cases hp : p k with
      | false => rw [if_pos ((h k (by omega)).mpr hp), if_neg (by decide), ih n (k + 1) left (by omega) (by omega)]
      | true =>
        rw [if_neg (fun z => by rw [(h k (by omega)).mp z] at hp; cases hp), if_pos rfl]
        by_cases c : left = 0
        · rw [if_pos c, if_pos c]
        · rw [if_neg c, if_neg c, ih n (k + 1) _ (by omega) (by omega)]
theorem z_nthM_l {p : Nat → Bool} {w : jw} {a1 a2 : Int32} (h : ∀ k, k < 1000 → (0 ≤ w.2.1 187 k ↔ p k = true)) : ∀ (d n k : Nat) (left : Int32), k + d = 1000 → d < n → l_X12_nth n a1 a2 left (nI k) w = some (zrk p d k left, w) := by
  intro d
  induction d with
  | zero =>
    intro n k left h1 h2
    cases n with
    | zero => cases h2
    | succ n =>
      unfold l_X12_nth
      rw [if_pos (show (1000 : Int32) ≤ nI k from nI_le (a := 1000) (by omega) (by omega))]
      rfl
  | succ d ih =>
    intro n k left h1 h2
    cases n with
    | zero => cases h2
    | succ n =>
      unfold l_X12_nth zrk
      rw [if_neg (show ¬ (1000 : Int32) ≤ nI k from nI_ge (b := 1000) (by omega) (by decide)), z_jg (z_in (by omega) (by decide)), nI_clamp (by omega)]
      simp only [z_jl, nI_1]
      cases hp : p k with
      | false => rw [if_neg (fun z => by rw [(h k (by omega)).mp z] at hp; cases hp), if_neg (by decide), ih n (k + 1) left (by omega) (by omega)]
      | true =>
        rw [if_pos ((h k (by omega)).mpr hp), if_pos rfl]
        by_cases c : left = 0
        · rw [if_pos c, if_pos c]
        · rw [if_neg c, if_neg c, ih n (k + 1) _ (by omega) (by omega)]
theorem zfQc_R {w : jw} {l : List Int32} {k : Nat} (hk : k = 59 ∨ k = 61 ∨ k = 64 ∨ k = 66) : zfQc w (jsetR w k l) := ⟨rfl, rfl, rfl, fun j j1 j2 j3 j4 => z_jR2 (by omega)⟩
theorem q_nth {S : zS} (hI : zIn S) (hl : S.2.2.2.2.length ≤ 2900) (a b : Int32) : zQ S (f_X11_nth a b) (f_X12_nth a b) := by
  have l0 := zHi_len hI.2
  by_cases na : a < 0
  · exact zQ_c (-1) (fun w _ => by unfold f_X11_nth; rw [if_pos na]) (fun w _ => by unfold f_X12_nth; rw [if_pos na])
  · cases h2 : zit (S.2.2.2.2.length - 1) b with
    | false => exact zQ_c (-1) (fun w hC => by unfold f_X11_nth; rw [if_neg na, z_isTimeC b hC hI, z_jbd2, h2]; rfl) (fun w hM => by unfold f_X12_nth; rw [if_neg na, z_isTimeM b hM, z_jbd2, h2]; rfl)
    | true =>
      obtain ⟨τ, t1, t2⟩ := zit_t (by omega) h2
      subst t2
      intro w wm hC hM
      obtain ⟨l, a1, a2, a3⟩ := z_fillTable_59 (τ := τ) hC.2.2 hI.2 (by omega) (by omega)
      obtain ⟨w', b1, b2, b3⟩ := z_fillsThen (τ := τ) hM.2.2.1 hI.2 (by omega) (by omega)
      refine ⟨zrk (zp S.2.2.2.2 τ) 1000 0 a, jsetR w 59 l, w', ?_, zfQc_R (Or.inl rfl), ?_, zfQm_A (Or.inl rfl) b2⟩
      · unfold f_X11_nth f_X3_keyByRank
        rw [if_neg na, z_isTimeC _ hC hI, z_jbd2, h2, if_neg (by decide), a1, z_jbd]
        have := z_nthC_l (p := zp S.2.2.2.2 τ) (w := jsetR w 59 l) (a1 := a) (a2 := nI τ) (fun k hk => by rw [z_jR1, a3 k hk]; exact ztab (by omega)) 1000 jfu 0 a rfl (by show _ < 40000; omega)
        rw [show l_X3_keyByRank jfu a (nI τ) a 0 (jsetR w 59 l) = _ from this, z_jbd2]
      · unfold f_X12_nth
        rw [if_neg na, z_isTimeM _ hM, z_jbd2, h2, if_neg (by decide), b1, z_jbd]
        exact z_nthM_l (p := zp S.2.2.2.2 τ) (a1 := a) (a2 := nI τ) (fun k hk => by rw [b3 k hk]; exact zarr (by omega)) 1000 jfu 0 a rfl (by show _ < 40000; omega)
/-- the widest gap -/
def zgp (p : Nat → Bool) : Nat → Nat → Int32 → Int32 → Int32 → Int32 × Int32
  | 0, _, _, b, wd => (b, wd)
  | d + 1, k, bf, b, wd => if p k = true then (if bf < 0 then zgp p d (k + 1) (nI k) b wd else if nI k - bf ≤ wd then zgp p d (k + 1) (nI k) b wd else zgp p d (k + 1) (nI k) bf (nI k - bf)) else zgp p d (k + 1) bf b wd
theorem z_gapC_l {p : Nat → Bool} {w : jw} {a1 what : Int32} (h : ∀ k, k < 1000 → ((w.2.2.2 59).getD k 0 = -1 ↔ p k = false)) : ∀ (d n k : Nat) (bf b wd : Int32), (bf = -1 ↔ bf < 0) → k + d = 1000 → d < n → l_X3_widestGap n a1 what bf b wd (nI k) w = some (if what = 0 then (zgp p d k bf b wd).1 else (zgp p d k bf b wd).2, w) := by
  intro d
  induction d with
  | zero =>
    intro n k bf b wd h0 h1 h2
    cases n with
    | zero => cases h2
    | succ n =>
      unfold l_X3_widestGap
      rw [if_pos (show (1000 : Int32) ≤ nI k from nI_le (a := 1000) (by omega) (by omega))]
      by_cases c : what = 0
      · rw [if_pos c, if_pos c]; rfl
      · rw [if_neg c, if_neg c]; rfl
  | succ d ih =>
    intro n k bf b wd h0 h1 h2
    have kn : (nI k = -1 ↔ nI k < 0) := ⟨fun z => absurd z (z_nm1 (by omega)), fun z => absurd z (nI_pos (by omega))⟩
    cases n with
    | zero => cases h2
    | succ n =>
      unfold l_X3_widestGap zgp
      rw [if_neg (show ¬ (1000 : Int32) ≤ nI k from nI_ge (b := 1000) (by omega) (by decide)), z_rat (by omega)]
      simp only [z_jl, nI_1]
      cases hp : p k with
      | false => rw [if_pos ((h k (by omega)).mpr hp), if_neg (show ¬ (false = true) by decide)]; exact ih n (k + 1) bf b wd h0 (by omega) (by omega)
      | true =>
        rw [if_neg (fun z => by rw [(h k (by omega)).mp z] at hp; cases hp), if_pos rfl]
        by_cases c : bf < 0
        · rw [if_pos (h0.mpr c), if_pos c]; exact ih n (k + 1) _ b wd kn (by omega) (by omega)
        · rw [if_neg (fun z => c (h0.mp z)), if_neg c]
          by_cases e : nI k - bf ≤ wd
          · rw [if_pos e, if_pos e]; exact ih n (k + 1) _ b wd kn (by omega) (by omega)
          · rw [if_neg e, if_neg e]; exact ih n (k + 1) _ _ _ kn (by omega) (by omega)
theorem z_gapM_l {p : Nat → Bool} {w : jw} {a1 what : Int32} (h : ∀ k, k < 1000 → (0 ≤ w.2.1 187 k ↔ p k = true)) : ∀ (d n k : Nat) (bf b wd : Int32), k + d = 1000 → d < n → l_X12_gap n a1 what bf b wd (nI k) w = some (if what = 0 then (zgp p d k bf b wd).1 else (zgp p d k bf b wd).2, w) := by
  intro d
  induction d with
  | zero =>
    intro n k bf b wd h1 h2
    cases n with
    | zero => cases h2
    | succ n =>
      unfold l_X12_gap
      rw [if_pos (show (1000 : Int32) ≤ nI k from nI_le (a := 1000) (by omega) (by omega))]
      by_cases c : what = 0
      · rw [if_pos c, if_pos c]; rfl
      · rw [if_neg c, if_neg c]; rfl
  | succ d ih =>
    intro n k bf b wd h1 h2
    cases n with
    | zero => cases h2
    | succ n =>
      unfold l_X12_gap zgp
      rw [if_neg (show ¬ (1000 : Int32) ≤ nI k from nI_ge (b := 1000) (by omega) (by decide)), z_jg (z_in (by omega) (by decide)), nI_clamp (by omega)]
      simp only [z_jl, nI_1]
      cases hp : p k with
      | false => rw [if_neg (fun z => by rw [(h k (by omega)).mp z] at hp; cases hp), if_neg (show ¬ (false = true) by decide)]; exact ih n (k + 1) bf b wd (by omega) (by omega)
      | true =>
        rw [if_pos ((h k (by omega)).mpr hp), if_pos rfl]
        by_cases c : bf < 0
        · rw [if_pos c, if_pos c]; exact ih n (k + 1) _ b wd (by omega) (by omega)
        · rw [if_neg c, if_neg c]
          by_cases e : nI k - bf ≤ wd
          · rw [if_pos e, if_pos e]; exact ih n (k + 1) _ b wd (by omega) (by omega)
          · rw [if_neg e, if_neg e]; exact ih n (k + 1) _ _ _ (by omega) (by omega)
theorem q_gap {S : zS} (hI : zIn S) (hl : S.2.2.2.2.length ≤ 2900) (a b : Int32) : zQ S (f_X11_gap a b) (f_X12_gap a b) := by
  have l0 := zHi_len hI.2
  cases h2 : zit (S.2.2.2.2.length - 1) a with
  | false => exact zQ_c (-1) (fun w hC => by unfold f_X11_gap; rw [z_isTimeC a hC hI, z_jbd2, h2]; rfl) (fun w hM => by unfold f_X12_gap; rw [z_isTimeM a hM, z_jbd2, h2]; rfl)
  | true =>
    cases h3 : zei b with
    | false => exact zQ_c (-1) (fun w hC => by unfold f_X11_gap; rw [z_isTimeC a hC hI, z_jbd2, h2, if_neg (by decide), z_isEitherC, z_jbd2, h3]; rfl) (fun w hM => by unfold f_X12_gap; rw [z_isTimeM a hM, z_jbd2, h2, if_neg (by decide), z_in01, z_jbd2, h3]; rfl)
    | true =>
      obtain ⟨τ, t1, t2⟩ := zit_t (by omega) h2
      subst t2
      intro w wm hC hM
      obtain ⟨l, a1, a2, a3⟩ := z_fillTable_59 (τ := τ) hC.2.2 hI.2 (by omega) (by omega)
      obtain ⟨w', b1, b2, b3⟩ := z_fillsThen (τ := τ) hM.2.2.1 hI.2 (by omega) (by omega)
      refine ⟨if b = 0 then (zgp (zp S.2.2.2.2 τ) 1000 0 (-1) (-2) (-2)).1 else (zgp (zp S.2.2.2.2 τ) 1000 0 (-1) (-2) (-2)).2, jsetR w 59 l, w', ?_, zfQc_R (Or.inl rfl), ?_, zfQm_A (Or.inl rfl) b2⟩
      · unfold f_X11_gap f_X3_widestGap
        rw [z_isTimeC _ hC hI, z_jbd2, h2, if_neg (by decide), z_isEitherC, z_jbd2, h3, if_neg (by decide), a1, z_jbd]
        have := z_gapC_l (p := zp S.2.2.2.2 τ) (w := jsetR w 59 l) (a1 := nI τ) (what := b) (fun k hk => by rw [z_jR1, a3 k hk]; exact ztab (by omega)) 1000 jfu 0 (-1) (-2) (-2) ⟨fun _ => z_m1, fun _ => rfl⟩ rfl (by show _ < 40000; omega)
        rw [show l_X3_widestGap jfu (nI τ) b (-1) (-2) (-2) 0 (jsetR w 59 l) = _ from this, z_jbd2]
      · unfold f_X12_gap
        rw [z_isTimeM _ hM, z_jbd2, h2, if_neg (by decide), z_in01, z_jbd2, h3, if_neg (by decide), b1, z_jbd]
        exact z_gapM_l (p := zp S.2.2.2.2 τ) (a1 := nI τ) (what := b) (fun k hk => by rw [b3 k hk]; exact zarr (by omega)) 1000 jfu 0 (-1) (-2) (-2) rfl (by show _ < 40000; omega)
/-- how many of a range -/
def zcn (q : Nat → Bool) : Nat → Nat → Int32 → Int32
  | 0, _, c => c
  | d + 1, k, c => zcn q d (k + 1) (if q k = true then c + 1 else c)
def zdq (hs : List zH) (t u k : Nat) : Bool := match zlf hs (nI k) t, zlf hs (nI k) u with
  | none, none => false
  | some f, some g => !decide ((hs.getD f (0, 0, 0, 0)).2.2.1 = (hs.getD g (0, 0, 0, 0)).2.2.1)
  | _, _ => true
theorem z_vC {hs : List zH} {w : jw} {f : Nat} (hC : zCh hs w) (hf : f < hs.length) (hl : hs.length ≤ 3000) : rat (w.2.2.2 40) (nI f) = (hs.getD f (0, 0, 0, 0)).2.2.1 := by
  have hx := List.getElem?_eq_getElem hf
  rw [z_rat (by omega), hC.2.2.1, z_gm hx]
  simp [List.getD_eq_getElem?_getD, hx]
theorem z_vM {hs : List zH} {N : Nat → Int32} {f : Nat} {k : Int32} {τ : Nat} (h : zMh hs N) (hz : zlf hs k τ = some f) : N (18100 + 4 * zix hs f + 3) = (hs.getD f (0, 0, 0, 0)).2.2.1 := by
  obtain ⟨_, _, ⟨x, q1, q2, q3⟩, _⟩ := zlf_some _ _ hz
  rw [(h.1 _ _ (zvr_at q1 q2)).2.2.2]
  simp [List.getD_eq_getElem?_getD, q1, zver]
theorem z_diffC_l {hs : List zH} {w : jw} {a1 a3 a4 : Int32} {t u hi : Nat} (hC : zCh hs w) (hl : hs.length ≤ 3000) (ht : t < hs.length) (hu : u < hs.length) (hh : hi < 1000) (h5 : ∀ k, k < 1000 → (w.2.2.2 59).getD k 0 = zof (zlf hs (nI k) t)) (h6 : ∀ k, k < 1000 → (w.2.2.2 61).getD k 0 = zof (zlf hs (nI k) u)) : ∀ (d n k : Nat) (c : Int32), d = hi + 1 - k → k ≤ 1000 → d < n → l_X3_differences n a1 (nI hi) a3 a4 c (nI k) w = some (zcn (zdq hs t u) d k c, w) := by
  intro d
  induction d with
  | zero =>
    intro n k c h1 h2 h3
    cases n with
    | zero => cases h3
    | succ n =>
      unfold l_X3_differences
      rw [if_pos (nI_lt (by omega) (by omega))]
      rfl
  | succ d ih =>
    intro n k c h1 h2 h3
    cases n with
    | zero => cases h3
    | succ n =>
      unfold l_X3_differences zcn
      rw [if_neg (nI_nlt (by omega) (by omega)), z_jl, z_jl, z_rat (by omega), z_rat (by omega), h5 k (by omega), h6 k (by omega)]
      have R : ∀ c', l_X3_differences n a1 (nI hi) a3 a4 c' (nI (k + 1)) w = some (zcn (zdq hs t u) d (k + 1) c', w) := fun c' => ih n (k + 1) c' (by omega) (by omega) (by omega)
      cases z1 : zlf hs (nI k) t with
      | none =>
        cases z2 : zlf hs (nI k) u with
        | none =>
          have : zdq hs t u k = false := by unfold zdq; rw [z1, z2]
          rw [this, if_pos (show zof none = -1 from rfl), z_jbd, if_pos (show zof none = -1 from rfl), z_jbd, if_pos rfl, z_jbd, if_pos rfl, z_jbd, z_jl, nI_1, if_neg (by decide)]
          exact R c
        | some g =>
          have gl := (zlf_some _ _ z2).2.1
          have : zdq hs t u k = true := by unfold zdq; rw [z1, z2]
          rw [this, if_pos (show zof none = -1 from rfl), z_jbd, if_neg (show ¬ zof (some g) = -1 from z_nm1 (by omega)), z_jbd, if_neg (by decide), z_jbd, if_neg (by decide), z_jl, z_jbd, z_jl, nI_1, if_pos rfl]
          exact R (c + 1)
      | some f =>
        have fl := (zlf_some _ _ z1).2.1
        cases z2 : zlf hs (nI k) u with
        | none =>
          have : zdq hs t u k = true := by unfold zdq; rw [z1, z2]
          rw [this, if_neg (show ¬ zof (some f) = -1 from z_nm1 (by omega)), z_jbd, if_pos (show zof none = -1 from rfl), z_jbd, if_neg (by decide), z_jbd, if_neg (by decide), z_jl, z_jbd, z_jl, nI_1, if_pos rfl]
          exact R (c + 1)
        | some g =>
          have gl := (zlf_some _ _ z2).2.1
          rw [if_neg (show ¬ zof (some f) = -1 from z_nm1 (by omega)), z_jbd, if_neg (show ¬ zof (some g) = -1 from z_nm1 (by omega)), z_jbd, if_pos rfl, z_jbd, if_pos rfl, if_neg (show ¬ zof (some f) = -1 from z_nm1 (by omega)), show zof (some f) = nI f from rfl, show zof (some g) = nI g from rfl, z_vC hC (by omega) hl, z_vC hC (by omega) hl]
          by_cases e : (hs.getD f (0, 0, 0, 0)).2.2.1 = (hs.getD g (0, 0, 0, 0)).2.2.1
          · have : zdq hs t u k = false := by unfold zdq; rw [z1, z2]; simp only [e, decide_true, Bool.not_true]
            rw [this, if_pos e, z_jbd, z_jl, nI_1, if_neg (by decide)]
            exact R c
          · have : zdq hs t u k = true := by unfold zdq; rw [z1, z2]; simp only [e, decide_false, Bool.not_false]
            rw [this, if_neg e, z_jl, z_jbd, z_jl, nI_1, if_pos rfl]
            exact R (c + 1)
theorem z_diffM_l {hs : List zH} {w : jw} {a1 a3 a4 : Int32} {t u hi : Nat} (hM : zMh hs (w.2.1 182)) (hl : hs.length ≤ 3000) (hh : hi < 1000) (h5 : ∀ k, k < 1000 → w.2.1 188 k = zva ((zlf hs (nI k) t).map (zix hs))) (h6 : ∀ k, k < 1000 → w.2.1 187 k = zva ((zlf hs (nI k) u).map (zix hs))) : ∀ (d n k : Nat) (c : Int32), d = hi + 1 - k → k ≤ 1000 → d < n → l_X12_differ_76 n a1 (nI hi) a3 a4 c (nI k) w = some (zcn (zdq hs t u) d k c, w) := by
  intro d
  induction d with
  | zero =>
    intro n k c h1 h2 h3
    cases n with
    | zero => cases h3
    | succ n =>
      unfold l_X12_differ_76
      rw [if_pos (nI_lt (by omega) (by omega))]
      rfl
  | succ d ih =>
    intro n k c h1 h2 h3
    cases n with
    | zero => cases h3
    | succ n =>
      unfold l_X12_differ_76 zcn
      rw [if_neg (nI_nlt (by omega) (by omega)), z_jg (z_in (by omega) (by decide)), z_jl, z_jg (z_in (by omega) (by decide)), z_jl, nI_clamp (by omega), h5 k (by omega), h6 k (by omega)]
      have R : ∀ c', l_X12_differ_76 n a1 (nI hi) a3 a4 c' (nI (k + 1)) w = some (zcn (zdq hs t u) d (k + 1) c', w) := fun c' => ih n (k + 1) c' (by omega) (by omega) (by omega)
      have nn : ¬ (0 : Int32) ≤ zva (Option.map (zix hs) none) := by show ¬ (0 : Int32) ≤ -1; decide
      have ss : ∀ g, (0 : Int32) ≤ zva (Option.map (zix hs) (some g)) := fun g => nI_pos' (by have := zix_le hs g; omega)
      cases z1 : zlf hs (nI k) t with
      | none =>
        cases z2 : zlf hs (nI k) u with
        | none =>
          have : zdq hs t u k = false := by unfold zdq; rw [z1, z2]
          rw [this, if_neg nn, z_jbd, z_jbd, if_pos rfl, if_pos (show zva (Option.map (zix hs) none) < 0 from z_m1), z_jbd, z_jl, nI_1, if_neg (by decide)]
          exact R c
        | some g =>
          have : zdq hs t u k = true := by unfold zdq; rw [z1, z2]
          rw [this, if_pos (ss g), z_jbd, if_neg nn, z_jbd, if_neg (by decide), z_jl, z_jbd, z_jl, nI_1, if_pos rfl]
          exact R (c + 1)
      | some f =>
        cases z2 : zlf hs (nI k) u with
        | none =>
          have : zdq hs t u k = true := by unfold zdq; rw [z1, z2]
          rw [this, if_neg nn, z_jbd, if_pos (ss f), z_jbd, if_neg (by decide), z_jl, z_jbd, z_jl, nI_1, if_pos rfl]
          exact R (c + 1)
        | some g =>
          have xf := zix_le hs f
          have xg := zix_le hs g
          rw [if_pos (ss g), z_jbd, if_pos (ss f), z_jbd, if_pos rfl, show zva (Option.map (zix hs) (some g)) = nI (18100 + 4 * zix hs g) from rfl, show zva (Option.map (zix hs) (some f)) = nI (18100 + 4 * zix hs f) from rfl, if_neg (nI_pos (by omega)), nI_p3, nI_p3, z_jg (z_in (by omega) (by decide)), z_jg (z_in (by omega) (by decide)), nI_clamp (by omega), nI_clamp (by omega), z_vM hM z1, z_vM hM z2]
          by_cases e : (hs.getD f (0, 0, 0, 0)).2.2.1 = (hs.getD g (0, 0, 0, 0)).2.2.1
          · have : zdq hs t u k = false := by unfold zdq; rw [z1, z2]; simp only [e, decide_true, Bool.not_true]
            rw [this, if_pos e.symm, z_jbd, z_jl, nI_1, if_neg (by decide)]
            exact R c
          · have : zdq hs t u k = true := by unfold zdq; rw [z1, z2]; simp only [e, decide_false, Bool.not_false]
            rw [this, if_neg (fun z => e z.symm), z_jl, z_jbd, z_jl, nI_1, if_pos rfl]
            exact R (c + 1)
theorem z_diff36 {hs : List zH} {a1 a2 a3 a4 : Int32} : ∀ (d n k : Nat) (w : jw), k + d = 1000 → d < n → ∃ w', zfA 188 w w' ∧ (∀ j, j < 1000 → w'.2.1 188 j = if j < k then w.2.1 188 j else w.2.1 187 j) ∧ l_X12_differ_36 n a1 a2 a3 a4 (nI k) w = (jbd (f_X12_fillsThen a4 w') fun q23 => (l_X12_differ_76 jfu a1 a2 a3 a4 0 a1 q23)) := by
  intro d
  induction d with
  | zero =>
    intro n k w h1 h2
    cases n with
    | zero => cases h2
    | succ n =>
      refine ⟨w, zfA_rfl _ w, fun j hj => by rw [if_pos (by omega)], ?_⟩
      conv => lhs; unfold l_X12_differ_36
      rw [if_pos (show (1000 : Int32) ≤ nI k from nI_le (a := 1000) (by omega) (by omega))]
  | succ d ih =>
    intro n k w h1 h2
    cases n with
    | zero => cases h2
    | succ n =>
      obtain ⟨w', r1, r2, r3⟩ := ih n (k + 1) (jsetX w 188 k (w.2.1 187 k)) (by omega) (by omega)
      refine ⟨w', zfA_trans (zfA_X w 188 k _) r1, fun j hj => ?_, ?_⟩
      · rw [r2 j hj, z_jX1, z_jX2 (by decide)]
        by_cases c : j < k
        · rw [if_pos (by omega), if_pos c, zup_ne (by omega)]
        · rw [if_neg c]
          by_cases e : j = k
          · rw [if_pos (by omega), e, zup_eq]
          · rw [if_neg (by omega)]
      · conv => lhs; unfold l_X12_differ_36
        rw [if_neg (show ¬ (1000 : Int32) ≤ nI k from nI_ge (b := 1000) (by omega) (by decide)), z_jg (z_in (by omega) (by decide)), z_jg (z_in (by omega) (by decide)), nI_clamp (by omega), z_jl, z_jl, nI_1, r3]
theorem zand {a b : Bool} (h : (a && b) = true) : a = true ∧ b = true := by
  cases a <;> cases b <;> first | exact ⟨rfl, rfl⟩ | cases h
theorem q_differ {S : zS} (hI : zIn S) (hl : S.2.2.2.2.length ≤ 2900) (a b c d : Int32) : zQ S (f_X11_differ a b c d) (f_X12_differ a b c d) := by
  have l0 := zHi_len hI.2
  cases h1 : (zik a && zik b) with
  | false => exact zQ_c (-1) (fun w _ => by unfold f_X11_differ; rw [z_isRangeC, z_jbd2, h1]; rfl) (fun w _ => by unfold f_X12_differ; rw [z_isRangeM, z_jbd2, h1]; rfl)
  | true =>
    cases h2 : zit (S.2.2.2.2.length - 1) c with
    | false => exact zQ_c (-1) (fun w hC => by unfold f_X11_differ; rw [z_isRangeC, z_jbd2, h1, if_neg (by decide), z_isTimeC c hC hI, z_jbd2, h2]; rfl) (fun w hM => by unfold f_X12_differ; rw [z_isRangeM, z_jbd2, h1, if_neg (by decide), z_isTimeM c hM, z_jbd2, h2]; rfl)
    | true =>
      cases h3 : zit (S.2.2.2.2.length - 1) d with
      | false => exact zQ_c (-1) (fun w hC => by unfold f_X11_differ; rw [z_isRangeC, z_jbd2, h1, if_neg (by decide), z_isTimeC c hC hI, z_jbd2, h2, if_neg (by decide), z_isTimeC d hC hI, z_jbd2, h3]; rfl) (fun w hM => by unfold f_X12_differ; rw [z_isRangeM, z_jbd2, h1, if_neg (by decide), z_isTimeM c hM, z_jbd2, h2, if_neg (by decide), z_isTimeM d hM, z_jbd2, h3]; rfl)
      | true =>
        obtain ⟨t, t1, t2⟩ := zit_t (by omega) h2
        obtain ⟨u, u1, u2⟩ := zit_t (by omega) h3
        obtain ⟨ka, kb⟩ := zand h1
        obtain ⟨la, la1, la2⟩ := zik_t ka
        obtain ⟨lb, lb1, lb2⟩ := zik_t kb
        subst t2 u2 la2 lb2
        intro w wm hC hM
        obtain ⟨l, a1, a2, a3⟩ := z_fillTable_59 (τ := t) hC.2.2 hI.2 (by omega) (by omega)
        have hC' : zCh S.2.2.2.2 (jsetR w 59 l) := by
          obtain ⟨c1, c2, c3, c4, c5⟩ := hC.2.2
          exact ⟨by rw [z_jR2 (by decide)]; exact c1, by rw [z_jR2 (by decide)]; exact c2, by rw [z_jR2 (by decide)]; exact c3, by rw [z_jR2 (by decide)]; exact c4, c5⟩
        obtain ⟨l', b1, b2, b3⟩ := z_fillTable_61 (τ := u) hC' hI.2 (by omega) (by omega)
        have hC'' : zCh S.2.2.2.2 (jsetR (jsetR w 59 l) 61 l') := by
          obtain ⟨c1, c2, c3, c4, c5⟩ := hC'
          exact ⟨by rw [z_jR2 (by decide)]; exact c1, by rw [z_jR2 (by decide)]; exact c2, by rw [z_jR2 (by decide)]; exact c3, by rw [z_jR2 (by decide)]; exact c4, c5⟩
        obtain ⟨w1, d1, d2, d3⟩ := z_fillsThen (τ := t) hM.2.2.1 hI.2 (by omega) (by omega)
        obtain ⟨w2, e1, e2, e3⟩ := z_diff36 (hs := S.2.2.2.2) (a1 := nI la) (a2 := nI lb) (a3 := nI t) (a4 := nI u) 1000 jfu 0 w1 rfl (by show _ < 40000; omega)
        have m1 : w1.2.1 182 = wm.2.1 182 := d2.2.2 182 (by decide)
        have m2 : w2.2.1 182 = wm.2.1 182 := by rw [e1.2.2 182 (by decide)]; exact m1
        obtain ⟨w3, g1, g2, g3⟩ := z_fillsThen (w := w2) (τ := u) (by rw [m2]; exact hM.2.2.1) hI.2 (by omega) (by omega)
        have m3 : w3.2.1 182 = wm.2.1 182 := by rw [g2.2.2 182 (by decide)]; exact m2
        refine ⟨zcn (zdq S.2.2.2.2 t u) (lb + 1 - la) la 0, jsetR (jsetR w 59 l) 61 l', w3, ?_, zfQc_trans (zfQc_R (Or.inl rfl)) (zfQc_R (Or.inr (Or.inl rfl))), ?_, zfQm_trans (zfQm_A (Or.inl rfl) d2) (zfQm_trans (zfQm_A (Or.inr (Or.inl rfl)) e1) (zfQm_A (Or.inl rfl) g2))⟩
        · unfold f_X11_differ f_X3_differences
          rw [z_isRangeC, z_jbd2, h1, if_neg (by decide), z_isTimeC _ hC hI, z_jbd2, h2, if_neg (by decide), z_isTimeC _ hC hI, z_jbd2, h3, if_neg (by decide), a1, z_jbd, b1, z_jbd]
          rw [z_diffC_l (t := t) (u := u) hC'' (by omega) (by omega) (by omega) lb1 (fun k hk => by rw [z_jR2 (by decide), z_jR1]; exact a3 k hk) (fun k hk => by rw [z_jR1]; exact b3 k hk) (lb + 1 - la) jfu la 0 rfl (by omega) (by show _ < 40000; omega), z_jbd2]
        · unfold f_X12_differ
          rw [z_isRangeM, z_jbd2, h1, if_neg (by decide), z_isTimeM _ hM, z_jbd2, h2, if_neg (by decide), z_isTimeM _ hM, z_jbd2, h3, if_neg (by decide), d1, z_jbd, show (0 : Int32) = nI 0 from rfl, e3, g1, z_jbd]
          exact z_diffM_l (by rw [m3]; exact hM.2.2.1) (by omega) lb1 (fun k hk => by
            rw [g2.2.2 188 (by decide), e2 k hk, if_neg (by omega)]
            exact d3 k hk) g3 (lb + 1 - la) jfu la 0 rfl (by omega) (by show _ < 40000; omega)
end
