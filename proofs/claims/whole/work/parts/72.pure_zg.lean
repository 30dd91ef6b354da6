section
/-! questions: what both sides ask first -/
def zfQc (w w' : jw) : Prop := w'.1 = w.1 ∧ w'.2.1 = w.2.1 ∧ w'.2.2.1 = w.2.2.1 ∧ ∀ k, k ≠ 59 → k ≠ 61 → k ≠ 64 → k ≠ 66 → w'.2.2.2 k = w.2.2.2 k
def zfQm (w w' : jw) : Prop := w'.2.2 = w.2.2 ∧ (∀ a, a ≠ 162 → w'.1 a = w.1 a) ∧ (∀ j, j ≠ 36 → j ≠ 45 → w'.1 162 j = w.1 162 j) ∧ (∀ p, p ≠ 183 → p ≠ 187 → p ≠ 188 → p ≠ 189 → p ≠ 190 → w'.2.1 p = w.2.1 p)
theorem zfQc_rfl (w : jw) : zfQc w w := ⟨rfl, rfl, rfl, fun _ _ _ _ _ => rfl⟩
theorem zfQm_rfl (w : jw) : zfQm w w := ⟨rfl, fun _ _ => rfl, fun _ _ _ => rfl, fun _ _ _ _ _ _ => rfl⟩
theorem zfQc_trans {a b c : jw} (h : zfQc a b) (g : zfQc b c) : zfQc a c := ⟨g.1.trans h.1, g.2.1.trans h.2.1, g.2.2.1.trans h.2.2.1, fun k k1 k2 k3 k4 => (g.2.2.2 k k1 k2 k3 k4).trans (h.2.2.2 k k1 k2 k3 k4)⟩
theorem zfQm_trans {a b c : jw} (h : zfQm a b) (g : zfQm b c) : zfQm a c := ⟨g.1.trans h.1, fun x hx => (g.2.1 x hx).trans (h.2.1 x hx), fun x x1 x2 => (g.2.2.1 x x1 x2).trans (h.2.2.1 x x1 x2), fun p p1 p2 p3 p4 p5 => (g.2.2.2 p p1 p2 p3 p4 p5).trans (h.2.2.2 p p1 p2 p3 p4 p5)⟩
/-- a question: both sides answer alike and leave all but their scratch rows -/
def zQ (S : zS) (fc fm : jw → Option (Int32 × jw)) : Prop := ∀ w wm : jw, zCi S w → zMi S (wm.2.1 182) → ∃ v w' wm', fc w = some (v, w') ∧ zfQc w w' ∧ fm wm = some (v, wm') ∧ zfQm wm wm'
theorem zQ_c {S : zS} {fc fm : jw → Option (Int32 × jw)} (v : Int32) (h1 : ∀ w, zCi S w → fc w = some (v, w)) (h2 : ∀ w, zMi S (w.2.1 182) → fm w = some (v, w)) : zQ S fc fm := fun w wm hC hM => ⟨v, w, wm, h1 w hC, zfQc_rfl w, h2 wm hM, zfQm_rfl wm⟩
def zik (a : Int32) : Bool := if a < 0 then false else if 1000 ≤ a then false else true
def zit (T : Nat) (a : Int32) : Bool := if a < 0 then false else if nI T < a then false else true
theorem zik_t {a : Int32} (h : zik a = true) : ∃ k, k < 1000 ∧ a = nI k := by
  unfold zik at h
  split at h
  · cases h
  · rename_i c
    split at h
    · cases h
    · rename_i d
      obtain ⟨j, j1, j2⟩ := nI_of c
      refine ⟨j, ?_, j2⟩
      rw [j2] at d
      rcases Nat.lt_or_ge j 1000 with z | z
      · exact z
      · exact absurd (show (1000 : Int32) ≤ nI j from nI_le (a := 1000) z j1) d
theorem zit_t {T : Nat} {a : Int32} (hT : T < 100000) (h : zit T a = true) : ∃ τ, τ ≤ T ∧ a = nI τ := by
  unfold zit at h
  split at h
  · cases h
  · rename_i c
    split at h
    · cases h
    · rename_i d
      obtain ⟨j, j1, j2⟩ := nI_of c
      refine ⟨j, ?_, j2⟩
      rw [j2] at d
      rcases Nat.lt_or_ge T j with z | z
      · exact absurd (nI_lt z j1) d
      · exact z
theorem z_isKeyC (a : Int32) (w : jw) : f_X11_isKey a w = some (zik a, w) := by
  unfold f_X11_isKey zik
  split
  · rfl
  · split <;> rfl
theorem z_inM (a lo hi : Int32) (w : jw) : f_X12_in a lo hi w = some (if a < lo then false else if hi < a then false else true, w) := by
  unfold f_X12_in
  split
  · rfl
  · split <;> rfl
theorem z_isKeyM (a : Int32) (w : jw) : f_X12_isKey a w = some (zik a, w) := by
  unfold f_X12_isKey zik
  rw [z_inM, z_jbd2]
  have : (999 < a) ↔ 1000 ≤ a := by
    rw [Int32.lt_iff_toInt_lt, Int32.le_iff_toInt_le, show (999 : Int32).toInt = 999 by decide, show (1000 : Int32).toInt = 1000 by decide]
    omega
  by_cases c : a < 0
  · rw [if_pos c, if_pos c]
  · rw [if_neg c, if_neg c]
    by_cases d : 1000 ≤ a
    · rw [if_pos (this.mpr d), if_pos d]
    · rw [if_neg (fun z => d (this.mp z)), if_neg d]
theorem z_isTimeC {S : zS} {w : jw} (a : Int32) (h : zCi S w) (hI : zIn S) : f_X11_isTime a w = some (zit (S.2.2.2.2.length - 1) a, w) := by
  unfold f_X11_isTime zit
  by_cases c : a < 0
  · rw [if_pos c, if_pos c]
  · rw [if_neg c, if_neg c, z_now' h.2.2 (zHi_len hI.2), z_jbd2]
    split <;> rfl
theorem z_isTimeM {S : zS} {w : jw} (a : Int32) (h : zMi S (w.2.1 182)) : f_X12_isTime a w = some (zit (S.2.2.2.2.length - 1) a, w) := by
  unfold f_X12_isTime zit
  rw [z_jg j_0, k_0, h.2.2.2, z_inM, z_jbd2]
theorem z_isRangeC (a b : Int32) (w : jw) : f_X11_isRange a b w = some (zik a && zik b, w) := by
  unfold f_X11_isRange
  rw [z_isKeyC, z_jbd2]
  simp only [z_jb0]
  cases h1 : zik a with
  | false => rfl
  | true =>
    rw [if_neg (by decide), z_isKeyC, z_jbd2]
    cases h2 : zik b <;> rfl
theorem z_isRangeM (a b : Int32) (w : jw) : f_X12_isRange a b w = some (zik a && zik b, w) := by
  unfold f_X12_isRange
  rw [z_isKeyM, z_jbd2]
  simp only [z_jb0]
  cases h1 : zik a with
  | false => rfl
  | true =>
    rw [if_neg (by decide), z_isKeyM, z_jbd2]
    cases h2 : zik b <;> rfl
def zsp2 (T : Nat) (a b : Int32) : Bool := zit T a && zit T b && !decide (b < a)
theorem z_isSpanC {S : zS} {w : jw} (a b : Int32) (h : zCi S w) (hI : zIn S) : f_X11_isSpan a b w = some (zsp2 (S.2.2.2.2.length - 1) a b, w) := by
  unfold f_X11_isSpan zsp2
  rw [z_isTimeC a h hI, z_jbd2]
  simp only [z_jb0]
  cases h1 : zit (S.2.2.2.2.length - 1) a with
  | false => rfl
  | true =>
    rw [if_neg (by decide), z_isTimeC b h hI, z_jbd2]
    cases h2 : zit (S.2.2.2.2.length - 1) b with
    | false => rfl
    | true =>
      rw [if_neg (by decide)]
      by_cases c : b < a
      · rw [if_pos c]; simp [c]
      · rw [if_neg c]; simp [c]
theorem z_areTimes {S : zS} {w : jw} (a b : Int32) (h : zMi S (w.2.1 182)) : f_X12_areTimes a b w = some (zsp2 (S.2.2.2.2.length - 1) a b, w) := by
  unfold f_X12_areTimes zsp2
  rw [z_isTimeM a h, z_jbd2]
  simp only [z_jb0]
  cases h1 : zit (S.2.2.2.2.length - 1) a with
  | false => rfl
  | true =>
    rw [if_neg (by decide), z_isTimeM b h, z_jbd2]
    cases h2 : zit (S.2.2.2.2.length - 1) b with
    | false => rfl
    | true =>
      rw [if_neg (by decide)]
      by_cases c : b < a
      · rw [if_pos c]; simp [c]
      · rw [if_neg c]; simp [c]
def zei (a : Int32) : Bool := if a = 0 then true else if a = 1 then true else false
theorem z_isEitherC (a : Int32) (w : jw) : f_X11_isEither a w = some (zei a, w) := by
  unfold f_X11_isEither zei
  split
  · rfl
  · split <;> rfl
theorem z_small {a : Int32} {m : Nat} (hm : m < 1000) (h1 : ¬ a < 0) (h2 : ¬ nI m < a) : ∃ j, j ≤ m ∧ a = nI j := by
  obtain ⟨j, j1, j2⟩ := nI_of h1
  refine ⟨j, ?_, j2⟩
  rw [j2] at h2
  rcases Nat.lt_or_ge m j with z | z
  · exact absurd (nI_lt z j1) h2
  · exact z
theorem z_in01 (a : Int32) (w : jw) : f_X12_in a 0 1 w = some (zei a, w) := by
  rw [z_inM]
  unfold zei
  by_cases c : a < 0
  · rw [if_pos c, if_neg (fun e => by rw [e] at c; exact absurd c (by decide)), if_neg (fun e => by rw [e] at c; exact absurd c (by decide))]
  · rw [if_neg c]
    by_cases d : 1 < a
    · rw [if_pos d, if_neg (fun e => by rw [e] at d; exact absurd d (by decide)), if_neg (fun e => by rw [e] at d; exact absurd d (by decide))]
    · rw [if_neg d]
      obtain ⟨j, j1, j2⟩ := z_small (m := 1) (by decide) c d
      have : j = 0 ∨ j = 1 := by omega
      rcases this with z | z
      · rw [j2, z]; rfl
      · rw [j2, z]; rfl
/-! loops over versions -/
theorem z_18 (L : Nat) : (18100 : Int32) + 4 * nI L = nI (18100 + 4 * L) := z_pa L 18100 18100 rfl
theorem nI_p4 (a : Nat) : nI a + 4 = nI (a + 4) := nI_add a 4
theorem zvdrop {vs : List zE} {i : Nat} {v : zE} {rest : List zE} (h : vs.drop i = v :: rest) : vs[i]? = some v ∧ vs.drop (i + 1) = rest ∧ i < vs.length := z_drop_cons h
def zvk (key t : Int32) (v : zE) : Bool := decide (v.1 = key) && zlv t v
def zva (o : Option Nat) : Int32 := match o with
  | none => -1
  | some i => nI (18100 + 4 * i)
theorem z_versionAt_l {hs : List zH} {w : jw} {key t : Int32} (h : zMh hs (w.2.1 182)) (hl : hs.length ≤ 3000) : ∀ (rest : List zE) (n i : Nat), (zvr hs 0).drop i = rest → i ≤ (zvr hs 0).length → rest.length < n → l_X12_versionAt n key t (nI (18100 + 4 * i)) w = some (zva (zfi (zvk key t) rest i), w) := by
  have vl := zvr_le hs
  intro rest
  induction rest with
  | nil =>
    intro n i h1 h2 h3
    have hi : (zvr hs 0).length ≤ i := by simpa using h1
    cases n with
    | zero => cases h3
    | succ n =>
      unfold l_X12_versionAt
      rw [z_jg j_4, k_4, h.2.1, z_18, if_pos (nI_le (by omega) (by omega))]
      rfl
  | cons v rest ih =>
    intro n i h1 h2 h3
    obtain ⟨g1, g2, g3⟩ := zvdrop h1
    simp only [List.length_cons] at h3
    obtain ⟨f1, f2, f3, f4⟩ := h.1 i v g1
    cases n with
    | zero => cases h3
    | succ n =>
      unfold l_X12_versionAt zfi
      rw [z_jg j_4, k_4, h.2.1, z_18, if_neg (nI_ge (by omega) (by omega)), z_jg (z_in (by omega) (by decide)), nI_clamp (by omega), f1]
      have nx : 18100 + 4 * i + 4 = 18100 + 4 * (i + 1) := by omega
      simp only [z_jl, nI_p4, nx]
      by_cases c : v.1 = key
      · rw [if_pos c, nI_1, nI_p2, z_jg (z_in (by omega) (by decide)), z_jg (z_in (by omega) (by decide)), nI_clamp (by omega), nI_clamp (by omega), f2, f3, z_livesThen v, z_jbd2]
        simp only [z_jb0]
        by_cases d : zlv t v = true
        · rw [if_neg (by rw [d]; decide), if_pos (by simp [zvk, c, d])]
          rfl
        · rw [if_pos (by simpa using d), if_neg (by simp [zvk, d]), ih n (i + 1) g2 (by omega) (by omega)]
      · rw [if_neg c, if_neg (by simp [zvk, c]), ih n (i + 1) g2 (by omega) (by omega)]
theorem z_vfi {hs : List zH} (h : zHi hs) {k : Int32} {τ : Nat} (hτ : τ < 100000) : zfi (zvk k (nI τ)) (zvr hs 0) 0 = (zlf hs k τ).map (zix hs) := by
  have inv : ∀ j v, (zvr hs 0)[j]? = some v → zvk k (nI τ) v = true → ∃ f, zlf hs k τ = some f ∧ j = zix hs f := fun j v hj ho => by
    obtain ⟨f, x, g1, g2, g3, g4⟩ := zvr_inv hs 0 j v hj
    rw [Nat.zero_add] at g3
    rw [g3] at ho
    simp only [zvk, Bool.and_eq_true, decide_eq_true_eq] at ho
    have hx : x.2.1 = k := ho.1
    exact ⟨f, by rw [← hx]; exact (zlv_lf h g1 g2 hτ).mp ho.2, g4⟩
  cases hz : zlf hs k τ with
  | none =>
    cases hy : zfi (zvk k (nI τ)) (zvr hs 0) 0 with
    | none => rfl
    | some j =>
      obtain ⟨_, v, v1, v2⟩ := zfi_some _ _ _ hy
      obtain ⟨f, q1, _⟩ := inv j v v1 v2
      rw [hz] at q1
      cases q1
  | some f =>
    obtain ⟨_, _, ⟨x, q1, q2, q3⟩, _⟩ := zlf_some _ _ hz
    refine zfi_uniq (zvr_at q1 q2) ?_ (fun j' v' hj' ho => ?_)
    · have : zlv (nI τ) (zver f x) = true := (zlv_lf h q1 q2 hτ).mpr (by rw [q3]; exact hz)
      simp only [zvk, Bool.and_eq_true, decide_eq_true_eq]
      exact ⟨q3, this⟩
    · obtain ⟨f', r1, r2⟩ := inv j' v' hj' ho
      rw [hz] at r1
      cases r1
      exact r2
theorem z_versionAt {hs : List zH} {w : jw} {key : Int32} {τ : Nat} (h : zMh hs (w.2.1 182)) (hi : zHi hs) (hl : hs.length ≤ 3000) (hτ : τ < 100000) : f_X12_versionAt key (nI τ) w = some (zva ((zlf hs key τ).map (zix hs)), w) := by
  have vl := zvr_le hs
  unfold f_X12_versionAt
  have := z_versionAt_l (key := key) (t := nI τ) h hl (zvr hs 0) jfu 0 rfl (Nat.zero_le _) (by show _ < 40000; omega)
  rw [z_vfi hi hτ] at this
  exact this
theorem zix_le (hs : List zH) (f : Nat) : zix hs f ≤ hs.length := by unfold zix; exact Nat.le_trans List.countP_le_length (by rw [List.length_take]; omega)
theorem q_has {S : zS} (hI : zIn S) (hl : S.2.2.2.2.length ≤ 2900) (a b : Int32) : zQ S (f_X11_has a b) (f_X12_has a b) := by
  have l0 := zHi_len hI.2
  cases h1 : zik a with
  | false => exact zQ_c (-1) (fun w _ => by unfold f_X11_has; rw [z_isKeyC, z_jbd2, h1]; rfl) (fun w _ => by unfold f_X12_has; rw [z_isKeyM, z_jbd2, h1]; rfl)
  | true =>
    cases h2 : zit (S.2.2.2.2.length - 1) b with
    | false => exact zQ_c (-1) (fun w hC => by unfold f_X11_has; rw [z_isKeyC, z_jbd2, h1, if_neg (by decide), z_isTimeC b hC hI, z_jbd2, h2]; rfl) (fun w hM => by unfold f_X12_has; rw [z_isKeyM, z_jbd2, h1, if_neg (by decide), z_isTimeM b hM, z_jbd2, h2]; rfl)
    | true =>
      obtain ⟨τ, t1, t2⟩ := zit_t (by omega) h2
      refine zQ_c (if (zlf S.2.2.2.2 a τ).isSome = true then 1 else 0) (fun w hC => ?_) (fun w hM => ?_)
      · unfold f_X11_has
        rw [z_isKeyC, z_jbd2, h1, if_neg (by decide), z_isTimeC b hC hI, z_jbd2, h2, if_neg (by decide), t2, z_livingFrom hC.2.2 (by omega) (by omega), z_jbd2]
        cases hz : zlf S.2.2.2.2 a τ with
        | none => rw [if_pos (show zof none = -1 from rfl)]; rfl
        | some f => rw [if_neg (show ¬ zof (some f) = -1 from z_nm1 (by have := (zlf_some _ _ hz).2.1; omega))]; rfl
      · unfold f_X12_has
        rw [z_isKeyM, z_jbd2, h1, if_neg (by decide), z_isTimeM b hM, z_jbd2, h2, if_neg (by decide), t2, z_versionAt hM.2.2.1 hI.2 (by omega) (by omega), z_jbd2]
        cases hz : zlf S.2.2.2.2 a τ with
        | none => rw [if_neg (show ¬ (0 : Int32) ≤ zva (Option.map (zix S.2.2.2.2) none) by show ¬ (0 : Int32) ≤ -1; decide)]; rfl
        | some f => rw [if_pos (show (0 : Int32) ≤ zva (Option.map (zix S.2.2.2.2) (some f)) from nI_pos' (by have := zix_le S.2.2.2.2 f; omega))]; rfl
theorem q_since {S : zS} (hI : zIn S) (hl : S.2.2.2.2.length ≤ 2900) (a b : Int32) : zQ S (f_X11_since a b) (f_X12_since a b) := by
  have l0 := zHi_len hI.2
  cases h1 : zik a with
  | false => exact zQ_c (-1) (fun w _ => by unfold f_X11_since; rw [z_isKeyC, z_jbd2, h1]; rfl) (fun w _ => by unfold f_X12_since; rw [z_isKeyM, z_jbd2, h1]; rfl)
  | true =>
    cases h2 : zit (S.2.2.2.2.length - 1) b with
    | false => exact zQ_c (-1) (fun w hC => by unfold f_X11_since; rw [z_isKeyC, z_jbd2, h1, if_neg (by decide), z_isTimeC b hC hI, z_jbd2, h2]; rfl) (fun w hM => by unfold f_X12_since; rw [z_isKeyM, z_jbd2, h1, if_neg (by decide), z_isTimeM b hM, z_jbd2, h2]; rfl)
    | true =>
      obtain ⟨τ, t1, t2⟩ := zit_t (by omega) h2
      refine zQ_c (match zlf S.2.2.2.2 a τ with
        | none => -2
        | some f => nI f) (fun w hC => ?_) (fun w hM => ?_)
      · unfold f_X11_since
        rw [z_isKeyC, z_jbd2, h1, if_neg (by decide), z_isTimeC b hC hI, z_jbd2, h2, if_neg (by decide), t2, z_livingFrom hC.2.2 (by omega) (by omega), z_jbd2]
        cases hz : zlf S.2.2.2.2 a τ with
        | none => rw [if_pos (show zof none = -1 from rfl)]
        | some f => rw [if_neg (show ¬ zof (some f) = -1 from z_nm1 (by have := (zlf_some _ _ hz).2.1; omega))]; rfl
      · unfold f_X12_since
        rw [z_isKeyM, z_jbd2, h1, if_neg (by decide), z_isTimeM b hM, z_jbd2, h2, if_neg (by decide), t2, z_versionAt hM.2.2.1 hI.2 (by omega) (by omega), z_jbd2]
        cases hz : zlf S.2.2.2.2 a τ with
        | none => rw [if_neg (show ¬ (0 : Int32) ≤ zva (Option.map (zix S.2.2.2.2) none) by show ¬ (0 : Int32) ≤ -1; decide)]
        | some f =>
          have zx := zix_le S.2.2.2.2 f
          obtain ⟨_, _, ⟨x, q1, q2, q3⟩, _⟩ := zlf_some _ _ hz
          rw [show zva (Option.map (zix S.2.2.2.2) (some f)) = nI (18100 + 4 * zix S.2.2.2.2 f) from rfl, if_pos (nI_pos' (by omega)), nI_1, z_jg (z_in (by omega) (by decide)), nI_clamp (by omega), (hM.2.2.1.1 _ _ (zvr_at q1 q2)).2.1]
          rfl
theorem q_value {S : zS} (hI : zIn S) (hl : S.2.2.2.2.length ≤ 2900) (a b : Int32) : zQ S (f_X11_value a b) (f_X12_value a b) := by
  have l0 := zHi_len hI.2
  cases h1 : zik a with
  | false => exact zQ_c 0 (fun w _ => by unfold f_X11_value; rw [z_isKeyC, z_jbd2, h1]; rfl) (fun w _ => by unfold f_X12_value; rw [z_isKeyM, z_jbd2, h1]; rfl)
  | true =>
    cases h2 : zit (S.2.2.2.2.length - 1) b with
    | false => exact zQ_c 0 (fun w hC => by unfold f_X11_value; rw [z_isKeyC, z_jbd2, h1, if_neg (by decide), z_isTimeC b hC hI, z_jbd2, h2]; rfl) (fun w hM => by unfold f_X12_value; rw [z_isKeyM, z_jbd2, h1, if_neg (by decide), z_isTimeM b hM, z_jbd2, h2]; rfl)
    | true =>
      obtain ⟨τ, t1, t2⟩ := zit_t (by omega) h2
      refine zQ_c (match zlf S.2.2.2.2 a τ with
        | none => 0
        | some f => (S.2.2.2.2.getD f (0, 0, 0, 0)).2.2.1) (fun w hC => ?_) (fun w hM => ?_)
      · unfold f_X11_value
        rw [z_isKeyC, z_jbd2, h1, if_neg (by decide), z_isTimeC b hC hI, z_jbd2, h2, if_neg (by decide), t2, z_livingFrom hC.2.2 (by omega) (by omega), z_jbd2]
        cases hz : zlf S.2.2.2.2 a τ with
        | none => rw [if_pos (show zof none = -1 from rfl)]
        | some f =>
          have fl := (zlf_some _ _ hz).2.1
          obtain ⟨_, _, ⟨x, q1, q2, q3⟩, _⟩ := zlf_some _ _ hz
          rw [if_neg (show ¬ zof (some f) = -1 from z_nm1 (by omega)), show zof (some f) = nI f from rfl, z_rat (by omega), hC.2.2.2.2.1, z_gm q1]
          simp [List.getD_eq_getElem?_getD, q1]
      · unfold f_X12_value
        rw [z_isKeyM, z_jbd2, h1, if_neg (by decide), z_isTimeM b hM, z_jbd2, h2, if_neg (by decide), t2, z_versionAt hM.2.2.1 hI.2 (by omega) (by omega), z_jbd2]
        cases hz : zlf S.2.2.2.2 a τ with
        | none => rw [if_neg (show ¬ (0 : Int32) ≤ zva (Option.map (zix S.2.2.2.2) none) by show ¬ (0 : Int32) ≤ -1; decide)]
        | some f =>
          have zx := zix_le S.2.2.2.2 f
          obtain ⟨_, _, ⟨x, q1, q2, q3⟩, _⟩ := zlf_some _ _ hz
          rw [show zva (Option.map (zix S.2.2.2.2) (some f)) = nI (18100 + 4 * zix S.2.2.2.2 f) from rfl, if_pos (nI_pos' (by omega)), nI_p3, z_jg (z_in (by omega) (by decide)), nI_clamp (by omega), (hM.2.2.1.1 _ _ (zvr_at q1 q2)).2.2.2]
          simp [List.getD_eq_getElem?_getD, q1, zver]
end
