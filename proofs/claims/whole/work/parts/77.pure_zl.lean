section
def zPf (hs : List zH) (τ f k : Nat) : Bool := match zlf hs (nI k) τ with
  | some j => decide (j < f)
  | none => false
theorem zPf_1 {hs : List zH} {τ k : Nat} : zPf hs τ 1 k = false := by
  unfold zPf
  cases hz : zlf hs (nI k) τ with
  | none => rfl
  | some j => have := (zlf_some _ _ hz).1; exact decide_eq_false (by omega)
theorem zPf_e {hs : List zH} {τ k : Nat} : zPf hs τ (τ + 1) k = zp hs τ k := by
  unfold zPf zp
  cases hz : zlf hs (nI k) τ with
  | none => rfl
  | some j => have := (zlf_some _ _ hz).2.1; exact decide_eq_true (by omega)
theorem zPf_s {hs : List zH} {τ f k : Nat} : zPf hs τ (f + 1) k = if zlf hs (nI k) τ = some f then true else zPf hs τ f k := by
  unfold zPf
  cases hz : zlf hs (nI k) τ with
  | none => rw [if_neg (fun z => by cases z)]
  | some j =>
    by_cases c : j = f
    · subst c; rw [if_pos rfl]; exact decide_eq_true (by omega)
    · rw [if_neg (fun z => c (Option.some.inj z))]
      have : j < f + 1 ↔ j < f := by omega
      simp only [this]
theorem zPf_u {hs : List zH} {τ f k κ : Nat} {x : zH} (hx : hs[f]? = some x) (hκ : κ < 1000) (e : x.2.1 = nI κ) (hk : k < 1000) (h : k ≠ κ) : zPf hs τ (f + 1) k = zPf hs τ f k := by
  rw [zPf_s]
  exact if_neg (fun z => by
    obtain ⟨_, _, ⟨y, q1, q2, q3⟩, _⟩ := zlf_some _ _ z
    rw [hx] at q1
    cases q1
    exact h ((nI_eq (by omega) (by omega)).mp (q3.symm.trans e)))
theorem zPf_n {hs : List zH} {τ f k κ : Nat} {x : zH} (hx : hs[f]? = some x) (hκ : κ < 1000) (e : x.2.1 = nI κ) (hk : k < 1000) (hn : ¬ zlf hs x.2.1 τ = some f) : zPf hs τ (f + 1) k = zPf hs τ f k := by
  by_cases c : k = κ
  · subst c
    rw [zPf_s, ← e]
    exact if_neg hn
  · exact zPf_u hx hκ e hk c
theorem zPf_y {hs : List zH} {τ f κ : Nat} {x : zH} (e : x.2.1 = nI κ) (hn : zlf hs x.2.1 τ = some f) : zPf hs τ (f + 1) κ = true := by
  rw [zPf_s, ← e]
  exact if_pos hn
theorem zPf_m {hs : List zH} {τ f k : Nat} (h : zPf hs τ f k = true) : zPf hs τ (f + 1) k = true := by
  rw [zPf_s]
  split
  · rfl
  · exact h
/-- the least from a key up -/
def zNx (p : Nat → Bool) (a : Nat) (v : Int32) : Prop := (v = -2 ∧ ∀ k, a ≤ k → k < 1000 → p k = false) ∨ ∃ m, v = nI m ∧ a ≤ m ∧ m < 1000 ∧ p m = true ∧ ∀ k, a ≤ k → k < m → p k = false
theorem zNx_u {p : Nat → Bool} {a : Nat} {v u : Int32} (h : zNx p a v) (g : zNx p a u) : v = u := by
  rcases h with ⟨h1, h2⟩ | ⟨m, h1, h2, h3, h4, h5⟩
  · rcases g with ⟨g1, g2⟩ | ⟨l, g1, g2, g3, g4, g5⟩
    · rw [h1, g1]
    · rw [h2 l g2 g3] at g4; cases g4
  · rcases g with ⟨g1, g2⟩ | ⟨l, g1, g2, g3, g4, g5⟩
    · rw [g2 m h2 h3] at h4; cases h4
    · have : m = l := by
        rcases Nat.lt_trichotomy m l with c | c | c
        · rw [g5 m h2 c] at h4; cases h4
        · exact c
        · rw [h5 l g2 c] at g4; cases g4
      rw [h1, g1, this]
theorem zNx_c {p q : Nat → Bool} {a : Nat} {v : Int32} (e : ∀ k, a ≤ k → k < 1000 → q k = p k) (h : zNx p a v) : zNx q a v := by
  rcases h with ⟨h1, h2⟩ | ⟨m, h1, h2, h3, h4, h5⟩
  · exact Or.inl ⟨h1, fun k k1 k2 => by rw [e k k1 k2]; exact h2 k k1 k2⟩
  · exact Or.inr ⟨m, h1, h2, h3, by rw [e m h2 h3]; exact h4, fun k k1 k2 => by rw [e k k1 (by omega)]; exact h5 k k1 k2⟩
/-- the greatest from a key down -/
def zPr (p : Nat → Bool) (a : Nat) (v : Int32) : Prop := (v = -2 ∧ ∀ k, k ≤ a → p k = false) ∨ ∃ m, v = nI m ∧ m ≤ a ∧ p m = true ∧ ∀ k, m < k → k ≤ a → p k = false
theorem zPr_u {p : Nat → Bool} {a : Nat} {v u : Int32} (h : zPr p a v) (g : zPr p a u) : v = u := by
  rcases h with ⟨h1, h2⟩ | ⟨m, h1, h2, h4, h5⟩
  · rcases g with ⟨g1, g2⟩ | ⟨l, g1, g2, g4, g5⟩
    · rw [h1, g1]
    · rw [h2 l g2] at g4; cases g4
  · rcases g with ⟨g1, g2⟩ | ⟨l, g1, g2, g4, g5⟩
    · rw [g2 m h2] at h4; cases h4
    · have : m = l := by
        rcases Nat.lt_trichotomy m l with c | c | c
        · rw [h5 l c g2] at g4; cases g4
        · exact c
        · rw [g5 m c h2] at h4; cases h4
      rw [h1, g1, this]
theorem zPr_c {p q : Nat → Bool} {a : Nat} {v : Int32} (e : ∀ k, k ≤ a → q k = p k) (h : zPr p a v) : zPr q a v := by
  rcases h with ⟨h1, h2⟩ | ⟨m, h1, h2, h4, h5⟩
  · exact Or.inl ⟨h1, fun k k1 => by rw [e k k1]; exact h2 k k1⟩
  · exact Or.inr ⟨m, h1, h2, by rw [e m h2]; exact h4, fun k k1 k2 => by rw [e k k2]; exact h5 k k1 k2⟩
theorem z_nm2 {n : Nat} (h : n < 2 ^ 31) : ¬ nI n = -2 := fun e => nI_pos h (by rw [e]; decide)
theorem z_upC_l {hs : List zH} {w : jw} {τ a : Nat} (hC : zCh hs w) (hi : zHi hs) (hl : hs.length ≤ 3000) (hτ : τ < hs.length) (ha : a < 1000) : ∀ (d n f : Nat) (b : Int32), f + d = τ + 1 → 1 ≤ f → d < n → zNx (zPf hs τ f) a b → ∃ v, l_X3_fromKeyUp n (nI a) (nI τ) b (nI f) w = some (v, w) ∧ zNx (zPf hs τ (τ + 1)) a v := by
  intro d
  induction d with
  | zero =>
    intro n f b h1 h2 h3 h4
    cases n with
    | zero => cases h3
    | succ n =>
      unfold l_X3_fromKeyUp
      rw [if_pos (nI_lt (by omega) (by omega))]
      exact ⟨b, rfl, by rw [← show f = τ + 1 by omega]; exact h4⟩
  | succ d ih =>
    intro n f b h1 h2 h3 h4
    cases n with
    | zero => cases h3
    | succ n =>
      have hx := List.getElem?_eq_getElem (show f < hs.length by omega)
      obtain ⟨κ, κ1, κ2⟩ := zHk hi h2 hx
      unfold l_X3_fromKeyUp
      rw [if_neg (nI_nlt (by omega) (by omega)), z_rat (by omega), hC.1, z_gm hx, z_jl]
      have R : ∀ b', zNx (zPf hs τ (f + 1)) a b' → ∃ v, l_X3_fromKeyUp n (nI a) (nI τ) b' (nI (f + 1)) w = some (v, w) ∧ zNx (zPf hs τ (τ + 1)) a v := fun b' hb => ih n (f + 1) b' (by omega) (by omega) (by omega) hb
      by_cases c1 : κ < a
      · rw [if_pos (show hs[f].2.1 < nI a by rw [κ2]; exact nI_lt c1 (by omega)), z_jl, nI_1]
        exact R b (zNx_c (fun k k1 k2 => zPf_u hx κ1 κ2 k2 (by omega)) h4)
      · rw [if_neg (show ¬ hs[f].2.1 < nI a by rw [κ2]; exact nI_nlt (by omega) (by omega))]
        rcases h4 with ⟨g1, g2⟩ | ⟨m, g1, g2, g3, g4, g5⟩
        · rw [if_pos g1, z_lives2 hC hi hx hl (by omega), z_jbd2]
          by_cases c3 : zlf hs hs[f].2.1 τ = some f
          · rw [decide_eq_true c3, if_neg (by decide), z_jl, nI_1]
            exact R _ (Or.inr ⟨κ, κ2, by omega, κ1, zPf_y κ2 c3, fun k k1 k2 => by rw [zPf_u hx κ1 κ2 (by omega) (by omega)]; exact g2 k k1 (by omega)⟩)
          · rw [decide_eq_false c3, if_pos (show jb false = 0 from rfl), z_jl, nI_1]
            exact R b (zNx_c (fun k k1 k2 => zPf_n hx κ1 κ2 k2 c3) (Or.inl ⟨g1, g2⟩))
        · rw [if_neg (show ¬ b = -2 by rw [g1]; exact z_nm2 (by omega))]
          by_cases c2 : m ≤ κ
          · rw [if_pos (show b ≤ hs[f].2.1 by rw [g1, κ2]; exact nI_le c2 (by omega)), z_jl, nI_1]
            exact R b (Or.inr ⟨m, g1, g2, g3, zPf_m g4, fun k k1 k2 => by rw [zPf_u hx κ1 κ2 (by omega) (by omega)]; exact g5 k k1 k2⟩)
          · rw [if_neg (show ¬ b ≤ hs[f].2.1 by rw [g1, κ2]; exact nI_ge (by omega) (by omega)), z_lives2 hC hi hx hl (by omega), z_jbd2]
            by_cases c3 : zlf hs hs[f].2.1 τ = some f
            · rw [decide_eq_true c3, if_neg (by decide), z_jl, nI_1]
              exact R _ (Or.inr ⟨κ, κ2, by omega, κ1, zPf_y κ2 c3, fun k k1 k2 => by rw [zPf_u hx κ1 κ2 (by omega) (by omega)]; exact g5 k k1 (by omega)⟩)
            · rw [decide_eq_false c3, if_pos (show jb false = 0 from rfl), z_jl, nI_1]
              exact R b (zNx_c (fun k k1 k2 => zPf_n hx κ1 κ2 k2 c3) (Or.inr ⟨m, g1, g2, g3, g4, g5⟩))
theorem z_dnC_l {hs : List zH} {w : jw} {τ a : Nat} (hC : zCh hs w) (hi : zHi hs) (hl : hs.length ≤ 3000) (hτ : τ < hs.length) (ha : a < 1000) : ∀ (d n f : Nat) (b : Int32), f + d = τ + 1 → 1 ≤ f → d < n → zPr (zPf hs τ f) a b → ∃ v, l_X3_fromKeyDown n (nI a) (nI τ) b (nI f) w = some (v, w) ∧ zPr (zPf hs τ (τ + 1)) a v := by
  intro d
  induction d with
  | zero =>
    intro n f b h1 h2 h3 h4
    cases n with
    | zero => cases h3
    | succ n =>
      unfold l_X3_fromKeyDown
      rw [if_pos (nI_lt (by omega) (by omega))]
      exact ⟨b, rfl, by rw [← show f = τ + 1 by omega]; exact h4⟩
  | succ d ih =>
    intro n f b h1 h2 h3 h4
    cases n with
    | zero => cases h3
    | succ n =>
      have hx := List.getElem?_eq_getElem (show f < hs.length by omega)
      obtain ⟨κ, κ1, κ2⟩ := zHk hi h2 hx
      unfold l_X3_fromKeyDown
      rw [if_neg (nI_nlt (by omega) (by omega)), z_rat (by omega), hC.1, z_gm hx, z_jl]
      have R : ∀ b', zPr (zPf hs τ (f + 1)) a b' → ∃ v, l_X3_fromKeyDown n (nI a) (nI τ) b' (nI (f + 1)) w = some (v, w) ∧ zPr (zPf hs τ (τ + 1)) a v := fun b' hb => ih n (f + 1) b' (by omega) (by omega) (by omega) hb
      by_cases c1 : a < κ
      · rw [if_pos (show nI a < hs[f].2.1 by rw [κ2]; exact nI_lt c1 (by omega)), z_jl, nI_1]
        exact R b (zPr_c (fun k k1 => zPf_u hx κ1 κ2 (by omega) (by omega)) h4)
      · rw [if_neg (show ¬ nI a < hs[f].2.1 by rw [κ2]; exact nI_nlt (by omega) (by omega))]
        rcases h4 with ⟨g1, g2⟩ | ⟨m, g1, g2, g4, g5⟩
        · rw [if_neg (show ¬ hs[f].2.1 ≤ b by rw [g1, κ2]; exact fun z => absurd (Int32.le_iff_toInt_le.mp z) (by rw [nI_toInt (by omega)]; show ¬ ((κ : Int) ≤ -2); omega)), z_lives2 hC hi hx hl (by omega), z_jbd2]
          by_cases c3 : zlf hs hs[f].2.1 τ = some f
          · rw [decide_eq_true c3, if_neg (by decide), z_jl, nI_1]
            exact R _ (Or.inr ⟨κ, κ2, by omega, zPf_y κ2 c3, fun k k1 k2 => by rw [zPf_u hx κ1 κ2 (by omega) (by omega)]; exact g2 k k2⟩)
          · rw [decide_eq_false c3, if_pos (show jb false = 0 from rfl), z_jl, nI_1]
            exact R b (zPr_c (fun k k1 => zPf_n hx κ1 κ2 (by omega) c3) (Or.inl ⟨g1, g2⟩))
        · by_cases c2 : κ ≤ m
          · rw [if_pos (show hs[f].2.1 ≤ b by rw [g1, κ2]; exact nI_le c2 (by omega)), z_jl, nI_1]
            exact R b (Or.inr ⟨m, g1, g2, zPf_m g4, fun k k1 k2 => by rw [zPf_u hx κ1 κ2 (by omega) (by omega)]; exact g5 k k1 k2⟩)
          · rw [if_neg (show ¬ hs[f].2.1 ≤ b by rw [g1, κ2]; exact nI_ge (by omega) (by omega)), z_lives2 hC hi hx hl (by omega), z_jbd2]
            by_cases c3 : zlf hs hs[f].2.1 τ = some f
            · rw [decide_eq_true c3, if_neg (by decide), z_jl, nI_1]
              exact R _ (Or.inr ⟨κ, κ2, by omega, zPf_y κ2 c3, fun k k1 k2 => by rw [zPf_u hx κ1 κ2 (by omega) (by omega)]; exact g5 k (by omega) k2⟩)
            · rw [decide_eq_false c3, if_pos (show jb false = 0 from rfl), z_jl, nI_1]
              exact R b (zPr_c (fun k k1 => zPf_n hx κ1 κ2 (by omega) c3) (Or.inr ⟨m, g1, g2, g4, g5⟩))
theorem z_nextM_l {p : Nat → Bool} {w : jw} {a1 a2 : Int32} {a : Nat} (h : ∀ k, k < 1000 → (w.2.1 187 k < 0 ↔ p k = false)) : ∀ (d n k : Nat), k + d = 1000 → a ≤ k → d < n → (∀ j, a ≤ j → j < k → p j = false) → ∃ v, l_X12_next n a1 a2 (nI k) w = some (v, w) ∧ zNx p a v := by
  intro d
  induction d with
  | zero =>
    intro n k h1 h0 h2 h3
    cases n with
    | zero => cases h2
    | succ n =>
      unfold l_X12_next
      rw [if_pos (show (1000 : Int32) ≤ nI k from nI_le (a := 1000) (by omega) (by omega))]
      exact ⟨-2, rfl, Or.inl ⟨rfl, fun j j1 j2 => h3 j j1 (by omega)⟩⟩
  | succ d ih =>
    intro n k h1 h0 h2 h3
    cases n with
    | zero => cases h2
    | succ n =>
      unfold l_X12_next
      rw [if_neg (show ¬ (1000 : Int32) ≤ nI k from nI_ge (b := 1000) (by omega) (by decide)), z_jg (z_in (by omega) (by decide)), nI_clamp (by omega)]
      cases hp : p k with
      | false =>
        rw [if_pos ((h k (by omega)).mpr hp), z_jl, nI_1]
        exact ih n (k + 1) (by omega) (by omega) (by omega) (fun j j1 j2 => by
          by_cases c : j = k
          · rw [c]; exact hp
          · exact h3 j j1 (by omega))
      | true =>
        rw [if_neg (fun z => by rw [(h k (by omega)).mp z] at hp; cases hp)]
        exact ⟨nI k, rfl, Or.inr ⟨k, rfl, h0, by omega, hp, h3⟩⟩
theorem z_priorM_l {p : Nat → Bool} {w : jw} {a1 a2 : Int32} {a : Nat} (ha : a < 1000) (h : ∀ k, k < 1000 → (w.2.1 187 k < 0 ↔ p k = false)) : ∀ (k n : Nat), k ≤ a → k + 1 < n → (∀ j, k < j → j ≤ a → p j = false) → ∃ v, l_X12_prior n a1 a2 (nI k) w = some (v, w) ∧ zPr p a v := by
  intro k
  induction k with
  | zero =>
    intro n h1 h2 h3
    cases n with
    | zero => cases h2
    | succ n =>
      unfold l_X12_prior
      rw [if_neg (nI_pos (by omega)), z_jg (z_in (by omega) (by decide)), nI_clamp (by omega)]
      cases hp : p 0 with
      | false =>
        rw [if_pos ((h 0 (by omega)).mpr hp), z_jl, show nI 0 + -1 = -1 from rfl]
        cases n with
        | zero => omega
        | succ n =>
          unfold l_X12_prior
          rw [if_pos z_m1]
          exact ⟨-2, rfl, Or.inl ⟨rfl, fun j j1 => by
            by_cases c : j = 0
            · rw [c]; exact hp
            · exact h3 j (by omega) j1⟩⟩
      | true =>
        rw [if_neg (fun z => by rw [(h 0 (by omega)).mp z] at hp; cases hp)]
        exact ⟨nI 0, rfl, Or.inr ⟨0, rfl, h1, hp, h3⟩⟩
  | succ k ih =>
    intro n h1 h2 h3
    cases n with
    | zero => cases h2
    | succ n =>
      unfold l_X12_prior
      rw [if_neg (nI_pos (by omega)), z_jg (z_in (by omega) (by decide)), nI_clamp (by omega)]
      cases hp : p (k + 1) with
      | false =>
        rw [if_pos ((h (k + 1) (by omega)).mpr hp), z_jl, show nI (k + 1) + -1 = nI k from (Int32.sub_eq_add_neg (nI (k + 1)) 1).symm.trans (nI_pred k)]
        exact ih n (by omega) (by omega) (fun j j1 j2 => by
          by_cases c : j = k + 1
          · rw [c]; exact hp
          · exact h3 j (by omega) j2)
      | true =>
        rw [if_neg (fun z => by rw [(h (k + 1) (by omega)).mp z] at hp; cases hp)]
        exact ⟨nI (k + 1), rfl, Or.inr ⟨k + 1, rfl, h1, hp, h3⟩⟩
theorem q_next {S : zS} (hI : zIn S) (hl : S.2.2.2.2.length ≤ 2900) (a c : Int32) : zQ S (f_X11_next a c) (f_X12_next a c) := by
  have l0 := zHi_len hI.2
  cases h1 : zik a with
  | false => exact zQ_c (-1) (fun w hC => by unfold f_X11_next; rw [z_isKeyC, z_jbd2, h1]; rfl) (fun w hM => by unfold f_X12_next; rw [z_isKeyM, z_jbd2, h1]; rfl)
  | true =>
    cases h2 : zit (S.2.2.2.2.length - 1) c with
    | false => exact zQ_c (-1) (fun w hC => by unfold f_X11_next; rw [z_isKeyC, z_jbd2, h1, if_neg (by decide), z_isTimeC c hC hI, z_jbd2, h2]; rfl) (fun w hM => by unfold f_X12_next; rw [z_isKeyM, z_jbd2, h1, if_neg (by decide), z_isTimeM c hM, z_jbd2, h2]; rfl)
    | true =>
      obtain ⟨t, t1, t2⟩ := zit_t (by omega) h2
      obtain ⟨k, k1, k2⟩ := zik_t h1
      subst t2 k2
      intro w wm hC hM
      obtain ⟨w1, d1, d2, d3⟩ := z_fillsThen (τ := t) hM.2.2.1 hI.2 (by omega) (by omega)
      obtain ⟨v, v1, v2⟩ := z_upC_l (w := w) (τ := t) (a := k) hC.2.2 hI.2 (by omega) (by omega) k1 t jfu 1 (-2) (by omega) (by omega) (by show _ < 40000; omega) (Or.inl ⟨rfl, fun k _ _ => zPf_1⟩)
      obtain ⟨u, u1, u2⟩ := z_nextM_l (w := w1) (a1 := nI k) (a2 := nI t) (p := zp S.2.2.2.2 t) (a := k) (fun j hj => by rw [d3 j hj]; exact zarrn (by omega)) (1000 - k) jfu k (by omega) (Nat.le_refl _) (by show _ < 40000; omega) (fun j _ _ => by omega)
      have e : v = u := zNx_u (zNx_c (fun k _ _ => zPf_e.symm) v2) u2
      subst e
      refine ⟨v, w, w1, ?_, zfQc_rfl w, ?_, zfQm_A (Or.inl rfl) d2⟩
      · unfold f_X11_next f_X3_fromKeyUp
        rw [z_isKeyC, z_jbd2, h1, if_neg (by decide), z_isTimeC _ hC hI, z_jbd2, h2, if_neg (by decide)]
        exact (congrArg (fun o => jbd2 o _) v1).trans (z_jbd2 _ _ _)
      · unfold f_X12_next
        rw [z_isKeyM, z_jbd2, h1, if_neg (by decide), z_isTimeM _ hM, z_jbd2, h2, if_neg (by decide), d1, z_jbd, u1]
theorem q_prior {S : zS} (hI : zIn S) (hl : S.2.2.2.2.length ≤ 2900) (a c : Int32) : zQ S (f_X11_prior a c) (f_X12_prior a c) := by
  have l0 := zHi_len hI.2
  cases h1 : zik a with
  | false => exact zQ_c (-1) (fun w hC => by unfold f_X11_prior; rw [z_isKeyC, z_jbd2, h1]; rfl) (fun w hM => by unfold f_X12_prior; rw [z_isKeyM, z_jbd2, h1]; rfl)
  | true =>
    cases h2 : zit (S.2.2.2.2.length - 1) c with
    | false => exact zQ_c (-1) (fun w hC => by unfold f_X11_prior; rw [z_isKeyC, z_jbd2, h1, if_neg (by decide), z_isTimeC c hC hI, z_jbd2, h2]; rfl) (fun w hM => by unfold f_X12_prior; rw [z_isKeyM, z_jbd2, h1, if_neg (by decide), z_isTimeM c hM, z_jbd2, h2]; rfl)
    | true =>
      obtain ⟨t, t1, t2⟩ := zit_t (by omega) h2
      obtain ⟨k, k1, k2⟩ := zik_t h1
      subst t2 k2
      intro w wm hC hM
      obtain ⟨w1, d1, d2, d3⟩ := z_fillsThen (τ := t) hM.2.2.1 hI.2 (by omega) (by omega)
      obtain ⟨v, v1, v2⟩ := z_dnC_l (w := w) (τ := t) (a := k) hC.2.2 hI.2 (by omega) (by omega) k1 t jfu 1 (-2) (by omega) (by omega) (by show _ < 40000; omega) (Or.inl ⟨rfl, fun k _ => zPf_1⟩)
      obtain ⟨u, u1, u2⟩ := z_priorM_l (w := w1) (a1 := nI k) (a2 := nI t) (p := zp S.2.2.2.2 t) (a := k) k1 (fun j hj => by rw [d3 j hj]; exact zarrn (by omega)) k jfu (Nat.le_refl _) (by show _ < 40000; omega) (fun j _ _ => by omega)
      have e : v = u := zPr_u (zPr_c (fun k _ => zPf_e.symm) v2) u2
      subst e
      refine ⟨v, w, w1, ?_, zfQc_rfl w, ?_, zfQm_A (Or.inl rfl) d2⟩
      · unfold f_X11_prior f_X3_fromKeyDown
        rw [z_isKeyC, z_jbd2, h1, if_neg (by decide), z_isTimeC _ hC hI, z_jbd2, h2, if_neg (by decide)]
        exact (congrArg (fun o => jbd2 o _) v1).trans (z_jbd2 _ _ _)
      · unfold f_X12_prior
        rw [z_isKeyM, z_jbd2, h1, if_neg (by decide), z_isTimeM _ hM, z_jbd2, h2, if_neg (by decide), d1, z_jbd, u1]
end
