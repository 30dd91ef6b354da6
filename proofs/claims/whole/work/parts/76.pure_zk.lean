section
theorem zHk {hs : List zH} (hi : zHi hs) {f : Nat} {x : zH} (h1 : 1 ≤ f) (hf : hs[f]? = some x) : ∃ k, k < 1000 ∧ x.2.1 = nI k := by
  obtain ⟨_, a, b⟩ := hi.2.2.1 f x h1 hf
  obtain ⟨j, j1, e⟩ := nI_of a
  exact ⟨j, by rw [e] at b; exact (nI_ltI (b := 1000) j1 (by decide)).mp b, e⟩
theorem z_lives2 {hs : List zH} {w : jw} {f τ : Nat} {x : zH} (hC : zCh hs w) (hi : zHi hs) (hf : hs[f]? = some x) (hl : hs.length ≤ 3000) (hτ : τ < 100000) : f_X2_livesAt (nI f) (nI τ) w = some (decide (zlf hs x.2.1 τ = some f), w) := by
  have fl := (List.getElem?_eq_some_iff.mp hf).1
  unfold f_X2_livesAt
  rw [z_rat (by omega), z_rat (by omega), hC.2.2.2.1, hC.2.1, z_gm hf, z_gm hf, z_jl]
  by_cases c : x.1 = 1
  · rw [if_pos c]
    have q := zlv_lf hi hf (show zpt x = true by simp [zpt, c]) hτ
    have : decide (zlf hs x.2.1 τ = some f) = zlv (nI τ) (zver f x) := by
      rw [Bool.eq_iff_iff, q, decide_eq_true_iff]
    rw [this]
    show _ = some ((if nI τ < nI f then false else if x.2.2.2 = -2 then true else if x.2.2.2 ≤ nI τ then false else true), w)
    by_cases d : nI τ < nI f
    · rw [if_pos d, if_pos d]
    · rw [if_neg d, if_neg d]
      by_cases e : x.2.2.2 = -2
      · rw [if_pos e, if_pos e]
      · rw [if_neg e, if_neg e]
        by_cases g : x.2.2.2 ≤ nI τ
        · rw [if_pos g, if_pos g]
        · rw [if_neg g, if_neg g]
  · rw [if_neg c]
    have : ¬ zlf hs x.2.1 τ = some f := fun z => by
      obtain ⟨_, _, ⟨y, q1, q2, q3⟩, _⟩ := zlf_some _ _ z
      rw [hf] at q1
      cases q1
      exact c (by simpa [zpt] using q2)
    rw [decide_eq_false this]
/-- sums -/
def zSu (F : Nat → Int32) : Nat → Nat → Int32
  | 0, _ => 0
  | d + 1, k => F k + zSu F d (k + 1)
theorem zSu_c {F G : Nat → Int32} : ∀ d k, (∀ i, k ≤ i → i < k + d → F i = G i) → zSu F d k = zSu G d k := by
  intro d
  induction d with
  | zero => intro k _; rfl
  | succ d ih =>
    intro k h
    unfold zSu
    rw [h k (by omega) (by omega), ih (k + 1) (fun i i1 i2 => h i (by omega) (by omega))]
theorem zSu_z : ∀ d k, zSu (fun _ => 0) d k = 0 := by
  intro d
  induction d with
  | zero => intro k; rfl
  | succ d ih => intro k; unfold zSu; rw [ih]; rfl
theorem zSu_0 {F : Nat → Int32} (d k : Nat) (h : ∀ i, k ≤ i → i < k + d → F i = 0) : zSu F d k = 0 := (zSu_c d k h).trans (zSu_z d k)
theorem zSu_1 {F : Nat → Int32} {j : Nat} : ∀ d k, k ≤ j → j < k + d → (∀ i, k ≤ i → i < k + d → i ≠ j → F i = 0) → zSu F d k = F j := by
  intro d
  induction d with
  | zero => intro k h1 h2 _; omega
  | succ d ih =>
    intro k h1 h2 h
    unfold zSu
    by_cases c : k = j
    · subst c
      rw [zSu_0 d (k + 1) (fun i i1 i2 => h i (by omega) (by omega) (by omega)), Int32.add_zero]
    · rw [h k (by omega) (by omega) c, ih (k + 1) (by omega) (by omega) (fun i i1 i2 i3 => h i (by omega) (by omega) i3), Int32.zero_add]
theorem zSu_a {F G : Nat → Int32} : ∀ d k, zSu (fun i => F i + G i) d k = zSu F d k + zSu G d k := by
  intro d
  induction d with
  | zero => intro k; rfl
  | succ d ih =>
    intro k
    unfold zSu
    rw [ih, Int32.add_assoc, Int32.add_assoc, ← Int32.add_assoc (G k), Int32.add_comm (G k), Int32.add_assoc (zSu F d (k + 1))]
theorem zSu_s {E : Nat → Nat → Int32} {e l : Nat} : ∀ d k, zSu (fun i => zSu (E i) e l) d k = zSu (fun j => zSu (fun i => E i j) d k) e l := by
  intro d
  induction d with
  | zero => intro k; exact (zSu_z e l).symm
  | succ d ih =>
    intro k
    show zSu (E k) e l + zSu (fun i => zSu (E i) e l) d (k + 1) = zSu (fun j => E k j + zSu (fun i => E i j) d (k + 1)) e l
    rw [ih, zSu_a]
def zcE (hs : List zH) (τ : Nat) (g : Nat → Int32) (f k : Nat) : Int32 := if zlf hs (nI k) τ = some f then g f else 0
def zcA (hs : List zH) (τ : Nat) (g : Nat → Int32) (la lb f : Nat) : Int32 := if (hs.getD f (0, 0, 0, 0)).2.1 < nI la then 0 else if nI lb < (hs.getD f (0, 0, 0, 0)).2.1 then 0 else if zlf hs (hs.getD f (0, 0, 0, 0)).2.1 τ = some f then g f else 0
def zcG (hs : List zH) (τ : Nat) (g : Nat → Int32) (k : Nat) : Int32 := match zlf hs (nI k) τ with
  | some f => g f
  | none => 0
theorem z_gd0 {hs : List zH} {f : Nat} {x : zH} (h : hs[f]? = some x) : hs.getD f (0, 0, 0, 0) = x := by simp [List.getD_eq_getElem?_getD, h]
theorem zc_eq {hs : List zH} {τ la lb : Nat} (g : Nat → Int32) (hi : zHi hs) (hτ : τ < hs.length) (hb : lb < 1000) (ha : la < 1000) : zSu (zcA hs τ g la lb) τ 1 = zSu (zcG hs τ g) (lb + 1 - la) la := by
  have A : zSu (zcA hs τ g la lb) τ 1 = zSu (fun f => zSu (zcE hs τ g f) (lb + 1 - la) la) τ 1 := zSu_c _ _ (fun f f1 f2 => by
    have hx := List.getElem?_eq_getElem (show f < hs.length by omega)
    obtain ⟨k, k1, k2⟩ := zHk hi f1 hx
    have U : ∀ i, i < 1000 → zlf hs (nI i) τ = some f → i = k := fun i i1 z => by
      obtain ⟨_, _, ⟨y, q1, q2, q3⟩, _⟩ := zlf_some _ _ z
      rw [hx] at q1
      cases q1
      exact (nI_eq (by omega) (by omega)).mp (q3.symm.trans k2)
    unfold zcA
    rw [z_gd0 hx, k2]
    by_cases c : k < la
    · rw [if_pos (nI_lt c (by omega))]
      exact (zSu_0 _ _ (fun i i1 i2 => if_neg (fun z => by have := U i (by omega) z; omega))).symm
    · rw [if_neg (nI_nlt (by omega) (by omega))]
      by_cases d : lb < k
      · rw [if_pos (nI_lt d (by omega))]
        exact (zSu_0 _ _ (fun i i1 i2 => if_neg (fun z => by have := U i (by omega) z; omega))).symm
      · rw [if_neg (nI_nlt (by omega) (by omega))]
        exact (zSu_1 (j := k) _ _ (by omega) (by omega) (fun i i1 i2 i3 => if_neg (fun z => i3 (U i (by omega) z)))).symm)
  rw [A, zSu_s]
  exact zSu_c _ _ (fun k k1 k2 => by
    unfold zcG
    cases hz : zlf hs (nI k) τ with
    | none => exact zSu_0 _ _ (fun i _ _ => by unfold zcE; rw [hz]; exact if_neg (fun z => by cases z))
    | some f =>
      have q := zlf_some _ _ hz
      rw [zSu_1 (j := f) _ _ q.1 (by omega) (fun i _ _ i3 => by unfold zcE; rw [hz]; exact if_neg (fun z => i3 (Option.some.inj z).symm))]
      unfold zcE
      rw [hz, if_pos rfl])

theorem z_manyC_l {hs : List zH} {w : jw} {τ la lb : Nat} (hC : zCh hs w) (hi : zHi hs) (hl : hs.length ≤ 3000) (hτ : τ < hs.length) : ∀ (d n f : Nat) (c : Int32), f + d = τ + 1 → 1 ≤ f → d < n → l_X3_livingIn n (nI la) (nI lb) (nI τ) c (nI f) w = some (c + zSu (zcA hs τ (fun _ => 1) la lb) d f, w) := by
  intro d
  induction d with
  | zero =>
    intro n f c h1 h2 h3
    cases n with
    | zero => cases h3
    | succ n =>
      unfold l_X3_livingIn
      rw [if_pos (nI_lt (by omega) (by omega))]
      show _ = some (c + 0, w)
      rw [Int32.add_zero]
  | succ d ih =>
    intro n f c h1 h2 h3
    cases n with
    | zero => cases h3
    | succ n =>
      have hx := List.getElem?_eq_getElem (show f < hs.length by omega)
      unfold l_X3_livingIn
      rw [if_neg (nI_nlt (by omega) (by omega)), z_rat (by omega), hC.1, z_gm hx, z_jl]
      have R : ∀ c', l_X3_livingIn n (nI la) (nI lb) (nI τ) c' (nI (f + 1)) w = some (c' + zSu (zcA hs τ (fun _ => 1) la lb) d (f + 1), w) := fun c' => ih n (f + 1) c' (by omega) (by omega) (by omega)
      show _ = some (c + (zcA hs τ (fun _ => 1) la lb f + zSu (zcA hs τ (fun _ => 1) la lb) d (f + 1)), w)
      have e : zcA hs τ (fun _ => 1) la lb f = if hs[f].2.1 < nI la then 0 else if nI lb < hs[f].2.1 then 0 else if zlf hs hs[f].2.1 τ = some f then (fun _ => 1) f else 0 := by unfold zcA; rw [z_gd0 hx]
      rw [e]
      by_cases c1 : hs[f].2.1 < nI la
      · rw [if_pos c1, if_pos c1, z_jl, nI_1, R, Int32.zero_add]
      · rw [if_neg c1, if_neg c1]
        by_cases c2 : nI lb < hs[f].2.1
        · rw [if_pos c2, if_pos c2, z_jl, nI_1, R, Int32.zero_add]
        · rw [if_neg c2, if_neg c2, z_lives2 hC hi hx hl (by omega), z_jbd2]
          by_cases c3 : zlf hs hs[f].2.1 τ = some f
          · rw [if_pos c3, decide_eq_true c3, if_neg (by decide), z_jl, z_jl, nI_1, R, Int32.add_assoc]
          · rw [if_neg c3, decide_eq_false c3, if_pos (show jb false = 0 from rfl), z_jl, nI_1, R, Int32.zero_add]
theorem z_manyM_l {hs : List zH} {w : jw} {a1 a3 : Int32} {τ lb : Nat} (hM : zMh hs (w.2.1 182)) (hl : hs.length ≤ 3000) (hb : lb < 1000) (h5 : ∀ k, k < 1000 → w.2.1 187 k = zva ((zlf hs (nI k) τ).map (zix hs))) : ∀ (d n k : Nat) (c : Int32), d = lb + 1 - k → k ≤ 1000 → d < n → l_X12_many n a1 (nI lb) a3 c (nI k) w = some (c + zSu (zcG hs τ (fun _ => 1)) d k, w) := by
  intro d
  induction d with
  | zero =>
    intro n k c h1 h2 h3
    cases n with
    | zero => cases h3
    | succ n =>
      unfold l_X12_many
      rw [if_pos (nI_lt (by omega) (by omega))]
      show _ = some (c + 0, w)
      rw [Int32.add_zero]
  | succ d ih =>
    intro n k c h1 h2 h3
    cases n with
    | zero => cases h3
    | succ n =>
      unfold l_X12_many
      rw [if_neg (nI_nlt (by omega) (by omega)), z_jg (z_in (by omega) (by decide)), nI_clamp (by omega), h5 k (by omega)]
      have R : ∀ c', l_X12_many n a1 (nI lb) a3 c' (nI (k + 1)) w = some (c' + zSu (zcG hs τ (fun _ => 1)) d (k + 1), w) := fun c' => ih n (k + 1) c' (by omega) (by omega) (by omega)
      show _ = some (c + (zcG hs τ (fun _ => 1) k + zSu (zcG hs τ (fun _ => 1)) d (k + 1)), w)
      cases hz : zlf hs (nI k) τ with
      | none =>
        have e : zcG hs τ (fun _ => 1) k = 0 := by unfold zcG; rw [hz]
        rw [e, if_pos (show zva (Option.map (zix hs) none) < 0 from z_m1), z_jl, nI_1, R, Int32.zero_add]
      | some f =>
        have xf := zix_le hs f
        have e : zcG hs τ (fun _ => 1) k = (fun _ => 1) f := by unfold zcG; rw [hz]
        rw [e, show zva (Option.map (zix hs) (some f)) = nI (18100 + 4 * zix hs f) from rfl, if_neg (nI_pos (by omega)), z_jl, z_jl, nI_1, R, Int32.add_assoc]
theorem q_many {S : zS} (hI : zIn S) (hl : S.2.2.2.2.length ≤ 2900) (a b c : Int32) : zQ S (f_X11_many a b c) (f_X12_many a b c) := by
  have l0 := zHi_len hI.2
  cases h1 : (zik a && zik b) with
  | false => exact zQ_c (-1) (fun w hC => by unfold f_X11_many; rw [z_isRangeC, z_jbd2, h1]; rfl) (fun w hM => by unfold f_X12_many; rw [z_isRangeM, z_jbd2, h1]; rfl)
  | true =>
    cases h2 : zit (S.2.2.2.2.length - 1) c with
    | false => exact zQ_c (-1) (fun w hC => by unfold f_X11_many; rw [z_isRangeC, z_jbd2, h1, if_neg (by decide), z_isTimeC c hC hI, z_jbd2, h2]; rfl) (fun w hM => by unfold f_X12_many; rw [z_isRangeM, z_jbd2, h1, if_neg (by decide), z_isTimeM c hM, z_jbd2, h2]; rfl)
    | true =>
      obtain ⟨t, t1, t2⟩ := zit_t (by omega) h2
      obtain ⟨ka, kb⟩ := zand h1
      obtain ⟨la, la1, la2⟩ := zik_t ka
      obtain ⟨lb, lb1, lb2⟩ := zik_t kb
      subst t2 la2 lb2
      intro w wm hC hM
      obtain ⟨w1, d1, d2, d3⟩ := z_fillsThen (τ := t) hM.2.2.1 hI.2 (by omega) (by omega)
      have m1 : w1.2.1 182 = wm.2.1 182 := d2.2.2 182 (by decide)
      refine ⟨0 + zSu (zcA S.2.2.2.2 t (fun _ => 1) la lb) t 1, w, w1, ?_, zfQc_rfl w, ?_, zfQm_A (Or.inl rfl) d2⟩
      · unfold f_X11_many f_X3_livingIn
        have r := z_manyC_l (w := w) (τ := t) (la := la) (lb := lb) hC.2.2 hI.2 (by omega) (by omega) t jfu 1 0 (by omega) (by omega) (by show _ < 40000; omega)
        rw [show nI 1 = 1 from rfl] at r
        rw [z_isRangeC, z_jbd2, h1, if_neg (by decide), z_isTimeC _ hC hI, z_jbd2, h2, if_neg (by decide), r, z_jbd2]
      · unfold f_X12_many
        rw [z_isRangeM, z_jbd2, h1, if_neg (by decide), z_isTimeM _ hM, z_jbd2, h2, if_neg (by decide), d1, z_jbd, z_manyM_l (τ := t) (by rw [m1]; exact hM.2.2.1) (by omega) lb1 d3 (lb + 1 - la) jfu la 0 rfl (by omega) (by show _ < 40000; omega), zc_eq _ hI.2 (by omega) lb1 la1]

theorem z_sumC_l {hs : List zH} {w : jw} {τ la lb : Nat} (hC : zCh hs w) (hi : zHi hs) (hl : hs.length ≤ 3000) (hτ : τ < hs.length) : ∀ (d n f : Nat) (c : Int32), f + d = τ + 1 → 1 ≤ f → d < n → l_X3_totalIn n (nI la) (nI lb) (nI τ) c (nI f) w = some (c + zSu (zcA hs τ (fun f => (hs.getD f (0, 0, 0, 0)).2.2.1) la lb) d f, w) := by
  intro d
  induction d with
  | zero =>
    intro n f c h1 h2 h3
    cases n with
    | zero => cases h3
    | succ n =>
      unfold l_X3_totalIn
      rw [if_pos (nI_lt (by omega) (by omega))]
      show _ = some (c + 0, w)
      rw [Int32.add_zero]
  | succ d ih =>
    intro n f c h1 h2 h3
    cases n with
    | zero => cases h3
    | succ n =>
      have hx := List.getElem?_eq_getElem (show f < hs.length by omega)
      unfold l_X3_totalIn
      rw [if_neg (nI_nlt (by omega) (by omega)), z_rat (by omega), hC.1, z_gm hx, z_jl]
      have R : ∀ c', l_X3_totalIn n (nI la) (nI lb) (nI τ) c' (nI (f + 1)) w = some (c' + zSu (zcA hs τ (fun f => (hs.getD f (0, 0, 0, 0)).2.2.1) la lb) d (f + 1), w) := fun c' => ih n (f + 1) c' (by omega) (by omega) (by omega)
      show _ = some (c + (zcA hs τ (fun f => (hs.getD f (0, 0, 0, 0)).2.2.1) la lb f + zSu (zcA hs τ (fun f => (hs.getD f (0, 0, 0, 0)).2.2.1) la lb) d (f + 1)), w)
      have e : zcA hs τ (fun f => (hs.getD f (0, 0, 0, 0)).2.2.1) la lb f = if hs[f].2.1 < nI la then 0 else if nI lb < hs[f].2.1 then 0 else if zlf hs hs[f].2.1 τ = some f then (fun f => (hs.getD f (0, 0, 0, 0)).2.2.1) f else 0 := by unfold zcA; rw [z_gd0 hx]
      rw [e]
      by_cases c1 : hs[f].2.1 < nI la
      · rw [if_pos c1, if_pos c1, z_jl, nI_1, R, Int32.zero_add]
      · rw [if_neg c1, if_neg c1]
        by_cases c2 : nI lb < hs[f].2.1
        · rw [if_pos c2, if_pos c2, z_jl, nI_1, R, Int32.zero_add]
        · rw [if_neg c2, if_neg c2, z_lives2 hC hi hx hl (by omega), z_jbd2]
          by_cases c3 : zlf hs hs[f].2.1 τ = some f
          · rw [if_pos c3, decide_eq_true c3, if_neg (by decide), z_vC hC (by omega) hl, z_jl, z_jl, nI_1, R, Int32.add_assoc]
          · rw [if_neg c3, decide_eq_false c3, if_pos (show jb false = 0 from rfl), z_jl, nI_1, R, Int32.zero_add]
theorem z_sumM_l {hs : List zH} {w : jw} {a1 a3 : Int32} {τ lb : Nat} (hM : zMh hs (w.2.1 182)) (hl : hs.length ≤ 3000) (hb : lb < 1000) (h5 : ∀ k, k < 1000 → w.2.1 187 k = zva ((zlf hs (nI k) τ).map (zix hs))) : ∀ (d n k : Nat) (c : Int32), d = lb + 1 - k → k ≤ 1000 → d < n → l_X12_sum n a1 (nI lb) a3 c (nI k) w = some (c + zSu (zcG hs τ (fun f => (hs.getD f (0, 0, 0, 0)).2.2.1)) d k, w) := by
  intro d
  induction d with
  | zero =>
    intro n k c h1 h2 h3
    cases n with
    | zero => cases h3
    | succ n =>
      unfold l_X12_sum
      rw [if_pos (nI_lt (by omega) (by omega))]
      show _ = some (c + 0, w)
      rw [Int32.add_zero]
  | succ d ih =>
    intro n k c h1 h2 h3
    cases n with
    | zero => cases h3
    | succ n =>
      unfold l_X12_sum
      rw [if_neg (nI_nlt (by omega) (by omega)), z_jg (z_in (by omega) (by decide)), nI_clamp (by omega), h5 k (by omega)]
      have R : ∀ c', l_X12_sum n a1 (nI lb) a3 c' (nI (k + 1)) w = some (c' + zSu (zcG hs τ (fun f => (hs.getD f (0, 0, 0, 0)).2.2.1)) d (k + 1), w) := fun c' => ih n (k + 1) c' (by omega) (by omega) (by omega)
      show _ = some (c + (zcG hs τ (fun f => (hs.getD f (0, 0, 0, 0)).2.2.1) k + zSu (zcG hs τ (fun f => (hs.getD f (0, 0, 0, 0)).2.2.1)) d (k + 1)), w)
      cases hz : zlf hs (nI k) τ with
      | none =>
        have e : zcG hs τ (fun f => (hs.getD f (0, 0, 0, 0)).2.2.1) k = 0 := by unfold zcG; rw [hz]
        rw [e, if_pos (show zva (Option.map (zix hs) none) < 0 from z_m1), z_jl, nI_1, R, Int32.zero_add]
      | some f =>
        have xf := zix_le hs f
        have e : zcG hs τ (fun f => (hs.getD f (0, 0, 0, 0)).2.2.1) k = (fun f => (hs.getD f (0, 0, 0, 0)).2.2.1) f := by unfold zcG; rw [hz]
        rw [e, show zva (Option.map (zix hs) (some f)) = nI (18100 + 4 * zix hs f) from rfl, if_neg (nI_pos (by omega)), z_jg (z_in (by omega) (by decide)), nI_p3, z_jg (z_in (by omega) (by decide)), nI_clamp (by omega), z_vM hM hz, z_jl, z_jl, nI_1, R, Int32.add_assoc]
theorem q_sum {S : zS} (hI : zIn S) (hl : S.2.2.2.2.length ≤ 2900) (a b c : Int32) : zQ S (f_X11_sum a b c) (f_X12_sum a b c) := by
  have l0 := zHi_len hI.2
  cases h1 : (zik a && zik b) with
  | false => exact zQ_c 0 (fun w hC => by unfold f_X11_sum; rw [z_isRangeC, z_jbd2, h1]; rfl) (fun w hM => by unfold f_X12_sum; rw [z_isRangeM, z_jbd2, h1]; rfl)
  | true =>
    cases h2 : zit (S.2.2.2.2.length - 1) c with
    | false => exact zQ_c 0 (fun w hC => by unfold f_X11_sum; rw [z_isRangeC, z_jbd2, h1, if_neg (by decide), z_isTimeC c hC hI, z_jbd2, h2]; rfl) (fun w hM => by unfold f_X12_sum; rw [z_isRangeM, z_jbd2, h1, if_neg (by decide), z_isTimeM c hM, z_jbd2, h2]; rfl)
    | true =>
      obtain ⟨t, t1, t2⟩ := zit_t (by omega) h2
      obtain ⟨ka, kb⟩ := zand h1
      obtain ⟨la, la1, la2⟩ := zik_t ka
      obtain ⟨lb, lb1, lb2⟩ := zik_t kb
      subst t2 la2 lb2
      intro w wm hC hM
      obtain ⟨w1, d1, d2, d3⟩ := z_fillsThen (τ := t) hM.2.2.1 hI.2 (by omega) (by omega)
      have m1 : w1.2.1 182 = wm.2.1 182 := d2.2.2 182 (by decide)
      refine ⟨0 + zSu (zcA S.2.2.2.2 t (fun f => (S.2.2.2.2.getD f (0, 0, 0, 0)).2.2.1) la lb) t 1, w, w1, ?_, zfQc_rfl w, ?_, zfQm_A (Or.inl rfl) d2⟩
      · unfold f_X11_sum f_X3_totalIn
        have r := z_sumC_l (w := w) (τ := t) (la := la) (lb := lb) hC.2.2 hI.2 (by omega) (by omega) t jfu 1 0 (by omega) (by omega) (by show _ < 40000; omega)
        rw [show nI 1 = 1 from rfl] at r
        rw [z_isRangeC, z_jbd2, h1, if_neg (by decide), z_isTimeC _ hC hI, z_jbd2, h2, if_neg (by decide), r, z_jbd2]
      · unfold f_X12_sum
        rw [z_isRangeM, z_jbd2, h1, if_neg (by decide), z_isTimeM _ hM, z_jbd2, h2, if_neg (by decide), d1, z_jbd, z_sumM_l (τ := t) (by rw [m1]; exact hM.2.2.1) (by omega) lb1 d3 (lb + 1 - la) jfu la 0 rfl (by omega) (by show _ < 40000; omega), zc_eq _ hI.2 (by omega) lb1 la1]

end
