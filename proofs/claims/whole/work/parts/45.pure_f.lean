section
/-! the reference's own changes of pages -/
theorem j_0 : jin 0 34700 = true := by decide
theorem j_1 : jin 1 34700 = true := by decide
theorem j_2 : jin 2 34700 = true := by decide
theorem j_3 : jin 3 34700 = true := by decide
theorem j_4 : jin 4 34700 = true := by decide
theorem j_5 : jin 5 34700 = true := by decide
theorem j_6 : jin 6 34700 = true := by decide
theorem j_7 : jin 7 34700 = true := by decide
theorem k_0 : Int32.toNatClampNeg 0 = 0 := by decide
theorem k_1 : Int32.toNatClampNeg 1 = 1 := by decide
theorem k_2 : Int32.toNatClampNeg 2 = 2 := by decide
theorem k_3 : Int32.toNatClampNeg 3 = 3 := by decide
theorem k_4 : Int32.toNatClampNeg 4 = 4 := by decide
theorem k_5 : Int32.toNatClampNeg 5 = 5 := by decide
theorem k_6 : Int32.toNatClampNeg 6 = 6 := by decide
theorem k_7 : Int32.toNatClampNeg 7 = 7 := by decide
theorem nI_p2 (a : Nat) : nI a + 2 = nI (a + 2) := nI_add a 2
theorem nI_p3 (a : Nat) : nI a + 3 = nI (a + 3) := nI_add a 3
def zfN (w w' : jw) : Prop := w'.1 = w.1 ∧ w'.2.2 = w.2.2 ∧ (∀ p, p ≠ 182 → w'.2.1 p = w.2.1 p) ∧ (∀ a, a ≠ 3 → (a < 1410 ∨ 18100 ≤ a) → w'.2.1 182 a = w.2.1 182 a)
theorem zfN_rfl (w : jw) : zfN w w := ⟨rfl, rfl, fun _ _ => rfl, fun _ _ _ => rfl⟩
theorem zfN_trans {a b c : jw} (h : zfN a b) (g : zfN b c) : zfN a c := ⟨g.1.trans h.1, g.2.1.trans h.2.1, fun p hp => (g.2.2.1 p hp).trans (h.2.2.1 p hp), fun x x1 x2 => (g.2.2.2 x x1 x2).trans (h.2.2.2 x x1 x2)⟩
theorem z_makes {B P : Nat} {pg : Nat → zP} {w : jw} (k : Int32) (h : zM B P pg (w.2.1 182)) (hP : P < 320) : ∃ w', f_X12_makes k w = some (nI P, w') ∧ zfN w w' ∧ zM B (P + 1) (zup pg P (k, w.2.1 182 0, -2, [])) (w'.2.1 182) := by
  unfold f_X12_makes
  simp only [z_jl, z_jg j_3, z_jg j_0, k_3, k_0, h.2.1, z_pa P 1410 1410 rfl, nI_1, nI_p2, nI_p3, nI_clamp (show 1410 + 4 * P < 2 ^ 31 by omega), nI_clamp (show 1410 + 4 * P + 1 < 2 ^ 31 by omega), nI_clamp (show 1410 + 4 * P + 2 < 2 ^ 31 by omega), nI_clamp (show 1410 + 4 * P + 3 < 2 ^ 31 by omega), z_jg (z_in (show 1410 + 4 * P < 34700 by omega) (by decide)), z_jg (z_in (show 1410 + 4 * P + 1 < 34700 by omega) (by decide)), z_jg (z_in (show 1410 + 4 * P + 2 < 34700 by omega) (by decide)), z_jg (z_in (show 1410 + 4 * P + 3 < 34700 by omega) (by decide)), z_jX1]
  rw [zup_ne (show 0 ≠ 1410 + 4 * P + 1 by omega), zup_ne (show 0 ≠ 1410 + 4 * P by omega), zup_ne (show 3 ≠ 1410 + 4 * P + 3 by omega), zup_ne (show 3 ≠ 1410 + 4 * P + 2 by omega), zup_ne (show 3 ≠ 1410 + 4 * P + 1 by omega), zup_ne (show 3 ≠ 1410 + 4 * P by omega), h.2.1]
  refine ⟨_, rfl, ⟨rfl, rfl, fun p hp => ?_, fun a a1 a2 => ?_⟩, ?_⟩
  · rw [z_jX2 hp, z_jX2 hp, z_jX2 hp, z_jX2 hp, z_jX2 hp]
  · rw [z_jX1, z_jX1, z_jX1, z_jX1, z_jX1, zup_ne a1, zup_ne (by omega), zup_ne (by omega), zup_ne (by omega), zup_ne (by omega)]
  · rw [z_jX1, z_jX1, z_jX1, z_jX1, z_jX1, show 1410 + 4 * P + 1 = 1411 + 4 * P by omega, show 1410 + 4 * P + 2 = 1412 + 4 * P by omega, show 1410 + 4 * P + 3 = 1413 + 4 * P by omega]
    exact zM_open h hP
theorem z_comes {B P p : Nat} {pg : Nat → zP} {w : jw} (k f v : Int32) (h : zM B P pg (w.2.1 182)) (hp : p < P) (hl : (pg p).2.2.2.length < 12) : ∃ w', f_X12_comes (nI p) k f v w = some w' ∧ zfN w w' ∧ zM B P (zup pg p ((pg p).1, (pg p).2.1, (pg p).2.2.1, (pg p).2.2.2 ++ [(k, f, -2, v)])) (w'.2.1 182) := by
  have h3 := h.2.2.1
  have hL := (h.2.2.2 p hp).2.1
  unfold f_X12_comes
  rw [z_entriesOf w (by omega), z_jbd2, hL, z_entryAt, z_jbd2]
  generalize hLL : (pg p).2.2.2.length = L at *
  simp only [z_jl, z_pa p 1410 1410 rfl, nI_1, nI_p2, nI_p3, nI_clamp (show 2700 + 48 * p + 4 * L < 2 ^ 31 by omega), nI_clamp (show 2700 + 48 * p + 4 * L + 1 < 2 ^ 31 by omega), nI_clamp (show 2700 + 48 * p + 4 * L + 2 < 2 ^ 31 by omega), nI_clamp (show 2700 + 48 * p + 4 * L + 3 < 2 ^ 31 by omega), nI_clamp (show 1410 + 4 * p + 1 < 2 ^ 31 by omega), z_jg (z_in (show 1410 + 4 * p + 1 < 34700 by omega) (by decide)), z_jg (z_in (show 2700 + 48 * p + 4 * L < 34700 by omega) (by decide)), z_jg (z_in (show 2700 + 48 * p + 4 * L + 1 < 34700 by omega) (by decide)), z_jg (z_in (show 2700 + 48 * p + 4 * L + 2 < 34700 by omega) (by decide)), z_jg (z_in (show 2700 + 48 * p + 4 * L + 3 < 34700 by omega) (by decide)), z_jX1]
  rw [zup_ne (show 1410 + 4 * p + 1 ≠ 2700 + 48 * p + 4 * L + 3 by omega), zup_ne (show 1410 + 4 * p + 1 ≠ 2700 + 48 * p + 4 * L + 2 by omega), zup_ne (show 1410 + 4 * p + 1 ≠ 2700 + 48 * p + 4 * L + 1 by omega), zup_ne (show 1410 + 4 * p + 1 ≠ 2700 + 48 * p + 4 * L by omega), show 1410 + 4 * p + 1 = 1411 + 4 * p by omega, hL]
  refine ⟨_, rfl, ⟨rfl, rfl, fun p hp => ?_, fun a a1 a2 => ?_⟩, ?_⟩
  · rw [z_jX2 hp, z_jX2 hp, z_jX2 hp, z_jX2 hp, z_jX2 hp]
  · rw [z_jX1, z_jX1, z_jX1, z_jX1, z_jX1, zup_ne (by omega), zup_ne (by omega), zup_ne (by omega), zup_ne (by omega), zup_ne (by omega)]
  · rw [z_jX1, z_jX1, z_jX1, z_jX1, z_jX1, ← hLL]
    exact zM_app h hp (by omega)
theorem z_endsM {B P p : Nat} {pg : Nat → zP} {w : jw} (h : zM B P pg (w.2.1 182)) (hp : p < P) : ∃ w', f_X12_ends (nI p) w = some w' ∧ zfN w w' ∧ zM B P (zup pg p ((pg p).1, (pg p).2.1, w.2.1 182 0, (pg p).2.2.2)) (w'.2.1 182) := by
  have h3 := h.2.2.1
  unfold f_X12_ends
  simp only [z_jl, z_jg j_0, k_0, z_pa p 1410 1410 rfl, nI_p3, nI_clamp (show 1410 + 4 * p + 3 < 2 ^ 31 by omega), z_jg (z_in (show 1410 + 4 * p + 3 < 34700 by omega) (by decide))]
  refine ⟨_, rfl, ⟨rfl, rfl, fun p hp => z_jX2 hp, fun a a1 a2 => ?_⟩, ?_⟩
  · rw [z_jX1, zup_ne (by omega)]
  · rw [z_jX1, show 1410 + 4 * p + 3 = 1413 + 4 * p by omega]
    exact zM_fin h hp
/-- the first place whose entry passes a test -/
def zfi (ok : zE → Bool) : List zE → Nat → Option Nat
  | [], _ => none
  | e :: es, i => if ok e = true then some i else zfi ok es (i + 1)
def zso (s : Nat) (b : Option Nat) : Int32 := match b with
  | none => -1
  | some i => nI (s + i)
def zao (s : Nat) (b : Option Nat) : Int32 := match b with
  | none => -1
  | some i => nI (s + 4 * i)
def zto (v : Int32) (e : zE) : Bool := znw e && decide (e.2.2.2 = v)
def ztl (v t : Int32) (e : zE) : Bool := zlv t e && decide (e.2.2.2 = v)
theorem z_entryFor_l {w : jw} {p L : Nat} {v : Int32} (hp : p < 8000) (hL : w.2.1 182 (1411 + 4 * p) = nI L) (hq : 2700 + 48 * p + 4 * L ≤ 34700) : ∀ (es : List zE) (n i : Nat), zSm (w.2.1 182) (2700 + 48 * p + 4 * i) es → i + es.length = L → es.length < n →
    l_X12_entryFor n (nI p) v (nI i) w = some (zao (2700 + 48 * p) (zfi (zto v) es i), w) := by
  intro es
  induction es with
  | nil =>
    intro n i h1 h2 h3
    cases n with
    | zero => cases h3
    | succ n =>
      unfold l_X12_entryFor
      rw [z_entriesOf w hp, z_jbd2, hL, if_pos (nI_le (by simp at h2; omega) (by omega))]
      rfl
  | cons e es ih =>
    intro n i h1 h2 h3
    simp only [List.length_cons] at h2 h3
    cases n with
    | zero => cases h3
    | succ n =>
      unfold l_X12_entryFor zfi
      rw [z_entriesOf w hp, z_jbd2, hL, if_neg (nI_ge (by omega) (by omega)), z_entryAt, z_jbd2, z_isLiving (by omega) (zSm_hd h1), z_jbd2]
      obtain ⟨f1, f2, f3, f4⟩ := zSm_hd h1
      simp only [z_jb0, z_jl, nI_1, nI_p3, z_entryAt, z_jbd2, nI_clamp (show 2700 + 48 * p + 4 * i + 3 < 2 ^ 31 by omega), z_jg (z_in (show 2700 + 48 * p + 4 * i + 3 < 34700 by omega) (by decide)), f4]
      have h4 := zSm_tl h1
      rw [show 2700 + 48 * p + 4 * i + 4 = 2700 + 48 * p + 4 * (i + 1) by omega] at h4
      by_cases c : znw e = true
      · rw [if_neg (by rw [c]; decide)]
        by_cases d : e.2.2.2 = v
        · rw [if_pos d, if_pos (by simp [zto, c, d])]
          rfl
        · rw [if_neg d, if_neg (by simp [zto, d]), ih n (i + 1) h4 (by omega) (by omega)]
      · rw [if_pos (by simpa using c), if_neg (by simp [zto, c]), ih n (i + 1) h4 (by omega) (by omega)]
theorem z_slotOf_l {w : jw} {a1 v t : Int32} {s0 : Nat} : ∀ (es : List zE) (n i : Nat), zSg (w.2.2.2 27) (w.2.2.2 29) (w.2.2.2 31) (w.2.2.2 33) (s0 + i) es → s0 + i + es.length < 2 ^ 31 → es.length < n →
    l_X1_slotOf n a1 v t (nI (s0 + i + es.length)) (nI (s0 + i)) w = some (zso s0 (zfi (ztl v t) es i), w) := by
  intro es
  induction es with
  | nil =>
    intro n i h1 h2 h3
    cases n with
    | zero => cases h3
    | succ n =>
      unfold l_X1_slotOf
      rw [if_pos (nI_le (by simp) (by omega))]
      rfl
  | cons e es ih =>
    intro n i h1 h2 h3
    simp only [List.length_cons] at h2 h3
    cases n with
    | zero => cases h3
    | succ n =>
      unfold l_X1_slotOf zfi
      have e1 : s0 + i + (e :: es).length = s0 + (i + 1) + es.length := by simp; omega
      have e2 : nI (s0 + i + 1) = nI (s0 + (i + 1)) := by rw [Nat.add_assoc]
      obtain ⟨f1, f2, f3, f4⟩ := zSg_hd h1
      have T := zSg_tl h1
      rw [Nat.add_assoc] at T
      rw [if_neg (nI_ge (by simp) (by simpa using h2)), z_rat (show s0 + i < 2 ^ 31 by omega), f2]
      by_cases d : e.2.2.2 = v
      · rw [if_pos d, z_livesAt (by omega) (zSg_hd h1), z_jbd2]
        simp only [z_jb0, z_jl, nI_1, e1, e2]
        by_cases c : zlv t e = true
        · rw [if_neg (by rw [c]; decide), if_pos (by simp [ztl, c, d])]
          rfl
        · rw [if_pos (by simpa using c), if_neg (by simp [ztl, c]), ih n (i + 1) T (by omega) (by omega)]
      · rw [if_neg d, if_neg (by simp [ztl, d])]
        simp only [z_jl, nI_1, e1, e2]
        exact ih n (i + 1) T (by omega) (by omega)
theorem zM_seg {B P p : Nat} {pg : Nat → zP} {N : Nat → Int32} (h : zM B P pg N) (hp : p < P) : zSm N (2700 + 48 * p) (pg p).2.2.2 := (h.2.2.2 p hp).2.2.2.2.2
theorem zM_L {B P p : Nat} {pg : Nat → zP} {N : Nat → Int32} (h : zM B P pg N) (hp : p < P) : N (1411 + 4 * p) = nI (pg p).2.2.2.length := (h.2.2.2 p hp).2.1
theorem zM_12 {B P p : Nat} {pg : Nat → zP} {N : Nat → Int32} (h : zM B P pg N) (hp : p < P) : (pg p).2.2.2.length ≤ 12 := (h.2.2.2 p hp).2.2.2.2.1
section
variable {B P p : Nat} {pg : Nat → zP} {w : jw} {t : Int32}
theorem z_slotOf (v : Int32) (h : zCw B P pg w) (hp : p < P) (hB : B ≤ 12) (hP : P ≤ 4000) : f_X1_slotOf (nI p) v t w = some (zso (p * B) (zfi (ztl v t) (pg p).2.2.2 0), w) := by
  have := z_pBs hp hB hP
  have := zCw_len h hp
  unfold f_X1_slotOf
  rw [z_ends h hp hP, z_jbd2, z_first h, z_jbd2]
  exact z_slotOf_l (a1 := nI p) (v := v) (t := t) (s0 := p * B) (pg p).2.2.2 jfu 0 (zCw_seg h hp) (by omega) (by show _ < 40000; omega)
theorem z_entryFor (v : Int32) (h : zM B P pg (w.2.1 182)) (hp : p < P) : f_X12_entryFor (nI p) v w = some (zao (2700 + 48 * p) (zfi (zto v) (pg p).2.2.2 0), w) := by
  have := h.2.2.1
  have := zM_12 h hp
  unfold f_X12_entryFor
  exact z_entryFor_l (by omega) (zM_L h hp) (by omega) (pg p).2.2.2 jfu 0 (zM_seg h hp) (by omega) (by show _ < 40000; omega)
theorem z_livingInM (h : zM B P pg (w.2.1 182)) (hp : p < P) : f_X12_livingIn (nI p) w = some (nI ((pg p).2.2.2.countP znw), w) := by
  have := h.2.2.1
  have := zM_12 h hp
  unfold f_X12_livingIn
  have L := z_livingInM_l (by omega) (zM_L h hp) (by omega) (pg p).2.2.2 jfu 0 0 (zM_seg h hp) (by omega) (by show _ < 40000; omega)
  rw [show nI 0 = 0 from rfl, Nat.zero_add] at L
  exact L
theorem z_livingThen (h : zM B P pg (w.2.1 182)) (hp : p < P) : f_X12_livingThen (nI p) t w = some (nI ((pg p).2.2.2.countP (zlv t)), w) := by
  have := h.2.2.1
  have := zM_12 h hp
  unfold f_X12_livingThen
  have L := z_livingThen_l (t := t) (by omega) (zM_L h hp) (by omega) (pg p).2.2.2 jfu 0 0 (zM_seg h hp) (by omega) (by show _ < 40000; omega)
  rw [show nI 0 = 0 from rfl, Nat.zero_add] at L
  exact L
theorem z_joinsAll {r : List zE} (h : zM B P pg (w.2.1 182)) (hp : p < P) (hw : zW w r) (hr : r.length + (pg p).2.2.2.length ≤ 40) : ∃ w', f_X12_joinsAll (nI p) w = some w' ∧ zfW w w' ∧ zW w' (zgat znw (pg p).2.2.2 r) := by
  have := h.2.2.1
  have := zM_12 h hp
  unfold f_X12_joinsAll
  exact z_joinsAll_l (by omega) (by omega) (pg p).2.2.2 r jfu 0 w (zM_L h hp) (zM_seg h hp) (by omega) (by show _ < 40000; omega) hw hr
theorem z_weakM (h : zM B P pg (w.2.1 182)) (hB : B ≤ 12) : f_X12_weak w = some (nI (B / 4), w) := by
  unfold f_X12_weak
  rw [z_jg j_1, k_1, h.1, show (4 : Int32) = nI 4 from rfl, pk_div (by omega) (by decide) (by decide)]
theorem z_endsAbove {i : Nat} {e : zE} (v : Int32) (h : zM B P pg (w.2.1 182)) (hp : p < P) (hi : zfi (zto v) (pg p).2.2.2 0 = some i) (he : (pg p).2.2.2[i]? = some e) : ∃ w', f_X12_endsAbove (nI p) v w = some (e.1, w') ∧ zfN w w' ∧ zM B P (zup pg p ((pg p).1, (pg p).2.1, (pg p).2.2.1, (pg p).2.2.2.set i (e.1, e.2.1, w.2.1 182 0, e.2.2.2))) (w'.2.1 182) := by
  have := h.2.2.1
  have := zM_12 h hp
  have := zlen_lt he
  unfold f_X12_endsAbove
  rw [z_entryFor v h hp, z_jbd2, hi]
  simp only [zao, z_jl, z_jg j_0, k_0, nI_p2, nI_clamp (show 2700 + 48 * p + 4 * i < 2 ^ 31 by omega), nI_clamp (show 2700 + 48 * p + 4 * i + 2 < 2 ^ 31 by omega), z_jg (z_in (show 2700 + 48 * p + 4 * i < 34700 by omega) (by decide)), z_jg (z_in (show 2700 + 48 * p + 4 * i + 2 < 34700 by omega) (by decide)), z_jX1]
  rw [zup_ne (by omega), (zM_seg h hp i e he).1]
  refine ⟨_, rfl, ⟨rfl, rfl, fun p hp => z_jX2 hp, fun a a1 a2 => ?_⟩, ?_⟩
  · rw [z_jX1, zup_ne (by omega)]
  · rw [z_jX1]
    exact zM_to h hp he
end
end
