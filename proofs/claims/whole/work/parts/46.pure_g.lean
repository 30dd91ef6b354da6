section
theorem zW_N {w w' : jw} {r : List zE} (h : zW w r) (f : zfN w w') : zW w' r := by
  unfold zW
  rw [f.1, f.2.2.1 184 (by decide), f.2.2.1 185 (by decide), f.2.2.1 186 (by decide)]
  exact h
theorem z_newPage_l {B P p en : Nat} {k b2 : Int32} {r : List zE} (hp : p < P) (hr : r.length ≤ 40) (hto : ∀ e ∈ r, e.2.2.1 = -2) (hen : en ≤ r.length) : ∀ (d n i : Nat) (w : jw) (pg : Nat → zP), i + d = en → d < n → zM B P pg (w.2.1 182) → zW w r → (pg p).2.2.2.length + d ≤ 12 →
    ∃ w', l_X12_newPage n k b2 (nI en) (nI p) (nI i) w = some (nI p, w') ∧ zfN w w' ∧ zM B P (zup pg p ((pg p).1, (pg p).2.1, (pg p).2.2.1, (pg p).2.2.2 ++ (r.drop i).take d)) (w'.2.1 182) := by
  intro d
  induction d with
  | zero =>
    intro n i w pg h1 h2 h3 h4 h5
    cases n with
    | zero => cases h2
    | succ n =>
      unfold l_X12_newPage
      rw [if_pos (nI_le (by omega) (by omega))]
      refine ⟨w, rfl, zfN_rfl w, ?_⟩
      rw [List.take_zero, List.append_nil, show ((pg p).1, (pg p).2.1, (pg p).2.2.1, (pg p).2.2.2) = pg p from rfl, zup_self]
      exact h3
  | succ d ih =>
    intro n i w pg h1 h2 h3 h4 h5
    obtain ⟨e, he⟩ : ∃ e, r[i]? = some e := ⟨r[i]'(by omega), List.getElem?_eq_getElem (by omega)⟩
    cases n with
    | zero => cases h2
    | succ n =>
      unfold l_X12_newPage
      have g := z_in (show i < 40 by omega) (by decide)
      obtain ⟨a1, a2, a3⟩ := h4.2 i e he
      rw [if_neg (nI_ge (by omega) (by omega))]
      simp only [z_jg g, z_jl, nI_1, nI_clamp (show i < 2 ^ 31 by omega), a1, a2, a3]
      obtain ⟨w1, q1, q2, q3⟩ := z_comes e.1 e.2.1 e.2.2.2 h3 hp (by omega)
      rw [q1, z_jbd]
      have e4 : (e.1, e.2.1, (-2 : Int32), e.2.2.2) = e := by rw [← hto e (List.mem_of_getElem? he)]
      rw [e4] at q3
      obtain ⟨w2, p1, p2, p3⟩ := ih n (i + 1) w1 _ (by omega) (by omega) q3 (zW_N h4 q2) (by rw [zup_eq]; simp; omega)
      refine ⟨w2, p1, zfN_trans q2 p2, ?_⟩
      rw [zup_eq, zup_zup] at p3
      have dd : (r.drop i).take (d + 1) = e :: (r.drop (i + 1)).take d := by
        rw [List.drop_eq_getElem_cons (by omega : i < r.length), List.take_succ_cons]
        congr 1
        rw [List.getElem?_eq_getElem (by omega)] at he
        exact Option.some.inj he
      rw [dd]
      simpa using p3
theorem z_newPage {B P a b : Nat} {pg : Nat → zP} {w : jw} {r : List zE} (k : Int32) (h : zM B P pg (w.2.1 182)) (hw : zW w r) (hP : P < 320) (hr : r.length ≤ 40) (hto : ∀ e ∈ r, e.2.2.1 = -2) (hab : a ≤ b) (hb : b ≤ r.length) (h12 : b - a ≤ 12) :
    ∃ w', f_X12_newPage k (nI a) (nI b) w = some (nI P, w') ∧ zfN w w' ∧ zM B (P + 1) (zup pg P (k, w.2.1 182 0, -2, (r.drop a).take (b - a))) (w'.2.1 182) := by
  unfold f_X12_newPage
  obtain ⟨w1, q1, q2, q3⟩ := z_makes k h hP
  rw [q1, z_jbd2]
  obtain ⟨w2, p1, p2, p3⟩ := z_newPage_l (k := k) (b2 := nI a) (Nat.lt_succ_self P) hr hto hb (b - a) jfu a w1 _ (by omega) (by show _ < 40000; omega) q3 (zW_N hw q2) (by rw [zup_eq]; show 0 + (b - a) ≤ 12; omega)
  refine ⟨w2, p1, zfN_trans q2 p2, ?_⟩
  rw [zup_eq, zup_zup] at p3
  exact p3
/-! the sibling -/
def zna (b : Int32) (e : zE) : Bool := znw e && decide (b < e.1)
def znb (b : Int32) (e : zE) : Bool := znw e && decide (e.1 < b)
def znk (b : Int32) (e : zE) : Bool := znw e && decide (e.1 ≤ b)
def zch (N : Nat → Int32) (s : Nat) (b : Option (Nat × Int32)) : Int32 := match b with
  | none => N 2
  | some q => N (s + 4 * q.1 + 3)
def zbst (ok : zE → Bool) (bt : Int32 → Int32 → Bool) (i : Nat) (e : zE) (b : Option (Nat × Int32)) : Option (Nat × Int32) := if ok e = true then (match b with
    | none => some (i, e.1)
    | some q => if bt e.1 q.2 = true then some (i, e.1) else b) else b
theorem zbs_cons (ok : zE → Bool) (bt : Int32 → Int32 → Bool) (e : zE) (es : List zE) (i : Nat) (b : Option (Nat × Int32)) : zbs ok bt (e :: es) i b = zbs ok bt es (i + 1) (zbst ok bt i e b) := rfl
def zbk (N : Nat → Int32) (s i : Nat) (b : Option (Nat × Int32)) : Prop := ∀ q, b = some q → q.1 < i ∧ N (s + 4 * q.1) = q.2
theorem zbk_st {N : Nat → Int32} {s i : Nat} {b : Option (Nat × Int32)} (ok : zE → Bool) (bt : Int32 → Int32 → Bool) {e : zE} (h : zbk N s i b) (he : N (s + 4 * i) = e.1) : zbk N s (i + 1) (zbst ok bt i e b) := by
  intro q hq
  have old : ∀ q, b = some q → q.1 < i + 1 ∧ N (s + 4 * q.1) = q.2 := fun q hq => ⟨by have := (h q hq).1; omega, (h q hq).2⟩
  unfold zbst at hq
  split at hq
  · split at hq
    · cases hq; exact ⟨by omega, he⟩
    · split at hq
      · cases hq; exact ⟨by omega, he⟩
      · exact old q hq
  · exact old q hq
theorem z_neg1 : (-1 : Int32) < 0 := by decide
theorem z_sib_l {w : jw} {p L : Nat} {v bd : Int32} (hp : p < 320) (hL : w.2.1 182 (1411 + 4 * p) = nI L) (hq : L ≤ 12) : ∀ (es : List zE) (n i : Nat) (ba bb : Option (Nat × Int32)), zSm (w.2.1 182) (2700 + 48 * p + 4 * i) es → i + es.length = L → es.length < n → zbk (w.2.1 182) (2700 + 48 * p) i ba → zbk (w.2.1 182) (2700 + 48 * p) i bb →
    l_X12_siblingOf n (nI p) v bd (zad (2700 + 48 * p) ba) (zad (2700 + 48 * p) bb) (nI i) w = some ((match zbs (zna bd) zlt es i ba with
      | some q => w.2.1 182 (2700 + 48 * p + 4 * q.1 + 3)
      | none => match zbs (znb bd) zgt es i bb with
        | some q => w.2.1 182 (2700 + 48 * p + 4 * q.1 + 3)
        | none => -1), w) := by
  intro es
  induction es with
  | nil =>
    intro n i ba bb h1 h2 h3 ka kb
    simp only [List.length_nil] at h2
    cases n with
    | zero => cases h3
    | succ n =>
      unfold l_X12_siblingOf zbs
      rw [z_entriesOf w (by omega), z_jbd2, hL, if_pos (nI_le (by omega) (by omega))]
      cases ba with
      | some q =>
        have := (ka q rfl).1
        rw [if_neg (show ¬ zad (2700 + 48 * p) (some q) < 0 from nI_pos (by omega))]
        simp only [zad, nI_p3, z_jg (z_in (show 2700 + 48 * p + 4 * q.1 + 3 < 34700 by omega) (by decide)), nI_clamp (show 2700 + 48 * p + 4 * q.1 + 3 < 2 ^ 31 by omega), z_jbd]
      | none =>
        rw [if_pos (show zad (2700 + 48 * p) none < 0 from z_neg1)]
        cases bb with
        | some q =>
          have := (kb q rfl).1
          rw [if_neg (show ¬ zad (2700 + 48 * p) (some q) < 0 from nI_pos (by omega))]
          simp only [zad, nI_p3, z_jg (z_in (show 2700 + 48 * p + 4 * q.1 + 3 < 34700 by omega) (by decide)), nI_clamp (show 2700 + 48 * p + 4 * q.1 + 3 < 2 ^ 31 by omega), z_jbd]
        | none =>
          rw [if_pos (show zad (2700 + 48 * p) none < 0 from z_neg1)]
          rfl
  | cons e es ih =>
    intro n i ba bb h1 h2 h3 ka kb
    simp only [List.length_cons] at h2 h3
    cases n with
    | zero => cases h3
    | succ n =>
      have f1 := (zSm_hd h1).1
      have h4 := zSm_tl h1
      rw [show 2700 + 48 * p + 4 * i + 4 = 2700 + 48 * p + 4 * (i + 1) by omega] at h4
      have R := ih n (i + 1) (zbst (zna bd) zlt i e ba) (zbst (znb bd) zgt i e bb) h4 (by omega) (by omega) (zbk_st _ _ ka f1) (zbk_st _ _ kb f1)
      unfold l_X12_siblingOf
      rw [zbs_cons, zbs_cons, ← R, z_entriesOf w (by omega), z_jbd2, hL, if_neg (nI_ge (by omega) (by omega)), z_entryAt, z_jbd2, z_isLiving (by omega) (zSm_hd h1), z_jbd2]
      have g0 := z_in (show 2700 + 48 * p + 4 * i < 34700 by omega) (by decide)
      simp only [z_jb0, z_jl, nI_1, nI_clamp (show 2700 + 48 * p + 4 * i < 2 ^ 31 by omega), z_jg g0, f1]
      by_cases c : znw e = true
      · rw [if_neg (by rw [c]; decide)]
        have A : (if e.1 ≤ bd then some (zad (2700 + 48 * p) ba) else (if zad (2700 + 48 * p) ba < 0 then some (nI (2700 + 48 * p + 4 * i)) else jg (jin (zad (2700 + 48 * p) ba) 34700) (if w.2.1 182 (Int32.toNatClampNeg (zad (2700 + 48 * p) ba)) ≤ e.1 then some (zad (2700 + 48 * p) ba) else some (nI (2700 + 48 * p + 4 * i))))) = some (zad (2700 + 48 * p) (zbst (zna bd) zlt i e ba)) := by
          unfold zbst
          by_cases d : e.1 ≤ bd
          · rw [if_pos d, if_neg (by simp [zna, Int32.not_lt, d])]
          · rw [if_neg d, if_pos (show zna bd e = true by simp [zna, c, Int32.not_le.mp d])]
            cases ba with
            | none => rw [if_pos (show zad (2700 + 48 * p) none < 0 from z_neg1)]; rfl
            | some q =>
              have := (ka q rfl).1
              rw [if_neg (show ¬ zad (2700 + 48 * p) (some q) < 0 from nI_pos (by omega))]
              simp only [zad, z_jg (z_in (show 2700 + 48 * p + 4 * q.1 < 34700 by omega) (by decide)), nI_clamp (show 2700 + 48 * p + 4 * q.1 < 2 ^ 31 by omega), (ka q rfl).2]
              by_cases d2 : q.2 ≤ e.1
              · rw [if_pos d2, if_neg (by simp [zlt, Int32.not_lt, d2])]
              · rw [if_neg d2, if_pos (by simp [zlt, Int32.not_le.mp d2])]
        have Bq : ∀ x : Int32, (if bd ≤ e.1 then some (x, zad (2700 + 48 * p) bb) else (if zad (2700 + 48 * p) bb < 0 then some (x, nI (2700 + 48 * p + 4 * i)) else jg (jin (zad (2700 + 48 * p) bb) 34700) (if e.1 ≤ w.2.1 182 (Int32.toNatClampNeg (zad (2700 + 48 * p) bb)) then some (x, zad (2700 + 48 * p) bb) else some (x, nI (2700 + 48 * p + 4 * i))))) = some (x, zad (2700 + 48 * p) (zbst (znb bd) zgt i e bb)) := by
          intro x
          unfold zbst
          by_cases d : bd ≤ e.1
          · rw [if_pos d, if_neg (by simp [znb, Int32.not_lt, d])]
          · rw [if_neg d, if_pos (show znb bd e = true by simp [znb, c, Int32.not_le.mp d])]
            cases bb with
            | none => rw [if_pos (show zad (2700 + 48 * p) none < 0 from z_neg1)]; rfl
            | some q =>
              have := (kb q rfl).1
              rw [if_neg (show ¬ zad (2700 + 48 * p) (some q) < 0 from nI_pos (by omega))]
              simp only [zad, z_jg (z_in (show 2700 + 48 * p + 4 * q.1 < 34700 by omega) (by decide)), nI_clamp (show 2700 + 48 * p + 4 * q.1 < 2 ^ 31 by omega), (kb q rfl).2]
              by_cases d2 : e.1 ≤ q.2
              · rw [if_pos d2, if_neg (by simp [zgt, Int32.not_lt, d2])]
              · rw [if_neg d2, if_pos (by simp [zgt, Int32.not_le.mp d2])]
        rw [A, z_jbd, Bq, z_jbd2]
      · rw [if_pos (by simpa using c), z_jbd2]
        have e1 : zbst (zna bd) zlt i e ba = ba := by unfold zbst; rw [if_neg (by simp [zna, c])]
        have e2 : zbst (znb bd) zgt i e bb = bb := by unfold zbst; rw [if_neg (by simp [znb, c])]
        rw [e1, e2]
/-! the way down -/
theorem z_childOf_l {w : jw} {p L : Nat} {key : Int32} (hp : p < 320) (hL : w.2.1 182 (1411 + 4 * p) = nI L) (hq : L ≤ 12) : ∀ (es : List zE) (n i : Nat) (b : Option (Nat × Int32)), zSm (w.2.1 182) (2700 + 48 * p + 4 * i) es → i + es.length = L → es.length < n → zbk (w.2.1 182) (2700 + 48 * p) i b →
    l_X12_childOf n (nI p) key (zad (2700 + 48 * p) b) (nI i) w = some (zch (w.2.1 182) (2700 + 48 * p) (zbs (znk key) zgt es i b), w) := by
  intro es
  induction es with
  | nil =>
    intro n i b h1 h2 h3 kb
    simp only [List.length_nil] at h2
    cases n with
    | zero => cases h3
    | succ n =>
      unfold l_X12_childOf zbs
      rw [z_entriesOf w (by omega), z_jbd2, hL, if_pos (nI_le (by omega) (by omega))]
      cases b with
      | some q =>
        have := (kb q rfl).1
        simp only [zad, zch, nI_p3, z_jg (z_in (show 2700 + 48 * p + 4 * q.1 + 3 < 34700 by omega) (by decide)), nI_clamp (show 2700 + 48 * p + 4 * q.1 + 3 < 2 ^ 31 by omega)]
      | none =>
        show jg (jin (-1 + 3) 34700) (some (w.2.1 182 (Int32.toNatClampNeg (-1 + 3)), w)) = _
        rw [show (-1 + 3 : Int32) = 2 by decide, z_jg j_2, k_2]
        rfl
  | cons e es ih =>
    intro n i b h1 h2 h3 kb
    simp only [List.length_cons] at h2 h3
    cases n with
    | zero => cases h3
    | succ n =>
      have f1 := (zSm_hd h1).1
      have h4 := zSm_tl h1
      rw [show 2700 + 48 * p + 4 * i + 4 = 2700 + 48 * p + 4 * (i + 1) by omega] at h4
      have R := ih n (i + 1) (zbst (znk key) zgt i e b) h4 (by omega) (by omega) (zbk_st _ _ kb f1)
      unfold l_X12_childOf
      rw [zbs_cons, ← R, z_entriesOf w (by omega), z_jbd2, hL, if_neg (nI_ge (by omega) (by omega)), z_entryAt, z_jbd2, z_isLiving (by omega) (zSm_hd h1), z_jbd2]
      have g0 := z_in (show 2700 + 48 * p + 4 * i < 34700 by omega) (by decide)
      simp only [z_jb0, z_jl, nI_1, nI_clamp (show 2700 + 48 * p + 4 * i < 2 ^ 31 by omega), z_jg g0, f1]
      unfold zbst
      by_cases c : znw e = true
      · rw [if_neg (by rw [c]; decide)]
        by_cases d : key < e.1
        · rw [if_pos d, if_neg (by simp [znk, Int32.not_le, d])]
        · rw [if_neg d, if_pos (show znk key e = true by simp [znk, c, Int32.not_lt.mp d])]
          cases b with
          | none => rw [if_pos (show zad (2700 + 48 * p) none < 0 from z_neg1)]; rfl
          | some q =>
            have := (kb q rfl).1
            rw [if_neg (show ¬ zad (2700 + 48 * p) (some q) < 0 from nI_pos (by omega))]
            simp only [zad, z_jg (z_in (show 2700 + 48 * p + 4 * q.1 < 34700 by omega) (by decide)), nI_clamp (show 2700 + 48 * p + 4 * q.1 < 2 ^ 31 by omega), (kb q rfl).2]
            by_cases d2 : e.1 ≤ q.2
            · rw [if_pos d2, if_neg (by simp [zgt, Int32.not_lt, d2])]
            · rw [if_neg d2, if_pos (by simp [zgt, Int32.not_le.mp d2])]
      · rw [if_pos (by simpa using c), if_neg (by simp [znk, c])]
theorem z_childThen_l {w : jw} {p L : Nat} {key t : Int32} (hp : p < 320) (hL : w.2.1 182 (1411 + 4 * p) = nI L) (hq : L ≤ 12) : ∀ (es : List zE) (n i : Nat) (b : Option (Nat × Int32)), zSm (w.2.1 182) (2700 + 48 * p + 4 * i) es → i + es.length = L → es.length < n → zbk (w.2.1 182) (2700 + 48 * p) i b →
    l_X12_childThen n (nI p) key t (zad (2700 + 48 * p) b) (nI i) w = some (zch (w.2.1 182) (2700 + 48 * p) (zbs (ztw key t) zgt es i b), w) := by
  intro es
  induction es with
  | nil =>
    intro n i b h1 h2 h3 kb
    simp only [List.length_nil] at h2
    cases n with
    | zero => cases h3
    | succ n =>
      unfold l_X12_childThen zbs
      rw [z_entriesOf w (by omega), z_jbd2, hL, if_pos (nI_le (by omega) (by omega))]
      cases b with
      | some q =>
        have := (kb q rfl).1
        simp only [zad, zch, nI_p3, z_jg (z_in (show 2700 + 48 * p + 4 * q.1 + 3 < 34700 by omega) (by decide)), nI_clamp (show 2700 + 48 * p + 4 * q.1 + 3 < 2 ^ 31 by omega)]
      | none =>
        show jg (jin (-1 + 3) 34700) (some (w.2.1 182 (Int32.toNatClampNeg (-1 + 3)), w)) = _
        rw [show (-1 + 3 : Int32) = 2 by decide, z_jg j_2, k_2]
        rfl
  | cons e es ih =>
    intro n i b h1 h2 h3 kb
    simp only [List.length_cons] at h2 h3
    cases n with
    | zero => cases h3
    | succ n =>
      have f1 := (zSm_hd h1).1
      have h4 := zSm_tl h1
      rw [show 2700 + 48 * p + 4 * i + 4 = 2700 + 48 * p + 4 * (i + 1) by omega] at h4
      have R := ih n (i + 1) (zbst (ztw key t) zgt i e b) h4 (by omega) (by omega) (zbk_st _ _ kb f1)
      unfold l_X12_childThen
      rw [zbs_cons, ← R, z_entriesOf w (by omega), z_jbd2, hL, if_neg (nI_ge (by omega) (by omega)), z_entryAt, z_jbd2, z_entryThen (by omega) (zSm_hd h1), z_jbd2]
      have g0 := z_in (show 2700 + 48 * p + 4 * i < 34700 by omega) (by decide)
      simp only [z_jb0, z_jl, nI_1, nI_clamp (show 2700 + 48 * p + 4 * i < 2 ^ 31 by omega), z_jg g0, f1]
      unfold zbst
      by_cases c : zlv t e = true
      · rw [if_neg (by rw [c]; decide)]
        by_cases d : key < e.1
        · rw [if_pos d, if_neg (by simp [ztw, Int32.not_le, d])]
        · rw [if_neg d, if_pos (show ztw key t e = true by simp [ztw, c, Int32.not_lt.mp d])]
          cases b with
          | none => rw [if_pos (show zad (2700 + 48 * p) none < 0 from z_neg1)]; rfl
          | some q =>
            have := (kb q rfl).1
            rw [if_neg (show ¬ zad (2700 + 48 * p) (some q) < 0 from nI_pos (by omega))]
            simp only [zad, z_jg (z_in (show 2700 + 48 * p + 4 * q.1 < 34700 by omega) (by decide)), nI_clamp (show 2700 + 48 * p + 4 * q.1 < 2 ^ 31 by omega), (kb q rfl).2]
            by_cases d2 : e.1 ≤ q.2
            · rw [if_pos d2, if_neg (by simp [zgt, Int32.not_lt, d2])]
            · rw [if_neg d2, if_pos (by simp [zgt, Int32.not_le.mp d2])]
      · rw [if_pos (by simpa using c), if_neg (by simp [ztw, c])]
/-- the entry of a key ends -/
def zen (key T : Int32) (e : zE) : zE := if znw e = true ∧ e.1 = key then (e.1, e.2.1, T, e.2.2.2) else e
theorem z_entryEnds_l {B P p : Nat} {key T : Int32} : ∀ (es : List zE) (n i : Nat) (w : jw) (pg : Nat → zP), p < P → zM B P pg (w.2.1 182) → w.2.1 182 0 = T → (pg p).2.2.2.drop i = es → i ≤ (pg p).2.2.2.length → es.length < n →
    ∃ w', l_X12_entryEnds n (nI p) key (nI i) w = some w' ∧ zfN w w' ∧ zM B P (zup pg p ((pg p).1, (pg p).2.1, (pg p).2.2.1, (pg p).2.2.2.take i ++ es.map (zen key T))) (w'.2.1 182) := by
  intro es
  induction es with
  | nil =>
    intro n i w pg hp h1 h2 h3 h4 h5
    have := h1.2.2.1
    have := zM_12 h1 hp
    have hi : (pg p).2.2.2.length ≤ i := by simpa using h3
    cases n with
    | zero => cases h5
    | succ n =>
      unfold l_X12_entryEnds
      rw [z_entriesOf w (by omega), z_jbd2, zM_L h1 hp, if_pos (nI_le hi (by omega))]
      refine ⟨w, rfl, zfN_rfl w, ?_⟩
      rw [List.take_of_length_le hi, List.map_nil, List.append_nil, show ((pg p).1, (pg p).2.1, (pg p).2.2.1, (pg p).2.2.2) = pg p from rfl, zup_self]
      exact h1
  | cons e es ih =>
    intro n i w pg hp h1 h2 h3 h4 h5
    have b1 := h1.2.2.1
    have b2 := zM_12 h1 hp
    obtain ⟨he, g2, g3⟩ := z_drop_cons h3
    simp only [List.length_cons] at h5
    have hs := zM_seg h1 hp i e he
    cases n with
    | zero => cases h5
    | succ n =>
      have tk : (pg p).2.2.2.take (i + 1) = (pg p).2.2.2.take i ++ [e] := by
        rw [List.take_succ, he]
        rfl
      unfold l_X12_entryEnds
      rw [z_entriesOf w (by omega), z_jbd2, zM_L h1 hp, if_neg (nI_ge g3 (by omega)), z_entryAt, z_jbd2, z_isLiving (by omega) hs, z_jbd2]
      simp only [z_jb0, z_jl, nI_1, nI_p2, z_entryAt, z_jbd2, k_0, z_jg j_0, z_jg (z_in (show 2700 + 48 * p + 4 * i < 34700 by omega) (by decide)), z_jg (z_in (show 2700 + 48 * p + 4 * i + 2 < 34700 by omega) (by decide)), nI_clamp (show 2700 + 48 * p + 4 * i < 2 ^ 31 by omega), nI_clamp (show 2700 + 48 * p + 4 * i + 2 < 2 ^ 31 by omega), hs.1, h2]
      have same : ¬ (znw e = true ∧ e.1 = key) → ∃ w', l_X12_entryEnds n (nI p) key (nI (i + 1)) w = some w' ∧ zfN w w' ∧ zM B P (zup pg p ((pg p).1, (pg p).2.1, (pg p).2.2.1, (pg p).2.2.2.take i ++ (e :: es).map (zen key T))) (w'.2.1 182) := fun hn => by
        obtain ⟨w', r1, r2, r3⟩ := ih n (i + 1) w pg hp h1 h2 g2 g3 (by omega)
        refine ⟨w', r1, r2, ?_⟩
        rw [tk, List.append_assoc] at r3
        rw [List.map_cons, show zen key T e = e by unfold zen; rw [if_neg hn]]
        exact r3
      by_cases c : znw e = true
      · rw [if_neg (by rw [c]; decide)]
        by_cases d : e.1 = key
        · rw [if_pos d]
          have q3 := zM_to (t := T) h1 hp he
          have q4 : (jsetX w 182 (2700 + 48 * p + 4 * i + 2) T).2.1 182 = zup (w.2.1 182) (2700 + 48 * p + 4 * i + 2) T := z_jX1 _ _ _ _
          obtain ⟨w', r1, r2, r3⟩ := ih n (i + 1) (jsetX w 182 (2700 + 48 * p + 4 * i + 2) T) _ hp (by rw [q4]; exact q3) (by rw [q4, zup_ne (by omega)]; exact h2) (by rw [zup_eq]; show ((pg p).2.2.2.set i (e.1, e.2.1, T, e.2.2.2)).drop (i + 1) = es; rw [List.drop_set_of_lt (by omega)]; exact g2) (by rw [zup_eq]; simp; omega) (by omega)
          refine ⟨w', r1, zfN_trans ?_ r2, ?_⟩
          · exact ⟨rfl, rfl, fun p hp => z_jX2 hp, fun a a1 a2 => by rw [q4, zup_ne (by omega)]⟩
          · rw [zup_eq, zup_zup] at r3
            have e5 : ((pg p).2.2.2.set i (e.1, e.2.1, T, e.2.2.2)).take (i + 1) = (pg p).2.2.2.take i ++ [(e.1, e.2.1, T, e.2.2.2)] := by
              rw [List.take_succ, List.getElem?_set, if_pos rfl, if_pos g3, List.take_set_of_le (Nat.le_refl i)]
              rfl
            rw [e5, List.append_assoc] at r3
            rw [List.map_cons, show zen key T e = (e.1, e.2.1, T, e.2.2.2) by unfold zen; rw [if_pos ⟨c, d⟩]]
            exact r3
        · rw [if_neg d]
          exact same (fun x => d x.2)
      · rw [if_pos (by simpa using c)]
        exact same (fun x => c x.1)
end
