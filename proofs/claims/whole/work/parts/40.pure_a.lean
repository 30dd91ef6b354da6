section
/-! the pure part: words -/
theorem z_jbd {α β : Type} (q : α) (f : α → Option β) : jbd (some q) f = f q := rfl
theorem z_jbd2 {α β γ : Type} (a : α) (b : γ) (f : α → γ → Option β) : jbd2 (some (a, b)) f = f a b := rfl
theorem z_jl {α β : Type} (a : α) (f : α → β) : jl a f = f a := rfl
theorem z_jg {α : Type} {b : Bool} {x : Option α} (h : b = true) : jg b x = x := by subst h; rfl
theorem z_jb0 (b : Bool) : (jb b = 0) = (b = false) := by cases b <;> simp [jb]
theorem z_rat {l : List Int32} {i : Nat} (h : i < 2 ^ 31) : rat l (nI i) = l.getD i 0 := by
  unfold rat
  rw [if_neg (nI_pos h), nI_clamp h]
theorem z_ratm {l : List Int32} : rat l (-1) = 0 := by
  unfold rat
  rw [if_pos (by decide)]
theorem z_rset {l : List Int32} {i : Nat} {x : Int32} (h : i < 2 ^ 31) : rset l (nI i) x = l.set i x := by
  unfold rset
  rw [if_neg (nI_pos h), nI_clamp h]
theorem z_in {i N : Nat} (h : i < N) (hN : N < 2 ^ 31) : jin (nI i) N = true := by
  unfold jin
  rw [nI_clamp (by omega)]
  simp [nI_pos (show i < 2 ^ 31 by omega), h]
theorem z_gset (l : List Int32) {i : Nat} (j : Nat) (x : Int32) (h : i < l.length) : (l.set i x).getD j 0 = if j = i then x else l.getD j 0 := by
  simp only [List.getD_eq_getElem?_getD, List.getElem?_set]
  by_cases c : i = j
  · subst c; simp [h]
  · rw [if_neg c, if_neg (fun e => c e.symm)]
theorem z_gapp (l : List Int32) (j : Nat) (x : Int32) : (l ++ [x]).getD j 0 = if j = l.length then x else l.getD j 0 := by
  simp only [List.getD_eq_getElem?_getD, List.getElem?_append]
  by_cases c : j = l.length
  · subst c; simp
  · rw [if_neg c]
    by_cases d : j < l.length
    · rw [if_pos d]
    · rw [if_neg d]
      rw [List.getElem?_eq_none (show l.length ≤ j by omega), List.getElem?_eq_none (show [x].length ≤ j - l.length by simp; omega)]
theorem z_m1 : (-1 : Int32) < 0 := by decide
theorem z_nm1 {n : Nat} (h : n < 2 ^ 31) : ¬ nI n = -1 := fun e => nI_pos h (by rw [e]; exact z_m1)
abbrev zE : Type := Int32 × Int32 × Int32 × Int32
/-- an entry (key, from, to, value) lives at a time -/
def zlv (t : Int32) (e : zE) : Bool := if t < e.2.1 then false else if e.2.2.1 = -2 then true else if e.2.2.1 ≤ t then false else true
def znw (e : zE) : Bool := if e.2.2.1 = -2 then true else false
/-- an entry as the class's rows have it -/
def zF (ks vs fs ts : List Int32) (s : Nat) (e : zE) : Prop := ks.getD s 0 = e.1 ∧ vs.getD s 0 = e.2.2.2 ∧ fs.getD s 0 = e.2.1 ∧ ts.getD s 0 = e.2.2.1
def zSg (ks vs fs ts : List Int32) (s : Nat) (es : List zE) : Prop := ∀ (i : Nat) (e : zE), es[i]? = some e → zF ks vs fs ts (s + i) e
/-- an entry as the reference has it -/
def zG (N : Nat → Int32) (a : Nat) (e : zE) : Prop := N a = e.1 ∧ N (a + 1) = e.2.1 ∧ N (a + 2) = e.2.2.1 ∧ N (a + 3) = e.2.2.2
def zSm (N : Nat → Int32) (a : Nat) (es : List zE) : Prop := ∀ (i : Nat) (e : zE), es[i]? = some e → zG N (a + 4 * i) e
theorem zSg_tl {ks vs fs ts : List Int32} {s : Nat} {e : zE} {es : List zE} (h : zSg ks vs fs ts s (e :: es)) : zSg ks vs fs ts (s + 1) es := fun i e' he => by
  have := h (i + 1) e' (by simpa using he)
  rw [show s + 1 + i = s + (i + 1) by omega]
  exact this
theorem zSg_hd {ks vs fs ts : List Int32} {s : Nat} {e : zE} {es : List zE} (h : zSg ks vs fs ts s (e :: es)) : zF ks vs fs ts s e := h 0 e rfl
theorem zSm_tl {N : Nat → Int32} {a : Nat} {e : zE} {es : List zE} (h : zSm N a (e :: es)) : zSm N (a + 4) es := fun i e' he => by
  have := h (i + 1) e' (by simpa using he)
  rw [show a + 4 + 4 * i = a + 4 * (i + 1) by omega]
  exact this
theorem zSm_hd {N : Nat → Int32} {a : Nat} {e : zE} {es : List zE} (h : zSm N a (e :: es)) : zG N a e := h 0 e rfl
theorem z_livesAt {w : jw} {s : Nat} {t : Int32} {e : zE} (hs : s < 2 ^ 31) (h : zF (w.2.2.2 27) (w.2.2.2 29) (w.2.2.2 31) (w.2.2.2 33) s e) : f_X6_livesAt (nI s) t w = some (zlv t e, w) := by
  unfold f_X6_livesAt zlv
  simp only [z_jl, z_rat hs]
  rw [h.2.2.1, h.2.2.2]
  by_cases c1 : t < e.2.1
  · simp only [if_pos c1]
  · by_cases c2 : e.2.2.1 = -2
    · simp only [if_neg c1, if_pos c2]
    · by_cases c3 : e.2.2.1 ≤ t
      · simp only [if_neg c1, if_neg c2, if_pos c3]
      · simp only [if_neg c1, if_neg c2, if_neg c3]
theorem z_livesThen {w : jw} {t : Int32} (e : zE) : f_X12_livesThen e.2.1 e.2.2.1 t w = some (zlv t e, w) := by
  unfold f_X12_livesThen zlv
  by_cases c1 : t < e.2.1
  · simp only [if_pos c1]
  · by_cases c2 : e.2.2.1 = -2
    · simp only [if_neg c1, if_pos c2]
    · by_cases c3 : e.2.2.1 ≤ t
      · simp only [if_neg c1, if_neg c2, if_pos c3]
      · simp only [if_neg c1, if_neg c2, if_neg c3]
theorem z_entryThen {w : jw} {a : Nat} {t : Int32} {e : zE} (ha : a + 3 < 34700) (h : zG (w.2.1 182) a e) : f_X12_entryThen (nI a) t w = some (zlv t e, w) := by
  unfold f_X12_entryThen
  rw [show nI a + 1 = nI (a + 1) from nI_1 a, show nI a + 2 = nI (a + 2) from nI_add a 2]
  rw [z_jg (z_in (by omega) (by decide)), z_jg (z_in (by omega) (by decide)), nI_clamp (by omega), nI_clamp (by omega), h.2.1, h.2.2.1, z_livesThen e]
  rfl
theorem z_isLiving {w : jw} {a : Nat} {e : zE} (ha : a + 3 < 34700) (h : zG (w.2.1 182) a e) : f_X12_isLiving (nI a) w = some (znw e, w) := by
  unfold f_X12_isLiving znw
  rw [show nI a + 2 = nI (a + 2) from nI_add a 2, z_jg (z_in (by omega) (by decide)), nI_clamp (by omega), h.2.2.1]
  by_cases c : e.2.2.1 = -2
  · simp only [if_pos c]
  · simp only [if_neg c]
theorem z_pa (p : Nat) (c : Int32) (k : Nat) (hc : c = nI k) : c + 4 * nI p = nI (k + 4 * p) := by
  subst hc
  rw [show (4 : Int32) = nI 4 from rfl, pk_mul, nI_add]
theorem z_ea (p i : Nat) : (2700 + (48 * nI p)) + (4 * nI i) = nI (2700 + 48 * p + 4 * i) := by
  rw [show (4 : Int32) = nI 4 from rfl, show (48 : Int32) = nI 48 from rfl, show (2700 : Int32) = nI 2700 from rfl, pk_mul, pk_mul, nI_add, nI_add]
theorem z_entryAt (p i : Nat) (w : jw) : f_X12_entryAt (nI p) (nI i) w = some (nI (2700 + 48 * p + 4 * i), w) := by
  unfold f_X12_entryAt
  rw [z_ea]
theorem z_entriesOf {p : Nat} (w : jw) (hp : p < 8000) : f_X12_entriesOf (nI p) w = some (w.2.1 182 (1411 + 4 * p), w) := by
  unfold f_X12_entriesOf
  rw [z_pa p 1410 1410 rfl, nI_1, z_jg (z_in (by omega) (by decide)), nI_clamp (by omega), show 1410 + 4 * p + 1 = 1411 + 4 * p by omega]
theorem z_isLeafM {p : Nat} (w : jw) (hp : p < 8000) : f_X12_isLeaf (nI p) w = some (decide (w.2.1 182 (1410 + 4 * p) = 1), w) := by
  unfold f_X12_isLeaf
  rw [z_pa p 1410 1410 rfl, z_jg (z_in (by omega) (by decide)), nI_clamp (by omega)]
  by_cases c : w.2.1 182 (1410 + 4 * p) = 1
  · rw [if_pos c, decide_eq_true c]
  · rw [if_neg c, decide_eq_false c]
theorem z_isLeafC {p : Nat} (w : jw) (hp : p < 2 ^ 31) : f_X6_isLeaf (nI p) w = some (decide ((w.2.2.2 19).getD p 0 = 1), w) := by
  unfold f_X6_isLeaf
  rw [z_rat hp]
  by_cases c : (w.2.2.2 19).getD p 0 = 1
  · rw [if_pos c, decide_eq_true c]
  · rw [if_neg c, decide_eq_false c]
/-! scans of a page -/
theorem z_livingIn_l {w : jw} {a1 t : Int32} : ∀ (es : List zE) (n s c : Nat), zSg (w.2.2.2 27) (w.2.2.2 29) (w.2.2.2 31) (w.2.2.2 33) s es → s + es.length < 2 ^ 31 → es.length < n →
    l_X6_livingIn n a1 t (nI c) (nI (s + es.length)) (nI s) w = some (nI (c + es.countP (zlv t)), w) := by
  intro es
  induction es with
  | nil =>
    intro n s c h1 h2 h3
    cases n with
    | zero => cases h3
    | succ n =>
      unfold l_X6_livingIn
      rw [if_pos (nI_le (by simp) (by omega))]
      rfl
  | cons e es ih =>
    intro n s c h1 h2 h3
    simp only [List.length_cons] at h2 h3
    cases n with
    | zero => cases h3
    | succ n =>
      unfold l_X6_livingIn
      rw [if_neg (nI_ge (by simp) (by simpa using h2)), z_livesAt (by omega) (zSg_hd h1), z_jbd2]
      simp only [z_jb0, z_jl, nI_1]
      have e1 : s + (e :: es).length = s + 1 + es.length := by simp; omega
      rw [e1]
      by_cases c1 : zlv t e = true
      · rw [if_neg (by rw [c1]; decide), ih n (s + 1) (c + 1) (zSg_tl h1) (by omega) (by omega), List.countP_cons_of_pos c1, Nat.add_assoc, Nat.add_comm 1]
      · rw [if_pos (by simpa using c1), ih n (s + 1) c (zSg_tl h1) (by omega) (by omega), List.countP_cons_of_neg c1]
theorem z_livingInM_l {w : jw} {p : Nat} (hp : p < 8000) {L : Nat} (hL : w.2.1 182 (1411 + 4 * p) = nI L) (hq : 2700 + 48 * p + 4 * L ≤ 34700) : ∀ (es : List zE) (n i c : Nat), zSm (w.2.1 182) (2700 + 48 * p + 4 * i) es → i + es.length = L → es.length < n →
    l_X12_livingIn n (nI p) (nI c) (nI i) w = some (nI (c + es.countP znw), w) := by
  intro es
  induction es with
  | nil =>
    intro n i c h1 h2 h3
    cases n with
    | zero => cases h3
    | succ n =>
      unfold l_X12_livingIn
      rw [z_entriesOf w hp, z_jbd2, hL, if_pos (nI_le (by simp at h2; omega) (by omega))]
      rfl
  | cons e es ih =>
    intro n i c h1 h2 h3
    simp only [List.length_cons] at h2 h3
    cases n with
    | zero => cases h3
    | succ n =>
      unfold l_X12_livingIn
      rw [z_entriesOf w hp, z_jbd2, hL, if_neg (nI_ge (by omega) (by omega)), z_entryAt, z_jbd2, z_isLiving (by omega) (zSm_hd h1), z_jbd2]
      simp only [z_jb0, z_jl, nI_1]
      have h4 := zSm_tl h1
      rw [show 2700 + 48 * p + 4 * i + 4 = 2700 + 48 * p + 4 * (i + 1) by omega] at h4
      by_cases c1 : znw e = true
      · rw [if_neg (by rw [c1]; decide), ih n (i + 1) (c + 1) h4 (by omega) (by omega), List.countP_cons_of_pos c1, Nat.add_assoc, Nat.add_comm 1]
      · rw [if_pos (by simpa using c1), ih n (i + 1) c h4 (by omega) (by omega), List.countP_cons_of_neg c1]
theorem z_livingThen_l {w : jw} {p : Nat} (hp : p < 8000) {L : Nat} {t : Int32} (hL : w.2.1 182 (1411 + 4 * p) = nI L) (hq : 2700 + 48 * p + 4 * L ≤ 34700) : ∀ (es : List zE) (n i c : Nat), zSm (w.2.1 182) (2700 + 48 * p + 4 * i) es → i + es.length = L → es.length < n →
    l_X12_livingThen n (nI p) t (nI c) (nI i) w = some (nI (c + es.countP (zlv t)), w) := by
  intro es
  induction es with
  | nil =>
    intro n i c h1 h2 h3
    cases n with
    | zero => cases h3
    | succ n =>
      unfold l_X12_livingThen
      rw [z_entriesOf w hp, z_jbd2, hL, if_pos (nI_le (by simp at h2; omega) (by omega))]
      rfl
  | cons e es ih =>
    intro n i c h1 h2 h3
    simp only [List.length_cons] at h2 h3
    cases n with
    | zero => cases h3
    | succ n =>
      unfold l_X12_livingThen
      rw [z_entriesOf w hp, z_jbd2, hL, if_neg (nI_ge (by omega) (by omega)), z_entryAt, z_jbd2, z_entryThen (by omega) (zSm_hd h1), z_jbd2]
      simp only [z_jb0, z_jl, nI_1]
      have h4 := zSm_tl h1
      rw [show 2700 + 48 * p + 4 * i + 4 = 2700 + 48 * p + 4 * (i + 1) by omega] at h4
      by_cases c1 : zlv t e = true
      · rw [if_neg (by rw [c1]; decide), ih n (i + 1) (c + 1) h4 (by omega) (by omega), List.countP_cons_of_pos c1, Nat.add_assoc, Nat.add_comm 1]
      · rw [if_pos (by simpa using c1), ih n (i + 1) c h4 (by omega) (by omega), List.countP_cons_of_neg c1]
/-- the best entry of a row by a test and an order of keys: its place and key -/
def zbs (ok : zE → Bool) (bt : Int32 → Int32 → Bool) : List zE → Nat → Option (Nat × Int32) → Option (Nat × Int32)
  | [], _, b => b
  | e :: es, i, b => zbs ok bt es (i + 1) (if ok e = true then (match b with
    | none => some (i, e.1)
    | some q => if bt e.1 q.2 = true then some (i, e.1) else b) else b)
def zsl (s : Nat) (b : Option (Nat × Int32)) : Int32 := match b with
  | none => -1
  | some q => nI (s + q.1)
def zad (s : Nat) (b : Option (Nat × Int32)) : Int32 := match b with
  | none => -1
  | some q => nI (s + 4 * q.1)
def ztw (key t : Int32) (e : zE) : Bool := zlv t e && decide (e.1 ≤ key)
def zaf (key t : Int32) (e : zE) : Bool := zlv t e && decide (key < e.1)
def zgt (x y : Int32) : Bool := decide (y < x)
def zlt (x y : Int32) : Bool := decide (x < y)
theorem z_toward_l {w : jw} {a1 key t : Int32} {s0 : Nat} : ∀ (es : List zE) (n i : Nat) (b : Option (Nat × Int32)), zSg (w.2.2.2 27) (w.2.2.2 29) (w.2.2.2 31) (w.2.2.2 33) (s0 + i) es → s0 + i + es.length < 2 ^ 31 → es.length < n → (∀ q, b = some q → q.1 < i ∧ (w.2.2.2 27).getD (s0 + q.1) 0 = q.2) →
    l_X6_slotToward n a1 key t (zsl s0 b) (nI (s0 + i + es.length)) (nI (s0 + i)) w = some (zsl s0 (zbs (ztw key t) zgt es i b), w) := by
  intro es
  induction es with
  | nil =>
    intro n i b h1 h2 h3 h4
    cases n with
    | zero => cases h3
    | succ n =>
      unfold l_X6_slotToward
      rw [if_pos (nI_le (by simp) (by omega))]
      rfl
  | cons e es ih =>
    intro n i b h1 h2 h3 h4
    simp only [List.length_cons] at h2 h3
    cases n with
    | zero => cases h3
    | succ n =>
      unfold l_X6_slotToward
      rw [if_neg (nI_ge (by simp) (by simpa using h2)), z_livesAt (by omega) (zSg_hd h1), z_jbd2]
      have e1 : s0 + i + (e :: es).length = s0 + (i + 1) + es.length := by simp; omega
      have e2 : nI (s0 + i + 1) = nI (s0 + (i + 1)) := by rw [Nat.add_assoc]
      have hk : (w.2.2.2 27).getD (s0 + i) 0 = e.1 := (zSg_hd h1).1
      simp only [z_jb0, z_jl, nI_1, z_rat (show s0 + i < 2 ^ 31 by omega), hk, e1, e2]
      have T := zSg_tl h1
      rw [Nat.add_assoc] at T
      have old : ∀ q, b = some q → q.1 < i + 1 ∧ (w.2.2.2 27).getD (s0 + q.1) 0 = q.2 := fun q hq => ⟨by have := (h4 q hq).1; omega, (h4 q hq).2⟩
      have new : ∀ q, some (i, e.1) = some q → q.1 < i + 1 ∧ (w.2.2.2 27).getD (s0 + q.1) 0 = q.2 := fun q hq => by cases hq; exact ⟨by omega, hk⟩
      have ne := zsl s0 (some (i, e.1))
      unfold zbs
      by_cases c1 : zlv t e = true
      · rw [if_neg (by rw [c1]; decide)]
        by_cases c2 : key < e.1
        · rw [if_pos c2, ih n (i + 1) b T (by omega) (by omega) old, if_neg (by simp [ztw, c1, Int32.not_le, c2])]
        · have ok : ztw key t e = true := by simp [ztw, c1, Int32.not_lt.mp c2]
          rw [if_neg c2, if_pos ok]
          cases b with
          | none =>
            rw [if_pos (show zsl s0 none = -1 from rfl)]
            exact ih n (i + 1) (some (i, e.1)) T (by omega) (by omega) new
          | some q =>
            have hq := h4 q rfl
            rw [if_neg (show ¬ zsl s0 (some q) = -1 from z_nm1 (show s0 + q.1 < 2 ^ 31 by omega)), show rat (w.2.2.2 27) (zsl s0 (some q)) = q.2 from (z_rat (show s0 + q.1 < 2 ^ 31 by omega)).trans hq.2]
            simp only []
            by_cases c3 : e.1 ≤ q.2
            · rw [if_pos c3, if_neg (by simp [zgt, Int32.not_lt, c3])]
              exact ih n (i + 1) (some q) T (by omega) (by omega) old
            · rw [if_neg c3, if_pos (by simp [zgt, Int32.not_le.mp c3])]
              exact ih n (i + 1) (some (i, e.1)) T (by omega) (by omega) new
      · rw [if_pos (by simpa using c1), ih n (i + 1) b T (by omega) (by omega) old, if_neg (by simp [ztw, c1])]
theorem z_after_l {w : jw} {a1 key t : Int32} {s0 : Nat} : ∀ (es : List zE) (n i : Nat) (b : Option (Nat × Int32)), zSg (w.2.2.2 27) (w.2.2.2 29) (w.2.2.2 31) (w.2.2.2 33) (s0 + i) es → s0 + i + es.length < 2 ^ 31 → es.length < n → (∀ q, b = some q → q.1 < i ∧ (w.2.2.2 27).getD (s0 + q.1) 0 = q.2) →
    l_X6_slotAfter n a1 key t (zsl s0 b) (nI (s0 + i + es.length)) (nI (s0 + i)) w = some (zsl s0 (zbs (zaf key t) zlt es i b), w) := by
  intro es
  induction es with
  | nil =>
    intro n i b h1 h2 h3 h4
    cases n with
    | zero => cases h3
    | succ n =>
      unfold l_X6_slotAfter
      rw [if_pos (nI_le (by simp) (by omega))]
      rfl
  | cons e es ih =>
    intro n i b h1 h2 h3 h4
    simp only [List.length_cons] at h2 h3
    cases n with
    | zero => cases h3
    | succ n =>
      unfold l_X6_slotAfter
      rw [if_neg (nI_ge (by simp) (by simpa using h2)), z_livesAt (by omega) (zSg_hd h1), z_jbd2]
      have e1 : s0 + i + (e :: es).length = s0 + (i + 1) + es.length := by simp; omega
      have e2 : nI (s0 + i + 1) = nI (s0 + (i + 1)) := by rw [Nat.add_assoc]
      have hk : (w.2.2.2 27).getD (s0 + i) 0 = e.1 := (zSg_hd h1).1
      simp only [z_jb0, z_jl, nI_1, z_rat (show s0 + i < 2 ^ 31 by omega), hk, e1, e2]
      have T := zSg_tl h1
      rw [Nat.add_assoc] at T
      have old : ∀ q, b = some q → q.1 < i + 1 ∧ (w.2.2.2 27).getD (s0 + q.1) 0 = q.2 := fun q hq => ⟨by have := (h4 q hq).1; omega, (h4 q hq).2⟩
      have new : ∀ q, some (i, e.1) = some q → q.1 < i + 1 ∧ (w.2.2.2 27).getD (s0 + q.1) 0 = q.2 := fun q hq => by cases hq; exact ⟨by omega, hk⟩
      unfold zbs
      by_cases c1 : zlv t e = true
      · rw [if_neg (by rw [c1]; decide)]
        by_cases c2 : e.1 ≤ key
        · rw [if_pos c2, ih n (i + 1) b T (by omega) (by omega) old, if_neg (by simp [zaf, c1, Int32.not_lt, c2])]
        · have ok : zaf key t e = true := by simp [zaf, c1, Int32.not_le.mp c2]
          rw [if_neg c2, if_pos ok]
          cases b with
          | none =>
            rw [if_pos (show zsl s0 none = -1 from rfl)]
            exact ih n (i + 1) (some (i, e.1)) T (by omega) (by omega) new
          | some q =>
            have hq := h4 q rfl
            rw [if_neg (show ¬ zsl s0 (some q) = -1 from z_nm1 (show s0 + q.1 < 2 ^ 31 by omega)), show rat (w.2.2.2 27) (zsl s0 (some q)) = q.2 from (z_rat (show s0 + q.1 < 2 ^ 31 by omega)).trans hq.2]
            simp only []
            by_cases c3 : q.2 ≤ e.1
            · rw [if_pos c3, if_neg (by simp [zlt, Int32.not_lt, c3])]
              exact ih n (i + 1) (some q) T (by omega) (by omega) old
            · rw [if_neg c3, if_pos (by simp [zlt, Int32.not_le.mp c3])]
              exact ih n (i + 1) (some (i, e.1)) T (by omega) (by omega) new
      · rw [if_pos (by simpa using c1), ih n (i + 1) b T (by omega) (by omega) old, if_neg (by simp [zaf, c1])]
end
