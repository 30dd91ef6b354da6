section
/-! reads, thin, held: what a page sends on to -/
def zle (t : Int32) (es : List zE) (e1 : Int32) : Bool := es.all (fun x => !(zlv t x && decide (x.1 < e1)))
def zbh (lo t : Int32) (es : List zE) (e1 : Int32) : Bool := es.all (fun x => !(zlv t x && decide (e1 < x.1) && !decide (lo < x.1)))
def zas (lo hi t : Int32) (es : List zE) (e : zE) : Bool := decide (lo ≤ hi) && (zle t es e.1 || decide (e.1 ≤ hi)) && zbh lo t es e.1
def zbe (lo hi t : Int32) (all es : List zE) : List Int32 := (es.filter (fun e => zlv t e && zas lo hi t all e)).map (fun e => e.2.2.2)
theorem zbe_nil (lo hi t : Int32) (all : List zE) : zbe lo hi t all [] = [] := rfl
theorem zbe_cons (lo hi t : Int32) (all : List zE) (e : zE) (es : List zE) : zbe lo hi t all (e :: es) = (if zlv t e && zas lo hi t all e then [e.2.2.2] else []) ++ zbe lo hi t all es := by
  unfold zbe
  by_cases c : (zlv t e && zas lo hi t all e) = true
  · rw [List.filter_cons_of_pos (by exact c), if_pos c]; rfl
  · rw [List.filter_cons_of_neg (by exact c), if_neg c]; rfl
theorem z_bh (lo t e1 : Int32) (es : List zE) : (match zbs (zaf e1 t) zlt es 0 none with
    | none => true
    | some q => decide (lo < q.2)) = zbh lo t es e1 := by
  cases h : zbs (zaf e1 t) zlt es 0 none with
  | none =>
    symm
    unfold zbh
    rw [List.all_eq_true]
    intro x hx
    by_cases c : zaf e1 t x = true
    · exact absurd h (zbs_ex es 0 none (Or.inr ⟨x, hx, c⟩))
    · unfold zaf at c
      simp only [Bool.not_eq_true] at c
      rw [c]
      rfl
  | some q =>
    obtain ⟨e', g1, g2, g3⟩ := zbs_0 h
    have g4 := (zbs_min es 0 none q h).1
    have m' : e' ∈ es := List.mem_of_getElem? g1
    by_cases c : lo < q.2
    · show decide (lo < q.2) = _
      rw [decide_eq_true c]
      symm
      unfold zbh
      rw [List.all_eq_true]
      intro x hx
      by_cases d : zaf e1 t x = true
      · have := g4 x hx d
        rw [decide_eq_true (show lo < x.1 by rw [Int32.lt_iff_toInt_lt] at *; rw [Int32.le_iff_toInt_le] at this; omega)]
        simp
      · unfold zaf at d
        simp only [Bool.not_eq_true] at d
        rw [d]
        rfl
    · show decide (lo < q.2) = _
      rw [decide_eq_false c]
      symm
      unfold zbh
      rw [List.all_eq_false]
      refine ⟨e', m', ?_⟩
      unfold zaf at g2
      rw [g2, ← g3, decide_eq_false c]
      decide
theorem z_le {e1 t : Int32} (h0 : ¬ e1 < 0) (es : List zE) : (if zbs (ztw (e1 - 1) t) zgt es 0 none = none then true else false) = zle t es e1 := by
  obtain ⟨k, k1, k2⟩ := nI_of h0
  have s1 : (e1 - 1).toInt = e1.toInt - 1 := by
    cases k with
    | zero => rw [k2]; decide
    | succ k => rw [k2, show nI (k + 1) - 1 = nI k from pk_sub (b := 1) (by omega), nI_toInt (by omega), nI_toInt k1]; omega
  have eq : ∀ x : zE, ztw (e1 - 1) t x = (zlv t x && decide (x.1 < e1)) := fun x => by
    unfold ztw
    congr 1
    rw [decide_eq_decide, Int32.le_iff_toInt_le, Int32.lt_iff_toInt_lt, s1]
    omega
  by_cases h : zbs (ztw (e1 - 1) t) zgt es 0 none = none
  · rw [if_pos h]
    symm
    unfold zle
    rw [List.all_eq_true]
    intro x hx
    by_cases c : ztw (e1 - 1) t x = true
    · exact absurd h (zbs_ex es 0 none (Or.inr ⟨x, hx, c⟩))
    · rw [← eq x]
      simp only [Bool.not_eq_true] at c
      rw [c]
      rfl
  · rw [if_neg h]
    symm
    cases h' : zbs (ztw (e1 - 1) t) zgt es 0 none with
    | none => exact absurd h' h
    | some q =>
      obtain ⟨e', g1, g2, g3⟩ := zbs_0 h'
      unfold zle
      rw [List.all_eq_false]
      refine ⟨e', List.mem_of_getElem? g1, ?_⟩
      rw [← eq e', g2]
      decide
theorem z_66 {B P : Nat} {pg : Nat → zP} {w : jw} {l : List Int32} (h : zCw B P pg w) : zCw B P pg (jsetR w 66 l) := h
theorem z_cb_l {B P p : Nat} {pg : Nat → zP} {lo hi t : Int32} (hB : B ≤ 12) (hP : P ≤ 4000) (hp : p < P) (lh : ¬ hi < lo) (hk : ∀ e ∈ (pg p).2.2.2, ¬ e.1 < 0) : ∀ (rest : List zE) (n i : Nat) (w : jw), zCw B P pg w → (pg p).2.2.2.drop i = rest → i ≤ (pg p).2.2.2.length → rest.length < n → (w.2.2.2 66).length + rest.length ≤ 4000 →
    l_X5_comeBelow n (nI p) lo hi t (nI (p * B + (pg p).2.2.2.length)) (nI (p * B + i)) w = some (jsetR w 66 (w.2.2.2 66 ++ zbe lo hi t (pg p).2.2.2 rest)) := by
  intro rest
  induction rest with
  | nil =>
    intro n i w hC h1 h2 h3 h4
    have hi : (pg p).2.2.2.length ≤ i := by simpa using h1
    cases n with
    | zero => cases h3
    | succ n =>
      unfold l_X5_comeBelow
      have pB : p * B ≤ 4000 * 12 := Nat.mul_le_mul (by omega) hB
      have lB : (pg p).2.2.2.length ≤ B := (hC.2.2.2.2.2.2.2.2.2 p hp).2.2.2.2.1
      rw [if_pos (nI_le (by omega) (by omega)), zbe_nil, List.append_nil, z_jRs]
  | cons e rest ih =>
    intro n i w hC h1 h2 h3 h4
    simp only [List.length_cons] at h3 h4
    cases n with
    | zero => cases h3
    | succ n =>
      have pB : p * B ≤ 4000 * 12 := Nat.mul_le_mul (by omega) hB
      have ge : (pg p).2.2.2[i]? = some e := by
        have : ((pg p).2.2.2.drop i)[0]? = some e := by rw [h1]; rfl
        rwa [List.getElem?_drop, Nat.add_zero] at this
      have il : i < (pg p).2.2.2.length := zlen_lt ge
      have me : e ∈ (pg p).2.2.2 := List.mem_of_getElem? ge
      obtain ⟨q1, q2, q3, q4, q5, q6, q7⟩ := hC.2.2.2.2.2.2.2.2.2 p hp
      have f := q6 i e ge
      have lB : (pg p).2.2.2.length ≤ B := q5
      have g2 : (pg p).2.2.2.drop (i + 1) = rest := by
        rw [← List.drop_drop, h1]
        rfl
      unfold l_X5_comeBelow
      rw [if_neg (nI_ge (by omega) (by omega)), if_neg lh, z_livesAt (by omega) f, z_jbd2, zbe_cons]
      cases c : zlv t e with
      | false =>
        rw [if_pos (show jb false = 0 from rfl), z_jbd, z_jl, nI_1]
        exact ih n (i + 1) w hC g2 (by omega) (by omega) (by omega)
      | true =>
        rw [if_neg (show ¬ jb true = 0 by decide), z_rat (by omega), f.1, z_jl, z_after _ hC hp hB hP, z_jbd2, z_toward _ hC hp hB hP, z_jbd2]
        have L := z_le (t := t) (hk e me) (pg p).2.2.2
        have H := z_bh lo t e.1 (pg p).2.2.2
        have x1 : jbd (if zsl (p * B) (zbs (ztw (e.1 - 1) t) zgt (pg p).2.2.2 0 none) = -1 then some (1 : Int32) else some (0 : Int32)) = jbd (some (jb (zle t (pg p).2.2.2 e.1))) (β := jw) := by
          rw [← L]
          cases h' : zbs (ztw (e.1 - 1) t) zgt (pg p).2.2.2 0 none with
          | none => rfl
          | some q =>
            obtain ⟨e', r1, _, _⟩ := zbs_0 h'
            have := zlen_lt r1
            rw [if_neg (show ¬ zsl (p * B) (some q) = -1 from fun z => nI_pos (show p * B + q.1 < 2 ^ 31 by omega) (by rw [show nI (p * B + q.1) = -1 from z]; decide)), if_neg (by simp)]
            rfl
        have x2 : jbd (if zsl (p * B) (zbs (zaf e.1 t) zlt (pg p).2.2.2 0 none) = -1 then some (1 : Int32) else if rat (w.2.2.2 27) (zsl (p * B) (zbs (zaf e.1 t) zlt (pg p).2.2.2 0 none)) ≤ lo then some (0 : Int32) else some (1 : Int32)) = jbd (some (jb (zbh lo t (pg p).2.2.2 e.1))) (β := jw) := by
          rw [← H]
          cases h' : zbs (zaf e.1 t) zlt (pg p).2.2.2 0 none with
          | none => rfl
          | some q =>
            obtain ⟨e', r1, _, r3⟩ := zbs_0 h'
            have := zlen_lt r1
            rw [if_neg (show ¬ zsl (p * B) (some q) = -1 from fun z => nI_pos (show p * B + q.1 < 2 ^ 31 by omega) (by rw [show nI (p * B + q.1) = -1 from z]; decide)), show zsl (p * B) (some q) = nI (p * B + q.1) from rfl, z_rat (by omega), (q6 q.1 e' r1).1, ← r3]
            by_cases d : lo < q.2
            · rw [if_neg (Int32.not_le.mpr d)]
              show _ = jbd (some (jb (decide (lo < q.2))))
              rw [decide_eq_true d]
              rfl
            · rw [if_pos (Int32.not_lt.mp d)]
              show _ = jbd (some (jb (decide (lo < q.2))))
              rw [decide_eq_false d]
              rfl
        rw [x1, z_jbd, x2, z_jbd, z_rat (by omega), f.2.1]
        have dl : (decide ((w.2.2.2 66).length ≤ 4096)) = true := decide_eq_true (by omega)
        have fin : ∀ b : Bool, zas lo hi t (pg p).2.2.2 e = b → (jbd (if b = true then some (jsetR w 66 (w.2.2.2 66 ++ [e.2.2.2])) else some w) fun w7 => jl (nI (p * B + i) + 1) fun x9 => l_X5_comeBelow n (nI p) lo hi t (nI (p * B + (pg p).2.2.2.length)) x9 w7) = some (jsetR w 66 (w.2.2.2 66 ++ ((if (true && zas lo hi t (pg p).2.2.2 e) = true then [e.2.2.2] else []) ++ zbe lo hi t (pg p).2.2.2 rest))) := fun b hb => by
          rw [hb, Bool.true_and]
          cases b with
          | true =>
            rw [if_pos rfl, if_pos rfl, z_jbd, z_jl, nI_1]
            have R := ih n (i + 1) (jsetR w 66 (w.2.2.2 66 ++ [e.2.2.2])) (z_66 hC) g2 (by omega) (by omega) (by rw [z_jR1, List.length_append, List.length_singleton]; omega)
            rw [z_jR1, z_jRR, List.append_assoc] at R
            exact R
          | false =>
            rw [if_neg (by decide), if_neg (by decide), z_jbd, z_jl, nI_1, List.nil_append]
            exact ih n (i + 1) w hC g2 (by omega) (by omega) (by omega)
        have ll : decide (lo ≤ hi) = true := decide_eq_true (Int32.not_lt.mp lh)
        cases b1 : zbh lo t (pg p).2.2.2 e.1 with
        | false =>
          rw [if_pos (show jb false = 0 from rfl)]
          exact fin false (by unfold zas; rw [b1, Bool.and_false])
        | true =>
          rw [if_neg (show ¬ jb true = 0 by decide)]
          cases b2 : zle t (pg p).2.2.2 e.1 with
          | false =>
            rw [if_pos (show jb false = 0 from rfl)]
            by_cases d : hi < e.1
            · rw [if_pos d]
              exact fin false (by unfold zas; rw [b1, b2, decide_eq_false (Int32.not_le.mpr d)]; simp)
            · rw [if_neg d, z_jg dl, z_jl]
              exact fin true (by unfold zas; rw [b1, b2, decide_eq_true (Int32.not_lt.mp d), ll]; rfl)
          | true =>
            rw [if_neg (show ¬ jb true = 0 by decide), z_jg dl, z_jl]
            exact fin true (by unfold zas; rw [b1, b2, ll]; rfl)
theorem z_cbC {B P p : Nat} {pg : Nat → zP} {lo hi t : Int32} {w : jw} (hB : B ≤ 12) (hP : P ≤ 4000) (hp : p < P) (hk : ∀ e ∈ (pg p).2.2.2, ¬ e.1 < 0) (hC : zCw B P pg w) (hl : (w.2.2.2 66).length + (pg p).2.2.2.length ≤ 4000) : f_X5_comeBelow (nI p) lo hi t w = some (jsetR w 66 (w.2.2.2 66 ++ zbe lo hi t (pg p).2.2.2 (pg p).2.2.2)) := by
  unfold f_X5_comeBelow
  rw [z_ends hC hp hP, z_jbd2, z_first hC, z_jbd2]
  have lB : (pg p).2.2.2.length ≤ B := (hC.2.2.2.2.2.2.2.2.2 p hp).2.2.2.2.1
  by_cases lh : hi < lo
  · have e0 : zbe lo hi t (pg p).2.2.2 (pg p).2.2.2 = [] := by
      unfold zbe
      rw [List.filter_eq_nil_iff.mpr (fun e _ => by unfold zas; rw [decide_eq_false (Int32.not_le.mpr lh)]; simp)]
      rfl
    rw [e0, List.append_nil, z_jRs]
    show l_X5_comeBelow (39999 + 1) _ _ _ _ _ _ _ = _
    unfold l_X5_comeBelow
    split
    · rfl
    · rfl
  · have R := z_cb_l (t := t) hB hP hp lh hk (pg p).2.2.2 jfu 0 w hC rfl (by omega) (show _ < 40000 by omega) hl
    exact R
/-! the reference -/
theorem z_isLeast_l {w : jw} {p L a : Nat} {e1 t : Int32} (hp : p < 320) (hL : w.2.1 182 (1411 + 4 * p) = nI L) (hq : L ≤ 12) (ha : a < 34700) (he : w.2.1 182 a = e1) : ∀ (es : List zE) (n i : Nat), zSm (w.2.1 182) (2700 + 48 * p + 4 * i) es → i + es.length = L → es.length < n → l_X12_isLeast n (nI p) (nI a) t (nI i) w = some (zle t es e1, w) := by
  intro es
  induction es with
  | nil =>
    intro n i h1 h2 h3
    simp only [List.length_nil] at h2
    cases n with
    | zero => cases h3
    | succ n =>
      unfold l_X12_isLeast
      rw [z_entriesOf w (by omega), z_jbd2, hL, if_pos (nI_le (by omega) (by omega))]
      rfl
  | cons e es ih =>
    intro n i h1 h2 h3
    simp only [List.length_cons] at h2 h3
    cases n with
    | zero => cases h3
    | succ n =>
      have f1 := (zSm_hd h1).1
      have h4 := zSm_tl h1
      rw [show 2700 + 48 * p + 4 * i + 4 = 2700 + 48 * p + 4 * (i + 1) by omega] at h4
      have R := ih n (i + 1) h4 (by omega) (by omega)
      unfold l_X12_isLeast
      rw [z_entriesOf w (by omega), z_jbd2, hL, if_neg (nI_ge (by omega) (by omega)), z_entryAt, z_jbd2, z_entryThen (by omega) (zSm_hd h1), z_jbd2]
      rw [show zle t (e :: es) e1 = (!(zlv t e && decide (e.1 < e1)) && zle t es e1) from rfl]
      cases c : zlv t e with
      | false =>
        rw [if_pos (show jb false = 0 from rfl), z_jl, nI_1, R, Bool.false_and, Bool.not_false, Bool.true_and]
      | true =>
        rw [if_neg (show ¬ jb true = 0 by decide), z_entryAt, z_jbd2, z_jg (z_in (show 2700 + 48 * p + 4 * i < 34700 by omega) (by decide)), z_jg (z_in ha (by decide)), nI_clamp (by omega), nI_clamp (by omega), he, f1]
        by_cases d : e.1 < e1
        · rw [if_neg (Int32.not_le.mpr d), decide_eq_true d]
          rfl
        · rw [if_pos (Int32.not_lt.mp d), decide_eq_false d, z_jl, nI_1, R]
          rfl
def zst (t e1 : Int32) : List zE → Int32 → Int32
  | [], b => b
  | x :: xs, b => zst t e1 xs (if (zlv t x && decide (e1 < x.1) && decide (x.1 < b)) = true then x.1 else b)
theorem z_spanTo_l {w : jw} {p L a : Nat} {e1 t : Int32} (hp : p < 320) (hL : w.2.1 182 (1411 + 4 * p) = nI L) (hq : L ≤ 12) (ha : a < 34700) (he : w.2.1 182 a = e1) : ∀ (es : List zE) (n i : Nat) (b : Int32), zSm (w.2.1 182) (2700 + 48 * p + 4 * i) es → i + es.length = L → es.length < n → l_X12_spanTo n (nI p) (nI a) t b (nI i) w = some (zst t e1 es b - 1, w) := by
  intro es
  induction es with
  | nil =>
    intro n i b h1 h2 h3
    simp only [List.length_nil] at h2
    cases n with
    | zero => cases h3
    | succ n =>
      unfold l_X12_spanTo
      rw [z_entriesOf w (by omega), z_jbd2, hL, if_pos (nI_le (by omega) (by omega))]
      rfl
  | cons e es ih =>
    intro n i b h1 h2 h3
    simp only [List.length_cons] at h2 h3
    cases n with
    | zero => cases h3
    | succ n =>
      have f1 := (zSm_hd h1).1
      have h4 := zSm_tl h1
      rw [show 2700 + 48 * p + 4 * i + 4 = 2700 + 48 * p + 4 * (i + 1) by omega] at h4
      have R := fun b => ih n (i + 1) b h4 (by omega) (by omega)
      unfold l_X12_spanTo
      rw [z_entriesOf w (by omega), z_jbd2, hL, if_neg (nI_ge (by omega) (by omega)), z_entryAt, z_jbd2, z_entryThen (by omega) (zSm_hd h1), z_jbd2]
      have g0 := z_in (show 2700 + 48 * p + 4 * i < 34700 by omega) (by decide)
      unfold zst
      cases c : zlv t e with
      | false =>
        rw [if_pos (show jb false = 0 from rfl), z_jl, nI_1, R, if_neg (by rw [Bool.false_and, Bool.false_and]; decide)]
      | true =>
        rw [if_neg (show ¬ jb true = 0 by decide), z_jg g0, z_jg (z_in ha (by decide)), nI_clamp (by omega), nI_clamp (by omega), he, f1]
        by_cases d : e1 < e.1
        · rw [if_neg (Int32.not_le.mpr d), z_jg g0]
          by_cases d2 : e.1 < b
          · rw [if_neg (Int32.not_le.mpr d2), z_jg g0, z_jl, z_jl, nI_1, R, if_pos (by rw [decide_eq_true d, decide_eq_true d2]; rfl)]
          · rw [if_pos (Int32.not_lt.mp d2), z_jl, nI_1, R, if_neg (by rw [decide_eq_false d2]; simp)]
        · rw [if_pos (Int32.not_lt.mp d), z_jl, nI_1, R, if_neg (by rw [decide_eq_false d]; simp)]
theorem zst_gt (lo t e1 : Int32) : ∀ (es : List zE) (b : Int32), decide (lo < zst t e1 es b) = (decide (lo < b) && zbh lo t es e1) := by
  intro es
  induction es with
  | nil => intro b; unfold zst zbh; simp
  | cons e es ih =>
    intro b
    unfold zst
    rw [ih, show zbh lo t (e :: es) e1 = (!(zlv t e && decide (e1 < e.1) && !decide (lo < e.1)) && zbh lo t es e1) from rfl, ← Bool.and_assoc]
    congr 1
    by_cases c : (zlv t e && decide (e1 < e.1)) = true
    · rw [c, Bool.true_and, Bool.true_and, Bool.not_not]
      by_cases d : e.1 < b
      · rw [decide_eq_true d, if_pos rfl]
        by_cases x : lo < e.1
        · rw [decide_eq_true x, decide_eq_true (Int32.lt_trans x d)]; rfl
        · rw [decide_eq_false x, Bool.and_false]
      · rw [decide_eq_false d, if_neg (by decide)]
        by_cases x : lo < b
        · rw [decide_eq_true x, decide_eq_true (show lo < e.1 by rw [Int32.lt_iff_toInt_lt] at *; omega)]; rfl
        · rw [decide_eq_false x, Bool.false_and]
    · simp only [Bool.not_eq_true] at c
      rw [c, Bool.false_and, Bool.false_and, if_neg (by decide), Bool.not_false, Bool.and_true]
theorem zst_pos (t : Int32) {e1 : Int32} (h0 : ¬ e1 < 0) : ∀ (es : List zE) (b : Int32), 0 < b → 0 < zst t e1 es b := by
  intro es
  induction es with
  | nil => intro b hb; exact hb
  | cons e es ih =>
    intro b hb
    unfold zst
    refine ih _ ?_
    split
    · rename_i c
      simp only [Bool.and_eq_true, decide_eq_true_eq] at c
      have := c.1.2
      rw [Int32.lt_iff_toInt_lt] at *
      omega
    · exact hb
theorem z_sub1 {x : Int32} (h : 0 < x) : (x - 1).toInt = x.toInt - 1 := by
  have h0 : ¬ x < 0 := by rw [Int32.lt_iff_toInt_lt] at *; omega
  obtain ⟨k, k1, k2⟩ := nI_of h0
  cases k with
  | zero => rw [k2] at h; exact absurd h (by decide)
  | succ k => rw [k2, show nI (k + 1) - 1 = nI k from pk_sub (b := 1) (by omega), nI_toInt (by omega), nI_toInt k1]; omega
theorem z_isAsked {B P p j : Nat} {pg : Nat → zP} {lo hi t : Int32} {w : jw} {e : zE} (hM : zM B P pg (w.2.1 182)) (hp : p < P) (he : (pg p).2.2.2[j]? = some e) (hk : ¬ e.1 < 0) (h1 : lo < 1000) (h2 : ¬ hi < 0) : f_X12_isAsked (nI p) (nI (2700 + 48 * p + 4 * j)) t lo hi w = some (zas lo hi t (pg p).2.2.2 e, w) := by
  obtain ⟨m1, m2, m3, m4⟩ := hM
  obtain ⟨q1, q2, q3, q4, q5, q6⟩ := m4 p hp
  have jl : j < (pg p).2.2.2.length := zlen_lt he
  have f1 := (q6 j e he).1
  have L : f_X12_isLeast (nI p) (nI (2700 + 48 * p + 4 * j)) t w = some (zle t (pg p).2.2.2 e.1, w) := z_isLeast_l (by omega) q2 q5 (by omega) f1 (pg p).2.2.2 jfu 0 q6 (by omega) (show _ < 40000 by omega)
  have T : f_X12_spanTo (nI p) (nI (2700 + 48 * p + 4 * j)) t w = some (zst t e.1 (pg p).2.2.2 1000 - 1, w) := z_spanTo_l (by omega) q2 q5 (by omega) f1 (pg p).2.2.2 jfu 0 1000 q6 (by omega) (show _ < 40000 by omega)
  have G := zst_gt lo t e.1 (pg p).2.2.2 1000
  rw [decide_eq_true h1, Bool.true_and] at G
  have ps := z_sub1 (zst_pos t hk (pg p).2.2.2 1000 (by decide))
  have fin : (if zst t e.1 (pg p).2.2.2 1000 - 1 < lo then some (false, w) else some (true, w)) = some (zbh lo t (pg p).2.2.2 e.1, w) := by
    rw [← G]
    by_cases c : lo < zst t e.1 (pg p).2.2.2 1000
    · rw [if_neg (by rw [Int32.lt_iff_toInt_lt] at *; omega), decide_eq_true c]
    · rw [if_pos (by rw [Int32.lt_iff_toInt_lt] at *; omega), decide_eq_false c]
  unfold f_X12_isAsked zas
  rw [L, z_jbd2]
  cases b2 : zle t (pg p).2.2.2 e.1 with
  | false =>
    rw [if_pos (show jb false = 0 from rfl), z_jg (z_in (by omega) (by decide)), nI_clamp (by omega), f1, z_jl]
    by_cases c : hi < lo
    · rw [if_pos c, decide_eq_false (Int32.not_le.mpr c)]
      rfl
    · rw [if_neg c, decide_eq_true (Int32.not_lt.mp c), Bool.true_and, Bool.false_or]
      by_cases d : hi < e.1
      · rw [if_pos d, decide_eq_false (Int32.not_le.mpr d)]
        rfl
      · rw [if_neg d, decide_eq_true (Int32.not_lt.mp d), Bool.true_and, T, z_jbd2]
        exact fin
  | true =>
    rw [if_neg (show ¬ jb true = 0 by decide)]
    by_cases c : hi < lo
    · rw [if_pos c, decide_eq_false (Int32.not_le.mpr c)]
      rfl
    · rw [if_neg c, decide_eq_true (Int32.not_lt.mp c), Bool.true_and, Bool.true_or, Bool.true_and, if_neg h2, T, z_jbd2]
      exact fin
end
