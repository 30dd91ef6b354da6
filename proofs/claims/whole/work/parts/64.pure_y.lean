section
/-! the root, and the way down from it -/
theorem z_jRR (w : jw) (a : Nat) (l l' : List Int32) : jsetR (jsetR w a l) a l' = jsetR w a l' := by
  unfold jsetR
  simp only []
  congr 3
  funext p
  by_cases c : p = a
  · rw [if_pos c, if_pos c]
  · rw [if_neg c, if_neg c, if_neg c]
theorem z_jRs (w : jw) (a : Nat) : jsetR w a (w.2.2.2 a) = w := by
  unfold jsetR
  have : (fun p => if p = a then w.2.2.2 a else w.2.2.2 p) = w.2.2.2 := by
    funext p
    by_cases c : p = a
    · rw [if_pos c, c]
    · rw [if_neg c]
  rw [this]
theorem zrf_tk {ro : List (Int32 × Int32)} {k : Nat} {q : Int32 × Int32} (h : ro[k + 1]? = some q) (τ : Int32) : zrf (ro.take (k + 2)).reverse τ = if q.1 ≤ τ then q.2 else zrf (ro.take (k + 1)).reverse τ := by
  rw [List.take_succ, h]
  show zrf ((ro.take (k + 1)) ++ [q]).reverse τ = _
  rw [List.reverse_append]
  show zrf (q :: (ro.take (k + 1)).reverse) τ = _
  have hl := (List.getElem?_eq_some_iff.mp h).1
  have ne : (ro.take (k + 1)).reverse ≠ [] := fun z => by
    have := congrArg List.length z
    simp at this
    rw [this] at hl
    simp at hl
  rw [show zrf (q :: (ro.take (k + 1)).reverse) τ = if (ro.take (k + 1)).reverse = [] then q.2 else if q.1 ≤ τ then q.2 else zrf (ro.take (k + 1)).reverse τ from rfl, if_neg ne]
theorem zrf_0 {ro : List (Int32 × Int32)} {q : Int32 × Int32} (h : ro[0]? = some q) (τ : Int32) : zrf (ro.take 1).reverse τ = q.2 := by
  cases ro with
  | nil => simp at h
  | cons x xs =>
    rw [List.getElem?_cons_zero] at h
    cases h
    rfl
theorem z_rootAtC_l {ro : List (Int32 × Int32)} {w : jw} {τ : Int32} (h : zCr ro w) (rl : ro.length ≤ 4000) : ∀ (k n : Nat), k < ro.length → k < n → l_X9_rootAt n τ (nI k) w = some (zrf (ro.take (k + 1)).reverse τ, w) := by
  have at4 : ∀ k q, ro[k]? = some q → (w.2.2.2 44).getD k 0 = q.1 ∧ (w.2.2.2 46).getD k 0 = q.2 := fun k q hq => by
    rw [h.1, h.2]
    simp [List.getD_eq_getElem?_getD, hq]
  intro k
  induction k with
  | zero =>
    intro n hk hn
    obtain ⟨q, hq⟩ : ∃ q, ro[0]? = some q := ⟨ro[0], List.getElem?_eq_getElem hk⟩
    cases n with
    | zero => cases hn
    | succ n =>
      unfold l_X9_rootAt
      rw [if_pos (show nI 0 ≤ 0 by decide), zrf_0 hq, show rat (w.2.2.2 46) 0 = rat (w.2.2.2 46) (nI 0) from rfl, z_rat (by decide), (at4 0 q hq).2]
  | succ k ih =>
    intro n hk hn
    obtain ⟨q, hq⟩ : ∃ q, ro[k + 1]? = some q := ⟨ro[k + 1], List.getElem?_eq_getElem hk⟩
    cases n with
    | zero => cases hn
    | succ n =>
      unfold l_X9_rootAt
      rw [if_neg (nI_nle (by omega) (by omega)), z_rat (by omega), z_rat (by omega), (at4 _ q hq).1, (at4 _ q hq).2, zrf_tk hq]
      by_cases c : q.1 ≤ τ
      · rw [if_neg (Int32.not_lt.mpr c), if_pos c]
      · rw [if_pos (Int32.not_le.mp c), if_neg c, z_jl, pk_m1]
        exact ih n (by omega) (by omega)
theorem z_rootAtC {ro : List (Int32 × Int32)} {w : jw} {τ : Int32} (h : zCr ro w) (rn : ro ≠ []) (rl : ro.length ≤ 4000) : f_X9_rootAt τ w = some (zrt ro τ, w) := by
  have l0 : 0 < ro.length := List.length_pos_iff.mpr rn
  unfold f_X9_rootAt
  rw [z_jl, h.1, List.length_map, show nI ro.length - 1 = nI (ro.length - 1) from pk_sub (b := 1) l0]
  have := z_rootAtC_l (τ := τ) h rl (ro.length - 1) jfu (by omega) (by show _ < 40000; omega)
  rw [this, show ro.length - 1 + 1 = ro.length by omega, List.take_length]
  rfl
theorem z_rootAtM_l {ro : List (Int32 × Int32)} {w : jw} {τ : Int32} (h : zMr ro (w.2.1 182)) (rl : ro.length ≤ 700) (r0 : ∀ q, ro[0]? = some q → q.1 ≤ τ) : ∀ (k n : Nat), k < ro.length → k < n → l_X12_rootAt n τ (nI k) w = some (zrf (ro.take (k + 1)).reverse τ, w) := by
  intro k
  induction k with
  | zero =>
    intro n hk hn
    obtain ⟨q, hq⟩ : ∃ q, ro[0]? = some q := ⟨ro[0], List.getElem?_eq_getElem hk⟩
    cases n with
    | zero => cases hn
    | succ n =>
      unfold l_X12_rootAt
      rw [z_10, z_710, z_jg (z_in (by omega) (by decide)), z_jg (z_in (by omega) (by decide)), nI_clamp (by omega), nI_clamp (by omega), (h.2 0 q hq).1, (h.2 0 q hq).2, if_pos (r0 q hq), zrf_0 hq]
  | succ k ih =>
    intro n hk hn
    obtain ⟨q, hq⟩ : ∃ q, ro[k + 1]? = some q := ⟨ro[k + 1], List.getElem?_eq_getElem hk⟩
    cases n with
    | zero => cases hn
    | succ n =>
      unfold l_X12_rootAt
      rw [z_10, z_710, z_jg (z_in (by omega) (by decide)), z_jg (z_in (by omega) (by decide)), nI_clamp (by omega), nI_clamp (by omega), (h.2 _ q hq).1, (h.2 _ q hq).2, zrf_tk hq]
      by_cases c : q.1 ≤ τ
      · rw [if_pos c, if_pos c]
      · rw [if_neg c, if_neg c, z_jl, pk_m1]
        exact ih n (by omega) (by omega)
theorem z_rootAtM {ro : List (Int32 × Int32)} {w : jw} {τ : Int32} (h : zMr ro (w.2.1 182)) (rn : ro ≠ []) (rl : ro.length ≤ 700) (r0 : ∀ q, ro[0]? = some q → q.1 ≤ τ) : f_X12_rootAt τ w = some (zrt ro τ, w) := by
  have l0 : 0 < ro.length := List.length_pos_iff.mpr rn
  unfold f_X12_rootAt
  rw [z_jg j_2, z_jl, k_2, h.1, show nI ro.length - 1 = nI (ro.length - 1) from pk_sub (b := 1) l0]
  have := z_rootAtM_l (τ := τ) h rl r0 (ro.length - 1) jfu (by omega) (by show _ < 40000; omega)
  rw [this, show ro.length - 1 + 1 = ro.length by omega, List.take_length]
  rfl
theorem z_rootNow {ro : List (Int32 × Int32)} {w : jw} {f x : Int32} (h : zMr (ro ++ [(f, x)]) (w.2.1 182)) (rl : ro.length < 700) : f_X12_rootNow w = some (x, w) := by
  have hq : (ro ++ [(f, x)])[ro.length]? = some (f, x) := by simp
  unfold f_X12_rootNow
  rw [z_jg j_2, k_2, h.1, List.length_append, List.length_singleton, z_710, show nI (710 + (ro.length + 1)) - 1 = nI (710 + ro.length) from nI_pred _, z_jg (z_in (by omega) (by decide)), nI_clamp (by omega), (h.2 _ _ hq).2]
theorem z_trace_52_l {B P R : Nat} {key τ : Int32} {pg : Nat → zP} {lo hi : Nat → Int} {lev : Nat → Nat} (hW : zWf (zAt τ P pg) (zLt τ pg) (zKd pg) R lo hi lev) (hB : B ≤ 12) (hP : P ≤ 4000) : ∀ (m x n lv : Nat) (w : jw), zCw B P pg w → zAt τ P pg x → lev x = m → lo x ≤ key.toInt → key.toInt < hi x → m < n → lv + m ≤ 40 → (w.2.2.2 52).length + m ≤ 4000 →
    l_X9_trace_52 n key τ (nI x) (nI lv) w = some (jsetR w 52 (w.2.2.2 52 ++ (zpth pg key τ m x).tail.map nI)) := by
  intro m
  induction m with
  | zero =>
    intro x n lv w hC hx lx k1 k2 hn h40 hl
    cases n with
    | zero => cases hn
    | succ n =>
      have kx : (w.2.2.2 19).getD x 0 = 1 := by
        rw [(hC.2.2.2.2.2.2.2.2.2 x hx.1).1]
        have := (hW.2.2.2.2.2 x hx).2.2.2.1
        rw [if_pos lx] at this
        exact this
      unfold l_X9_trace_52 zpth
      have hx1 := hx.1
      simp only [List.tail_cons, List.map_nil, List.append_nil, z_jRs]
      by_cases c : 40 ≤ lv
      · rw [if_pos (show (40 : Int32) ≤ nI lv from nI_le (a := 40) c (by omega))]
      · rw [if_neg (show ¬ (40 : Int32) ≤ nI lv from nI_ge (b := 40) (by omega) (by decide)), z_isLeafC w (by omega), z_jbd2]
        simp only [z_jb0, kx, decide_true]
        rw [if_neg (by decide)]
  | succ m ih =>
    intro x n lv w hC hx lx k1 k2 hn h40 hl
    cases n with
    | zero => cases hn
    | succ n =>
      have hx1 := hx.1
      have kx : ¬ (w.2.2.2 19).getD x 0 = 1 := by
        rw [(hC.2.2.2.2.2.2.2.2.2 x hx.1).1]
        have := (hW.2.2.2.2.2 x hx).2.2.2.1
        rw [if_neg (by omega)] at this
        rw [show (pg x).1 = 0 from this]
        decide
      obtain ⟨q, e, g1, g2, g3, g4, g5, g6, g7, g8⟩ := z_down hW hx (by omega) k1 k2
      have pB := z_pBs hx1 hB hP
      have hlen := zCw_len hC hx1
      have il := zlen_lt g2
      have c4 := (hW.2.2.2.2.2 _ g5).2.2.2.2.1
      unfold l_X9_trace_52 zpth
      rw [if_neg (show ¬ (40 : Int32) ≤ nI lv from nI_ge (b := 40) (by omega) (by decide)), z_isLeafC w (by omega), z_jbd2]
      simp only [z_jb0, kx, decide_false]
      rw [if_pos trivial, z_toward key hC hx1 hB hP, z_jbd2, g1, show zsl (x * B) (some q) = nI (x * B + q.1) from rfl, z_rat (by omega), (zCw_seg hC hx1 q.1 e g2).2.1, g4]
      simp only [z_jl, nI_1]
      rw [z_jg (decide_eq_true (by omega))]
      rw [ih _ n (lv + 1) (jsetR w 52 (w.2.2.2 52 ++ [nI (zcd pg key τ x)])) (zCw_B hC rfl (fun k k1 k2 => z_jR2 (by omega))) g5 (by omega) g7 g8 (by omega) (by omega) (by rw [z_jR1]; simp; omega)]
      rw [z_jR1, z_jRR]
      congr 2
      rw [List.append_assoc]
      congr 1
      cases m <;> rfl
theorem z_trace_52 {B P R : Nat} {key τ : Int32} {pg : Nat → zP} {ro : List (Int32 × Int32)} {lo hi : Nat → Int} {lev : Nat → Nat} {w : jw} (hW : zWf (zAt τ P pg) (zLt τ pg) (zKd pg) R lo hi lev) (hB : B ≤ 12) (hP : P ≤ 4000) (hC : zCw B P pg w) (hR : zCr ro w) (r1 : zrt ro τ = nI R) (rn : ro ≠ []) (rl : ro.length ≤ 4000) (lR : lev R ≤ 39) (k1 : ¬ key < 0) (k2 : key < 1000) :
    f_X9_trace_52 key τ w = some (jsetR w 52 ((zpth pg key τ (lev R) R).map nI)) := by
  have k1' := Int32.le_iff_toInt_le.mp (Int32.not_lt.mp k1)
  have k2' := Int32.lt_iff_toInt_lt.mp k2
  rw [show (0 : Int32).toInt = 0 by decide] at k1'
  rw [show (1000 : Int32).toInt = 1000 by decide] at k2'
  unfold f_X9_trace_52
  rw [z_jl, show rcut (w.2.2.2 52) 0 = [] by unfold rcut; rw [if_neg (by decide), k_0]; rfl]
  have hR' : zCr ro (jsetR w 52 []) := ⟨by rw [z_jR2 (by decide)]; exact hR.1, by rw [z_jR2 (by decide)]; exact hR.2⟩
  rw [z_rootAtC hR' rn rl, z_jbd2, r1, z_jR1, z_jg (by decide), z_jl, z_jRR]
  have hC' : zCw B P pg (jsetR w 52 ([] ++ [nI R])) := zCw_B hC rfl (fun k k1 k2 => z_jR2 (by omega))
  have T := z_trace_52_l (key := key) hW hB hP (lev R) R jfu 1 (jsetR w 52 ([] ++ [nI R])) hC' hW.1 rfl (by rw [hW.2.1]; exact k1') (by rw [hW.2.2.1]; exact k2') (by show _ < 40000; omega) (by omega) (by rw [z_jR1]; simp; omega)
  rw [show (1 : Int32) = nI 1 from rfl, T, z_jR1, z_jRR]
  congr 2
  cases hm : lev R <;> rfl
theorem z_trace_64_l {B P R : Nat} {key τ : Int32} {pg : Nat → zP} {lo hi : Nat → Int} {lev : Nat → Nat} (hW : zWf (zAt τ P pg) (zLt τ pg) (zKd pg) R lo hi lev) (hB : B ≤ 12) (hP : P ≤ 4000) : ∀ (m x n lv : Nat) (w : jw), zCw B P pg w → zAt τ P pg x → lev x = m → lo x ≤ key.toInt → key.toInt < hi x → m < n → lv + m ≤ 40 → (w.2.2.2 64).length + m ≤ 4000 →
    l_X9_trace_64 n key τ (nI x) (nI lv) w = some (jsetR w 64 (w.2.2.2 64 ++ (zpth pg key τ m x).tail.map nI)) := by
  intro m
  induction m with
  | zero =>
    intro x n lv w hC hx lx k1 k2 hn h40 hl
    cases n with
    | zero => cases hn
    | succ n =>
      have kx : (w.2.2.2 19).getD x 0 = 1 := by
        rw [(hC.2.2.2.2.2.2.2.2.2 x hx.1).1]
        have := (hW.2.2.2.2.2 x hx).2.2.2.1
        rw [if_pos lx] at this
        exact this
      unfold l_X9_trace_64 zpth
      have hx1 := hx.1
      simp only [List.tail_cons, List.map_nil, List.append_nil, z_jRs]
      by_cases c : 40 ≤ lv
      · rw [if_pos (show (40 : Int32) ≤ nI lv from nI_le (a := 40) c (by omega))]
      · rw [if_neg (show ¬ (40 : Int32) ≤ nI lv from nI_ge (b := 40) (by omega) (by decide)), z_isLeafC w (by omega), z_jbd2]
        simp only [z_jb0, kx, decide_true]
        rw [if_neg (by decide)]
  | succ m ih =>
    intro x n lv w hC hx lx k1 k2 hn h40 hl
    cases n with
    | zero => cases hn
    | succ n =>
      have hx1 := hx.1
      have kx : ¬ (w.2.2.2 19).getD x 0 = 1 := by
        rw [(hC.2.2.2.2.2.2.2.2.2 x hx.1).1]
        have := (hW.2.2.2.2.2 x hx).2.2.2.1
        rw [if_neg (by omega)] at this
        rw [show (pg x).1 = 0 from this]
        decide
      obtain ⟨q, e, g1, g2, g3, g4, g5, g6, g7, g8⟩ := z_down hW hx (by omega) k1 k2
      have pB := z_pBs hx1 hB hP
      have hlen := zCw_len hC hx1
      have il := zlen_lt g2
      have c4 := (hW.2.2.2.2.2 _ g5).2.2.2.2.1
      unfold l_X9_trace_64 zpth
      rw [if_neg (show ¬ (40 : Int32) ≤ nI lv from nI_ge (b := 40) (by omega) (by decide)), z_isLeafC w (by omega), z_jbd2]
      simp only [z_jb0, kx, decide_false]
      rw [if_pos trivial, z_toward key hC hx1 hB hP, z_jbd2, g1, show zsl (x * B) (some q) = nI (x * B + q.1) from rfl, z_rat (by omega), (zCw_seg hC hx1 q.1 e g2).2.1, g4]
      simp only [z_jl, nI_1]
      rw [z_jg (decide_eq_true (by omega))]
      rw [ih _ n (lv + 1) (jsetR w 64 (w.2.2.2 64 ++ [nI (zcd pg key τ x)])) (zCw_B hC rfl (fun k k1 k2 => z_jR2 (by omega))) g5 (by omega) g7 g8 (by omega) (by omega) (by rw [z_jR1]; simp; omega)]
      rw [z_jR1, z_jRR]
      congr 2
      rw [List.append_assoc]
      congr 1
      cases m <;> rfl
theorem z_trace_64 {B P R : Nat} {key τ : Int32} {pg : Nat → zP} {ro : List (Int32 × Int32)} {lo hi : Nat → Int} {lev : Nat → Nat} {w : jw} (hW : zWf (zAt τ P pg) (zLt τ pg) (zKd pg) R lo hi lev) (hB : B ≤ 12) (hP : P ≤ 4000) (hC : zCw B P pg w) (hR : zCr ro w) (r1 : zrt ro τ = nI R) (rn : ro ≠ []) (rl : ro.length ≤ 4000) (lR : lev R ≤ 39) (k1 : ¬ key < 0) (k2 : key < 1000) :
    f_X9_trace_64 key τ w = some (jsetR w 64 ((zpth pg key τ (lev R) R).map nI)) := by
  have k1' := Int32.le_iff_toInt_le.mp (Int32.not_lt.mp k1)
  have k2' := Int32.lt_iff_toInt_lt.mp k2
  rw [show (0 : Int32).toInt = 0 by decide] at k1'
  rw [show (1000 : Int32).toInt = 1000 by decide] at k2'
  unfold f_X9_trace_64
  rw [z_jl, show rcut (w.2.2.2 64) 0 = [] by unfold rcut; rw [if_neg (by decide), k_0]; rfl]
  have hR' : zCr ro (jsetR w 64 []) := ⟨by rw [z_jR2 (by decide)]; exact hR.1, by rw [z_jR2 (by decide)]; exact hR.2⟩
  rw [z_rootAtC hR' rn rl, z_jbd2, r1, z_jR1, z_jg (by decide), z_jl, z_jRR]
  have hC' : zCw B P pg (jsetR w 64 ([] ++ [nI R])) := zCw_B hC rfl (fun k k1 k2 => z_jR2 (by omega))
  have T := z_trace_64_l (key := key) hW hB hP (lev R) R jfu 1 (jsetR w 64 ([] ++ [nI R])) hC' hW.1 rfl (by rw [hW.2.1]; exact k1') (by rw [hW.2.2.1]; exact k2') (by show _ < 40000; omega) (by omega) (by rw [z_jR1]; simp; omega)
  rw [show (1 : Int32) = nI 1 from rfl, T, z_jR1, z_jRR]
  congr 2
  cases hm : lev R <;> rfl
def zfD (w w' : jw) : Prop := w'.2.2 = w.2.2 ∧ (∀ a, a ≠ 162 → w'.1 a = w.1 a) ∧ (∀ j, j ≠ 36 → w'.1 162 j = w.1 162 j) ∧ (∀ p, p ≠ 183 → w'.2.1 p = w.2.1 p)
theorem zfD_rfl (w : jw) : zfD w w := ⟨rfl, fun _ _ => rfl, fun _ _ => rfl, fun _ _ => rfl⟩
theorem zfD_st (w : jw) (i : Nat) (x y : Int32) : zfD w (jsetI (jsetX w 183 i x) 162 36 y) := ⟨rfl, fun a ha => z_jI2 ha, fun j hj => by rw [z_jI1, zup_ne hj]; rfl, fun p hp => z_jX2 hp⟩
theorem zfD_trans {a b c : jw} (h : zfD a b) (g : zfD b c) : zfD a c := ⟨g.1.trans h.1, fun x hx => (g.2.1 x hx).trans (h.2.1 x hx), fun x hx => (g.2.2.1 x hx).trans (h.2.2.1 x hx), fun p hp => (g.2.2.2 p hp).trans (h.2.2.2 p hp)⟩
theorem z_gdThen_l {B P R : Nat} {key τ : Int32} {pg : Nat → zP} {lo hi : Nat → Int} {lev : Nat → Nat} (hW : zWf (zAt τ P pg) (zLt τ pg) (zKd pg) R lo hi lev)  : ∀ (m x n cnt : Nat) (w : jw), zM B P pg (w.2.1 182) → zAt τ P pg x → lev x = m → lo x ≤ key.toInt → key.toInt < hi x → m < n → cnt + m ≤ 40 → w.1 162 36 = nI cnt →
    ∃ w', l_X12_goesDownThen n key τ (nI x) w = some w' ∧ zfD w w' ∧ w'.1 162 36 = nI (cnt + m) ∧ (∀ i, i < cnt → w'.2.1 183 i = w.2.1 183 i) ∧ (∀ i y, (zpth pg key τ m x).tail[i]? = some y → w'.2.1 183 (cnt + i) = nI y) := by
  intro m
  induction m with
  | zero =>
    intro x n cnt w hM hx lx k1 k2 hn h40 hc
    cases n with
    | zero => cases hn
    | succ n =>
      have h320 := zM_le hM
      have hx1 := hx.1
      have kx : w.2.1 182 (1410 + 4 * x) = 1 := by
        rw [(hM.2.2.2 x hx.1).1]
        have := (hW.2.2.2.2.2 x hx).2.2.2.1
        rw [if_pos lx] at this
        exact this
      unfold l_X12_goesDownThen zpth
      rw [z_isLeafM w (by omega), z_jbd2]
      simp only [z_jb0, kx, decide_true]
      rw [if_neg (by decide)]
      exact ⟨w, rfl, zfD_rfl w, hc, fun _ _ => rfl, fun i y hy => by simp at hy⟩
  | succ m ih =>
    intro x n cnt w hM hx lx k1 k2 hn h40 hc
    cases n with
    | zero => cases hn
    | succ n =>
      have h320 := zM_le hM
      have hx1 := hx.1
      have h12 := zM_12 hM hx1
      have kx : ¬ w.2.1 182 (1410 + 4 * x) = 1 := by
        rw [(hM.2.2.2 x hx.1).1]
        have := (hW.2.2.2.2.2 x hx).2.2.2.1
        rw [if_neg (by omega)] at this
        rw [show (pg x).1 = 0 from this]
        decide
      obtain ⟨q, e, g1, g2, g3, g4, g5, g6, g7, g8⟩ := z_down hW hx (by omega) k1 k2
      have c4 := (hW.2.2.2.2.2 _ g5).2.2.2.2.1
      have il := zlen_lt g2
      unfold l_X12_goesDownThen
      rw [z_isLeafM w (by omega), z_jbd2]
      simp only [z_jb0, kx, decide_false]
      rw [if_pos trivial]
      have ch : f_X12_childThen (nI x) key τ w = some (nI (zcd pg key τ x), w) := by
        unfold f_X12_childThen
        have L := z_childThen_l (key := key) (t := τ) (by omega) (zM_L hM hx1) h12 (pg x).2.2.2 jfu 0 none (zM_seg hM hx1) (by omega) (by show _ < 40000; omega) (fun q hq => by cases hq)
        refine Eq.trans L ?_
        rw [g1]
        show some (w.2.1 182 (2700 + 48 * x + 4 * q.1 + 3), w) = _
        rw [(zM_seg hM hx1 q.1 e g2).2.2.2, g4]
      rw [ch, z_jbd2, hc, z_jg (z_in (by omega) (by decide)), z_jl, z_jl, nI_clamp (by omega)]
      obtain ⟨w', r1, r2, r3, r4, r5⟩ := ih (zcd pg key τ x) n (cnt + 1) (jsetI (jsetX w 183 cnt (nI (zcd pg key τ x))) 162 36 ((jsetX w 183 cnt (nI (zcd pg key τ x))).1 162 36 + 1)) (by show zM B P pg ((jsetX w 183 cnt _).2.1 182); rw [z_jX2 (by decide)]; exact hM) g5 (by omega) g7 g8 (by omega) (by omega) (by rw [z_jI1, zup_eq]; show w.1 162 36 + 1 = _; rw [hc, nI_1])
      refine ⟨w', r1, zfD_trans (zfD_st _ _ _ _) r2, by rw [r3]; congr 1; omega, fun i hi => ?_, fun i y hy => ?_⟩
      · rw [r4 i (by omega)]
        show (jsetX w 183 cnt _).2.1 183 i = _
        rw [z_jX1, zup_ne (by omega)]
      · have e1 : (zpth pg key τ (m + 1) x).tail = zpth pg key τ m (zcd pg key τ x) := rfl
        rw [e1] at hy
        have e2 : zpth pg key τ m (zcd pg key τ x) = zcd pg key τ x :: (zpth pg key τ m (zcd pg key τ x)).tail := by cases m <;> rfl
        cases i with
        | zero =>
          rw [e2, List.getElem?_cons_zero] at hy
          cases hy
          rw [r4 _ (by omega)]
          show (jsetX w 183 cnt _).2.1 183 (cnt + 0) = _
          rw [z_jX1, Nat.add_zero, zup_eq]
        | succ i =>
          rw [e2, List.getElem?_cons_succ] at hy
          have := r5 i y hy
          rw [show cnt + (i + 1) = cnt + 1 + i by omega]
          exact this
theorem z_gd_l {B P R : Nat} {key τ : Int32} {pg : Nat → zP} {lo hi : Nat → Int} {lev : Nat → Nat} (hW : zWf (zAt τ P pg) (zLt τ pg) (zKd pg) R lo hi lev) (hG : zGl B τ P pg) : ∀ (m x n cnt : Nat) (w : jw), zM B P pg (w.2.1 182) → zAt τ P pg x → lev x = m → lo x ≤ key.toInt → key.toInt < hi x → m < n → cnt + m ≤ 40 → w.1 162 36 = nI cnt →
    ∃ w', l_X12_goesDown n key (nI x) w = some w' ∧ zfD w w' ∧ w'.1 162 36 = nI (cnt + m) ∧ (∀ i, i < cnt → w'.2.1 183 i = w.2.1 183 i) ∧ (∀ i y, (zpth pg key τ m x).tail[i]? = some y → w'.2.1 183 (cnt + i) = nI y) := by
  intro m
  induction m with
  | zero =>
    intro x n cnt w hM hx lx k1 k2 hn h40 hc
    cases n with
    | zero => cases hn
    | succ n =>
      have h320 := zM_le hM
      have hx1 := hx.1
      have kx : w.2.1 182 (1410 + 4 * x) = 1 := by
        rw [(hM.2.2.2 x hx.1).1]
        have := (hW.2.2.2.2.2 x hx).2.2.2.1
        rw [if_pos lx] at this
        exact this
      unfold l_X12_goesDown zpth
      rw [z_isLeafM w (by omega), z_jbd2]
      simp only [z_jb0, kx, decide_true]
      rw [if_neg (by decide)]
      exact ⟨w, rfl, zfD_rfl w, hc, fun _ _ => rfl, fun i y hy => by simp at hy⟩
  | succ m ih =>
    intro x n cnt w hM hx lx k1 k2 hn h40 hc
    cases n with
    | zero => cases hn
    | succ n =>
      have h320 := zM_le hM
      have hx1 := hx.1
      have h12 := zM_12 hM hx1
      have kx : ¬ w.2.1 182 (1410 + 4 * x) = 1 := by
        rw [(hM.2.2.2 x hx.1).1]
        have := (hW.2.2.2.2.2 x hx).2.2.2.1
        rw [if_neg (by omega)] at this
        rw [show (pg x).1 = 0 from this]
        decide
      obtain ⟨q, e, g1, g2, g3, g4, g5, g6, g7, g8⟩ := z_down hW hx (by omega) k1 k2
      have c4 := (hW.2.2.2.2.2 _ g5).2.2.2.2.1
      have il := zlen_lt g2
      unfold l_X12_goesDown
      rw [z_isLeafM w (by omega), z_jbd2]
      simp only [z_jb0, kx, decide_false]
      rw [if_pos trivial]
      have ch : f_X12_childOf (nI x) key w = some (nI (zcd pg key τ x), w) := by
        unfold f_X12_childOf
        have L := z_childOf_l (key := key) (by omega) (zM_L hM hx1) h12 (pg x).2.2.2 jfu 0 none (zM_seg hM hx1) (by omega) (by show _ < 40000; omega) (fun q hq => by cases hq)
        refine Eq.trans L ?_
        rw [zbs_congr (ok' := ztw key τ) _ _ _ (fun e he => by unfold znk ztw; rw [zlv_nw ((hG x hx1).2.1 e he).1]), g1]
        show some (w.2.1 182 (2700 + 48 * x + 4 * q.1 + 3), w) = _
        rw [(zM_seg hM hx1 q.1 e g2).2.2.2, g4]
      rw [ch, z_jbd2, hc, z_jg (z_in (by omega) (by decide)), z_jl, z_jl, nI_clamp (by omega)]
      obtain ⟨w', r1, r2, r3, r4, r5⟩ := ih (zcd pg key τ x) n (cnt + 1) (jsetI (jsetX w 183 cnt (nI (zcd pg key τ x))) 162 36 ((jsetX w 183 cnt (nI (zcd pg key τ x))).1 162 36 + 1)) (by show zM B P pg ((jsetX w 183 cnt _).2.1 182); rw [z_jX2 (by decide)]; exact hM) g5 (by omega) g7 g8 (by omega) (by omega) (by rw [z_jI1, zup_eq]; show w.1 162 36 + 1 = _; rw [hc, nI_1])
      refine ⟨w', r1, zfD_trans (zfD_st _ _ _ _) r2, by rw [r3]; congr 1; omega, fun i hi => ?_, fun i y hy => ?_⟩
      · rw [r4 i (by omega)]
        show (jsetX w 183 cnt _).2.1 183 i = _
        rw [z_jX1, zup_ne (by omega)]
      · have e1 : (zpth pg key τ (m + 1) x).tail = zpth pg key τ m (zcd pg key τ x) := rfl
        rw [e1] at hy
        have e2 : zpth pg key τ m (zcd pg key τ x) = zcd pg key τ x :: (zpth pg key τ m (zcd pg key τ x)).tail := by cases m <;> rfl
        cases i with
        | zero =>
          rw [e2, List.getElem?_cons_zero] at hy
          cases hy
          rw [r4 _ (by omega)]
          show (jsetX w 183 cnt _).2.1 183 (cnt + 0) = _
          rw [z_jX1, Nat.add_zero, zup_eq]
        | succ i =>
          rw [e2, List.getElem?_cons_succ] at hy
          have := r5 i y hy
          rw [show cnt + (i + 1) = cnt + 1 + i by omega]
          exact this
theorem z_gdThen {B P R : Nat} {key τ : Int32} {pg : Nat → zP} {ro : List (Int32 × Int32)} {lo hi : Nat → Int} {lev : Nat → Nat} {w : jw} (hW : zWf (zAt τ P pg) (zLt τ pg) (zKd pg) R lo hi lev) (hM : zM B P pg (w.2.1 182)) (hR : zMr ro (w.2.1 182)) (r1 : zrt ro τ = nI R) (rn : ro ≠ []) (rl : ro.length ≤ 700) (r0 : ∀ q, ro[0]? = some q → q.1 ≤ τ) (lR : lev R ≤ 39) (k1 : ¬ key < 0) (k2 : key < 1000) :
    ∃ w', f_X12_goesDownThen key τ w = some w' ∧ zfD w w' ∧ w'.1 162 36 = nI (lev R + 1) ∧ (∀ i y, (zpth pg key τ (lev R) R)[i]? = some y → w'.2.1 183 i = nI y) := by
  have k1' := Int32.le_iff_toInt_le.mp (Int32.not_lt.mp k1)
  have k2' := Int32.lt_iff_toInt_lt.mp k2
  rw [show (0 : Int32).toInt = 0 by decide] at k1'
  rw [show (1000 : Int32).toInt = 1000 by decide] at k2'
  unfold f_X12_goesDownThen
  rw [z_rootAtM hR rn rl r0, z_jbd2, r1, z_jg (by decide), z_jl, z_jl, k_0]
  obtain ⟨w', a1, a2, a3, a4, a5⟩ := z_gdThen_l (key := key) hW (lev R) R jfu 1 (jsetI (jsetX w 183 0 (nI R)) 162 36 1) (by show zM B P pg ((jsetX w 183 0 _).2.1 182); rw [z_jX2 (by decide)]; exact hM) hW.1 rfl (by rw [hW.2.1]; exact k1') (by rw [hW.2.2.1]; exact k2') (by show _ < 40000; omega) (by omega) (by rw [z_jI1, zup_eq]; rfl)
  refine ⟨w', a1, zfD_trans (zfD_st _ _ _ _) a2, by rw [a3]; congr 1; omega, fun i y hy => ?_⟩
  have e2 : zpth pg key τ (lev R) R = R :: (zpth pg key τ (lev R) R).tail := by cases lev R <;> rfl
  cases i with
  | zero =>
    rw [e2, List.getElem?_cons_zero] at hy
    cases hy
    rw [a4 0 (by omega)]
    show (jsetX w 183 0 _).2.1 183 0 = _
    rw [z_jX1, zup_eq]
  | succ i =>
    rw [e2, List.getElem?_cons_succ] at hy
    have := a5 i y hy
    rw [show i + 1 = 1 + i by omega]
    exact this
theorem z_gd {B P R : Nat} {key t : Int32} {pg : Nat → zP} {ro : List (Int32 × Int32)} {f : Int32} {lo hi : Nat → Int} {lev : Nat → Nat} {w : jw} (hW : zWf (zAt t P pg) (zLt t pg) (zKd pg) R lo hi lev) (hG : zGl B t P pg) (hM : zM B P pg (w.2.1 182)) (hR : zMr (ro ++ [(f, nI R)]) (w.2.1 182)) (rl : ro.length < 700) (lR : lev R ≤ 39) (k1 : ¬ key < 0) (k2 : key < 1000) :
    ∃ w', f_X12_goesDown key w = some w' ∧ zfD w w' ∧ w'.1 162 36 = nI (lev R + 1) ∧ (∀ i y, (zpth pg key t (lev R) R)[i]? = some y → w'.2.1 183 i = nI y) := by
  have k1' := Int32.le_iff_toInt_le.mp (Int32.not_lt.mp k1)
  have k2' := Int32.lt_iff_toInt_lt.mp k2
  rw [show (0 : Int32).toInt = 0 by decide] at k1'
  rw [show (1000 : Int32).toInt = 1000 by decide] at k2'
  unfold f_X12_goesDown
  rw [z_rootNow hR rl, z_jbd2, z_jg (by decide), z_jl, z_jl, k_0]
  obtain ⟨w', a1, a2, a3, a4, a5⟩ := z_gd_l (key := key) hW hG (lev R) R jfu 1 (jsetI (jsetX w 183 0 (nI R)) 162 36 1) (by show zM B P pg ((jsetX w 183 0 _).2.1 182); rw [z_jX2 (by decide)]; exact hM) hW.1 rfl (by rw [hW.2.1]; exact k1') (by rw [hW.2.2.1]; exact k2') (by show _ < 40000; omega) (by omega) (by rw [z_jI1, zup_eq]; rfl)
  refine ⟨w', a1, zfD_trans (zfD_st _ _ _ _) a2, by rw [a3]; congr 1; omega, fun i y hy => ?_⟩
  have e2 : zpth pg key t (lev R) R = R :: (zpth pg key t (lev R) R).tail := by cases lev R <;> rfl
  cases i with
  | zero =>
    rw [e2, List.getElem?_cons_zero] at hy
    cases hy
    rw [a4 0 (by omega)]
    show (jsetX w 183 0 _).2.1 183 0 = _
    rw [z_jX1, zup_eq]
  | succ i =>
    rw [e2, List.getElem?_cons_succ] at hy
    have := a5 i y hy
    rw [show i + 1 = 1 + i by omega]
    exact this
end
