section
/-! the row by which a page is replaced -/
def zsp (x : Int32) (r : List zE) : Nat → Nat
  | 0 => 0
  | s + 1 => match r[s]? with
    | some e => if e.1 ≤ x then s + 1 else zsp x r s
    | none => zsp x r s
def zins (x : zE) (r : List zE) : List zE := r.take (zsp x.1 r r.length) ++ x :: r.drop (zsp x.1 r r.length)
def zA (K V F : Nat → Int32) (r : List zE) : Prop := ∀ (i : Nat) (e : zE), r[i]? = some e → K i = e.1 ∧ V i = e.2.2.2 ∧ F i = e.2.1
def zSh (K V F : Nat → Int32) (r : List zE) (s : Nat) : Prop := ∀ (i : Nat) (e : zE), r[i]? = some e → (i < s → K i = e.1 ∧ V i = e.2.2.2 ∧ F i = e.2.1) ∧ (s ≤ i → K (i + 1) = e.1 ∧ V (i + 1) = e.2.2.2 ∧ F (i + 1) = e.2.1)
theorem zsp_le (x : Int32) (r : List zE) : ∀ s, zsp x r s ≤ s := by
  intro s
  induction s with
  | zero => exact Nat.le_refl _
  | succ s ih =>
    unfold zsp
    split
    · split
      · exact Nat.le_refl _
      · omega
    · omega
theorem zins_length (x : zE) (r : List zE) : (zins x r).length = r.length + 1 := by
  unfold zins
  have := zsp_le x.1 r r.length
  simp
  omega
theorem zA_put {K V F : Nat → Int32} {r : List zE} {s : Nat} (x : zE) (h : zSh K V F r s) (hs : s ≤ r.length) : zA (zup K s x.1) (zup V s x.2.2.2) (zup F s x.2.1) (r.take s ++ x :: r.drop s) := by
  intro i e hi
  have hl : (r.take s).length = s := by simp; omega
  rcases Nat.lt_trichotomy i s with c | c | c
  · rw [List.getElem?_append_left (by omega), List.getElem?_take_of_lt c] at hi
    rw [zup_ne (by omega), zup_ne (by omega), zup_ne (by omega)]
    exact (h i e hi).1 c
  · subst c
    rw [List.getElem?_append_right (by omega), hl, Nat.sub_self] at hi
    cases hi
    rw [zup_eq, zup_eq, zup_eq]
    exact ⟨rfl, rfl, rfl⟩
  · rw [List.getElem?_append_right (by omega), hl, show i - s = (i - s - 1) + 1 by omega, List.getElem?_cons_succ, List.getElem?_drop] at hi
    rw [zup_ne (by omega), zup_ne (by omega), zup_ne (by omega)]
    have := (h _ e hi).2 (by omega)
    rw [show s + (i - s - 1) + 1 = i by omega] at this
    exact this
theorem zSh_dn {K V F : Nat → Int32} {r : List zE} {s : Nat} (h : zSh K V F r (s + 1)) : zSh (zup K (s + 1) (K s)) (zup V (s + 1) (V s)) (zup F (s + 1) (F s)) r s := by
  intro i e hi
  have := h i e hi
  refine ⟨fun c => ?_, fun c => ?_⟩
  · rw [zup_ne (by omega), zup_ne (by omega), zup_ne (by omega)]
    exact this.1 (by omega)
  · by_cases d : i = s
    · subst d
      rw [zup_eq, zup_eq, zup_eq]
      exact this.1 (by omega)
    · rw [zup_ne (by omega), zup_ne (by omega), zup_ne (by omega)]
      exact this.2 (by omega)
theorem zSh_top {K V F : Nat → Int32} {r : List zE} (h : zA K V F r) : zSh K V F r r.length := fun i e hi => ⟨fun _ => h i e hi, fun c => by have := zlen_lt hi; omega⟩
theorem z_jX1 (w : jw) (a i : Nat) (x : Int32) : (jsetX w a i x).2.1 a = zup (w.2.1 a) i x := by
  funext q
  unfold jsetX zup
  by_cases c : q = i
  · simp only [c, and_self, if_true]
  · simp only [c, and_false, if_false]
theorem z_jX2 {w : jw} {a b i : Nat} {x : Int32} (h : b ≠ a) : (jsetX w a i x).2.1 b = w.2.1 b := by
  funext q
  unfold jsetX
  simp only [h, false_and, if_false]
theorem z_jI2 {w : jw} {a j b : Nat} {x : Int32} (h : b ≠ a) : (jsetI w a j x).1 b = w.1 b := by
  funext q
  unfold jsetI
  simp only [h, false_and, if_false]
theorem z_jI1 (w : jw) (a j : Nat) (x : Int32) : (jsetI w a j x).1 a = zup (w.1 a) j x := by
  funext q
  unfold jsetI zup
  by_cases c : q = j
  · simp only [c, and_self, if_true]
  · simp only [c, and_false, if_false]
theorem z_pred {s : Nat} : nI (s + 1) - 1 = nI s := nI_pred s
/-- what a change of the class's row of entries leaves -/
def zfB (w w' : jw) : Prop := w'.2.2 = w.2.2 ∧ (∀ a, a ≠ 54 → w'.1 a = w.1 a) ∧ (∀ p, p ≠ 55 → p ≠ 56 → p ≠ 57 → w'.2.1 p = w.2.1 p)
theorem zfB_rfl (w : jw) : zfB w w := ⟨rfl, fun _ _ => rfl, fun _ _ _ _ => rfl⟩
theorem zfB_trans {a b c : jw} (h : zfB a b) (g : zfB b c) : zfB a c := ⟨g.1.trans h.1, fun x hx => (g.2.1 x hx).trans (h.2.1 x hx), fun p p1 p2 p3 => (g.2.2 p p1 p2 p3).trans (h.2.2 p p1 p2 p3)⟩
def zB (w : jw) (r : List zE) : Prop := w.1 54 3 = nI r.length ∧ zA (w.2.1 55) (w.2.1 56) (w.2.1 57) r
theorem z_insert_l {r : List zE} {x : zE} (hr : r.length < 32) : ∀ (s n : Nat) (w : jw), s ≤ r.length → s < n → w.1 54 3 = nI r.length → zSh (w.2.1 55) (w.2.1 56) (w.2.1 57) r s →
    ∃ w', l_X0_insert n x.1 x.2.2.2 x.2.1 (nI s) w = some w' ∧ zfB w w' ∧ zB w' (r.take (zsp x.1 r s) ++ x :: r.drop (zsp x.1 r s)) := by
  have fin : ∀ (s : Nat) (w : jw), s ≤ r.length → w.1 54 3 = nI r.length → zSh (w.2.1 55) (w.2.1 56) (w.2.1 57) r s → ∃ w', (jg (jin (nI s) 32) (jl (jsetX w 55 (Int32.toNatClampNeg (nI s)) x.1) fun w3 => jg (jin (nI s) 32) (jl (jsetX w3 56 (Int32.toNatClampNeg (nI s)) x.2.2.2) fun w5 => jg (jin (nI s) 32) (jl (jsetX w5 57 (Int32.toNatClampNeg (nI s)) x.2.1) fun w7 => jl (jsetI w7 54 3 ((w7.1 54 3) + 1)) fun w8 => some w8)))) = some w' ∧ zfB w w' ∧ zB w' (r.take s ++ x :: r.drop s) := by
    intro s w hs hw hS
    have g := z_in (show s < 32 by omega) (by decide)
    simp only [z_jg g, z_jl, nI_clamp (show s < 2 ^ 31 by omega)]
    refine ⟨_, rfl, ⟨rfl, fun a ha => z_jI2 ha, fun p p1 p2 p3 => ?_⟩, ?_, ?_⟩
    · show (jsetX (jsetX (jsetX w 55 s x.1) 56 s x.2.2.2) 57 s x.2.1).2.1 p = _
      rw [z_jX2 p3, z_jX2 p2, z_jX2 p1]
    · rw [z_jI1, zup_eq]
      show w.1 54 3 + 1 = _
      rw [hw, nI_1]
      congr 1
      simp
      omega
    · show zA ((jsetX (jsetX (jsetX w 55 s x.1) 56 s x.2.2.2) 57 s x.2.1).2.1 55) ((jsetX (jsetX (jsetX w 55 s x.1) 56 s x.2.2.2) 57 s x.2.1).2.1 56) ((jsetX (jsetX (jsetX w 55 s x.1) 56 s x.2.2.2) 57 s x.2.1).2.1 57) _
      rw [z_jX2 (show 55 ≠ 57 by decide), z_jX2 (show 55 ≠ 56 by decide), z_jX1, z_jX2 (show 56 ≠ 57 by decide), z_jX1, z_jX2 (show 56 ≠ 55 by decide), z_jX1, z_jX2 (show 57 ≠ 56 by decide), z_jX2 (show 57 ≠ 55 by decide)]
      exact zA_put x hS hs
  intro s
  induction s with
  | zero =>
    intro n w hs hn hw hS
    cases n with
    | zero => cases hn
    | succ n =>
      unfold l_X0_insert
      rw [if_pos (show nI 0 ≤ 0 by decide)]
      exact fin 0 w hs hw hS
  | succ s ih =>
    intro n w hs hn hw hS
    cases n with
    | zero => cases hn
    | succ n =>
      obtain ⟨e, he⟩ : ∃ e, r[s]? = some e := ⟨r[s], List.getElem?_eq_getElem (by omega)⟩
      have hk := ((hS s e he).1 (by omega)).1
      unfold l_X0_insert zsp
      rw [if_neg (nI_nle (by omega) (by omega)), z_pred, z_jg (z_in (show s < 32 by omega) (by decide)), nI_clamp (show s < 2 ^ 31 by omega), hk, he]
      by_cases c : e.1 ≤ x.1
      · simp only [if_pos c]
        exact fin (s + 1) w hs hw hS
      · simp only [if_neg c]
        have g := z_in (show s < 32 by omega) (by decide)
        have g' := z_in (show s + 1 < 32 by omega) (by decide)
        simp only [z_jg g, z_jg g', z_jl, nI_clamp (show s < 2 ^ 31 by omega), nI_clamp (show s + 1 < 2 ^ 31 by omega), pk_m1]
        obtain ⟨w', r1, r2, r3⟩ := ih n (jsetX (jsetX (jsetX w 55 (s + 1) e.1) 56 (s + 1) ((jsetX w 55 (s + 1) e.1).2.1 56 s)) 57 (s + 1) ((jsetX (jsetX w 55 (s + 1) e.1) 56 (s + 1) ((jsetX w 55 (s + 1) e.1).2.1 56 s)).2.1 57 s)) (by omega) (by omega) hw (by
          rw [z_jX2 (show 55 ≠ 57 by decide), z_jX2 (show 55 ≠ 56 by decide), z_jX1, z_jX2 (show 56 ≠ 57 by decide), z_jX1, z_jX2 (show 56 ≠ 55 by decide), z_jX1, z_jX2 (show 57 ≠ 56 by decide), z_jX2 (show 57 ≠ 55 by decide), ← hk]
          exact zSh_dn hS)
        refine ⟨w', r1, zfB_trans ?_ r2, r3⟩
        exact ⟨rfl, fun _ _ => rfl, fun p p1 p2 p3 => by rw [z_jX2 p3, z_jX2 p2, z_jX2 p1]⟩
theorem z_insert {r : List zE} {w : jw} (x : zE) (h : zB w r) (hr : r.length < 32) : ∃ w', f_X0_insert x.1 x.2.2.2 x.2.1 w = some w' ∧ zfB w w' ∧ zB w' (zins x r) := by
  unfold f_X0_insert
  rw [h.1, if_neg (nI_pos (by omega)), if_pos (show nI r.length < 32 from nI_lt (show r.length < 32 from hr) (by decide)), z_jl]
  exact z_insert_l hr r.length jfu w (Nat.le_refl _) (by show r.length < 40000; omega) h.1 (zSh_top h.2)
def zgat (ok : zE → Bool) : List zE → List zE → List zE
  | [], r => r
  | e :: es, r => zgat ok es (if ok e = true then zins e r else r)
theorem zgat_length (ok : zE → Bool) : ∀ es r, (zgat ok es r).length = r.length + es.countP ok := by
  intro es
  induction es with
  | nil => intro r; rfl
  | cons e es ih =>
    intro r
    unfold zgat
    rw [ih]
    by_cases c : ok e = true
    · rw [if_pos c, zins_length, List.countP_cons_of_pos c]; omega
    · rw [if_neg c, List.countP_cons_of_neg c]
theorem z_gather_l {a1 t : Int32} : ∀ (es r : List zE) (n s : Nat) (w : jw), zSg (w.2.2.2 27) (w.2.2.2 29) (w.2.2.2 31) (w.2.2.2 33) s es → s + es.length < 2 ^ 31 → es.length < n → zB w r → r.length + es.length ≤ 32 →
    ∃ w', l_X1_gather n a1 t (nI (s + es.length)) (nI s) w = some w' ∧ zfB w w' ∧ zB w' (zgat (zlv t) es r) := by
  intro es
  induction es with
  | nil =>
    intro r n s w h1 h2 h3 h4 h5
    cases n with
    | zero => cases h3
    | succ n =>
      unfold l_X1_gather
      rw [if_pos (nI_le (by simp) (by omega))]
      exact ⟨w, rfl, zfB_rfl w, h4⟩
  | cons e es ih =>
    intro r n s w h1 h2 h3 h4 h5
    simp only [List.length_cons] at h2 h3 h5
    cases n with
    | zero => cases h3
    | succ n =>
      unfold l_X1_gather zgat
      rw [if_neg (nI_ge (by simp) (by simpa using h2)), z_livesAt (by omega) (zSg_hd h1), z_jbd2]
      have e1 : s + (e :: es).length = s + 1 + es.length := by simp; omega
      obtain ⟨f1, f2, f3, f4⟩ := zSg_hd h1
      simp only [z_jb0, z_jl, nI_1, e1, z_rat (show s < 2 ^ 31 by omega), f1, f2, f3]
      by_cases c : zlv t e = true
      · rw [if_neg (by rw [c]; decide), if_pos c]
        obtain ⟨w1, r1, r2, r3⟩ := z_insert e h4 (by omega)
        rw [r1, z_jbd]
        obtain ⟨w2, q1, q2, q3⟩ := ih (zins e r) n (s + 1) w1 (by rw [r2.1]; exact zSg_tl h1) (by omega) (by omega) r3 (by rw [zins_length]; omega)
        exact ⟨w2, q1, zfB_trans r2 q2, q3⟩
      · rw [if_pos (by simpa using c), if_neg c]
        exact ih r n (s + 1) w (zSg_tl h1) (by omega) (by omega) h4 (by omega)
/-- the reference's row -/
def zfW (w w' : jw) : Prop := w'.2.2 = w.2.2 ∧ (∀ a, a ≠ 162 → w'.1 a = w.1 a) ∧ (∀ j, j ≠ 37 → w'.1 162 j = w.1 162 j) ∧ (∀ p, p ≠ 184 → p ≠ 185 → p ≠ 186 → w'.2.1 p = w.2.1 p)
theorem zfW_rfl (w : jw) : zfW w w := ⟨rfl, fun _ _ => rfl, fun _ _ => rfl, fun _ _ _ _ => rfl⟩
theorem zfW_trans {a b c : jw} (h : zfW a b) (g : zfW b c) : zfW a c := ⟨g.1.trans h.1, fun x hx => (g.2.1 x hx).trans (h.2.1 x hx), fun x hx => (g.2.2.1 x hx).trans (h.2.2.1 x hx), fun p p1 p2 p3 => (g.2.2.2 p p1 p2 p3).trans (h.2.2.2 p p1 p2 p3)⟩
def zW (w : jw) (r : List zE) : Prop := w.1 162 37 = nI r.length ∧ zA (w.2.1 184) (w.2.1 186) (w.2.1 185) r
theorem z_joins_l {r : List zE} {x : zE} (hr : r.length < 40) : ∀ (s n : Nat) (w : jw), s ≤ r.length → s < n → w.1 162 37 = nI r.length → zSh (w.2.1 184) (w.2.1 186) (w.2.1 185) r s →
    ∃ w', l_X12_joins n x.1 x.2.1 x.2.2.2 (nI s) w = some w' ∧ zfW w w' ∧ zW w' (r.take (zsp x.1 r s) ++ x :: r.drop (zsp x.1 r s)) := by
  have fin : ∀ (s : Nat) (w : jw), s ≤ r.length → w.1 162 37 = nI r.length → zSh (w.2.1 184) (w.2.1 186) (w.2.1 185) r s → ∃ w', (jg (jin (nI s) 40) (jl (jsetX w 184 (Int32.toNatClampNeg (nI s)) x.1) fun w3 => jg (jin (nI s) 40) (jl (jsetX w3 185 (Int32.toNatClampNeg (nI s)) x.2.1) fun w5 => jg (jin (nI s) 40) (jl (jsetX w5 186 (Int32.toNatClampNeg (nI s)) x.2.2.2) fun w7 => jl (jsetI w7 162 37 ((w7.1 162 37) + 1)) fun w8 => some w8)))) = some w' ∧ zfW w w' ∧ zW w' (r.take s ++ x :: r.drop s) := by
    intro s w hs hw hS
    have g := z_in (show s < 40 by omega) (by decide)
    simp only [z_jg g, z_jl, nI_clamp (show s < 2 ^ 31 by omega)]
    refine ⟨_, rfl, ⟨rfl, fun a ha => z_jI2 ha, fun j hj => by rw [z_jI1, zup_ne hj]; rfl, fun p p1 p2 p3 => ?_⟩, ?_, ?_⟩
    · show (jsetX (jsetX (jsetX w 184 s x.1) 185 s x.2.1) 186 s x.2.2.2).2.1 p = _
      rw [z_jX2 p3, z_jX2 p2, z_jX2 p1]
    · rw [z_jI1, zup_eq]
      show w.1 162 37 + 1 = _
      rw [hw, nI_1]
      congr 1
      simp
      omega
    · show zA ((jsetX (jsetX (jsetX w 184 s x.1) 185 s x.2.1) 186 s x.2.2.2).2.1 184) ((jsetX (jsetX (jsetX w 184 s x.1) 185 s x.2.1) 186 s x.2.2.2).2.1 186) ((jsetX (jsetX (jsetX w 184 s x.1) 185 s x.2.1) 186 s x.2.2.2).2.1 185) _
      rw [z_jX2 (show 184 ≠ 186 by decide), z_jX2 (show 184 ≠ 185 by decide), z_jX1, z_jX1, z_jX2 (show 186 ≠ 185 by decide), z_jX2 (show 186 ≠ 184 by decide), z_jX2 (show 185 ≠ 186 by decide), z_jX1, z_jX2 (show 185 ≠ 184 by decide)]
      exact zA_put x hS hs
  intro s
  induction s with
  | zero =>
    intro n w hs hn hw hS
    cases n with
    | zero => cases hn
    | succ n =>
      unfold l_X12_joins
      rw [if_pos (show nI 0 ≤ 0 by decide)]
      exact fin 0 w hs hw hS
  | succ s ih =>
    intro n w hs hn hw hS
    cases n with
    | zero => cases hn
    | succ n =>
      obtain ⟨e, he⟩ : ∃ e, r[s]? = some e := ⟨r[s], List.getElem?_eq_getElem (by omega)⟩
      have hk := ((hS s e he).1 (by omega)).1
      unfold l_X12_joins zsp
      rw [if_neg (nI_nle (by omega) (by omega)), z_pred, z_jg (z_in (show s < 40 by omega) (by decide)), nI_clamp (show s < 2 ^ 31 by omega), hk, he]
      by_cases c : e.1 ≤ x.1
      · simp only [if_pos c]
        exact fin (s + 1) w hs hw hS
      · simp only [if_neg c]
        have g := z_in (show s < 40 by omega) (by decide)
        have g' : jin (nI (s + 1)) 40 = true := z_in (show s + 1 < 40 by omega) (by decide)
        simp only [z_jg g, z_jg g', z_jl, nI_clamp (show s < 2 ^ 31 by omega), nI_clamp (show s + 1 < 2 ^ 31 by omega), pk_m1]
        obtain ⟨w', r1, r2, r3⟩ := ih n (jsetX (jsetX (jsetX w 184 (s + 1) e.1) 185 (s + 1) ((jsetX w 184 (s + 1) e.1).2.1 185 s)) 186 (s + 1) ((jsetX (jsetX w 184 (s + 1) e.1) 185 (s + 1) ((jsetX w 184 (s + 1) e.1).2.1 185 s)).2.1 186 s)) (by omega) (by omega) hw (by
          rw [z_jX2 (show 184 ≠ 186 by decide), z_jX2 (show 184 ≠ 185 by decide), z_jX1, z_jX1, z_jX2 (show 186 ≠ 185 by decide), z_jX2 (show 186 ≠ 184 by decide), z_jX2 (show 185 ≠ 186 by decide), z_jX1, z_jX2 (show 185 ≠ 184 by decide), ← hk]
          exact zSh_dn hS)
        refine ⟨w', r1, zfW_trans ?_ r2, r3⟩
        exact ⟨rfl, fun _ _ => rfl, fun _ _ => rfl, fun p p1 p2 p3 => by rw [z_jX2 p3, z_jX2 p2, z_jX2 p1]⟩
theorem z_joins {r : List zE} {w : jw} (x : zE) (h : zW w r) (hr : r.length < 40) : ∃ w', f_X12_joins x.1 x.2.1 x.2.2.2 w = some w' ∧ zfW w w' ∧ zW w' (zins x r) := by
  unfold f_X12_joins
  rw [h.1, z_jl]
  exact z_joins_l hr r.length jfu w (Nat.le_refl _) (by show r.length < 40000; omega) h.1 (zSh_top h.2)
theorem z_joinsAll_l {p L : Nat} (hp : p < 8000) (hq : 2700 + 48 * p + 4 * L ≤ 34700) : ∀ (es r : List zE) (n i : Nat) (w : jw), w.2.1 182 (1411 + 4 * p) = nI L → zSm (w.2.1 182) (2700 + 48 * p + 4 * i) es → i + es.length = L → es.length < n → zW w r → r.length + es.length ≤ 40 →
    ∃ w', l_X12_joinsAll n (nI p) (nI i) w = some w' ∧ zfW w w' ∧ zW w' (zgat znw es r) := by
  intro es
  induction es with
  | nil =>
    intro r n i w hL h1 h2 h3 h4 h5
    cases n with
    | zero => cases h3
    | succ n =>
      unfold l_X12_joinsAll
      rw [z_entriesOf w hp, z_jbd2, hL, if_pos (nI_le (by simp at h2; omega) (by omega))]
      exact ⟨w, rfl, zfW_rfl w, h4⟩
  | cons e es ih =>
    intro r n i w hL h1 h2 h3 h4 h5
    simp only [List.length_cons] at h2 h3 h5
    cases n with
    | zero => cases h3
    | succ n =>
      unfold l_X12_joinsAll zgat
      rw [z_entriesOf w hp, z_jbd2, hL, if_neg (nI_ge (by omega) (by omega)), z_entryAt, z_jbd2, z_isLiving (by omega) (zSm_hd h1), z_jbd2]
      obtain ⟨f1, f2, f3, f4⟩ := zSm_hd h1
      have g0 := z_in (show 2700 + 48 * p + 4 * i < 34700 by omega) (by decide)
      have g1 := z_in (show 2700 + 48 * p + 4 * i + 1 < 34700 by omega) (by decide)
      have g3 := z_in (show 2700 + 48 * p + 4 * i + 3 < 34700 by omega) (by decide)
      have a3 : nI (2700 + 48 * p + 4 * i) + 3 = nI (2700 + 48 * p + 4 * i + 3) := nI_add _ 3
      simp only [z_jb0, z_jl, nI_1, a3, z_jg g0, z_jg g1, z_jg g3, nI_clamp (show 2700 + 48 * p + 4 * i < 2 ^ 31 by omega), nI_clamp (show 2700 + 48 * p + 4 * i + 1 < 2 ^ 31 by omega), nI_clamp (show 2700 + 48 * p + 4 * i + 3 < 2 ^ 31 by omega), f1, f2, f4]
      have h6 := zSm_tl h1
      rw [show 2700 + 48 * p + 4 * i + 4 = 2700 + 48 * p + 4 * (i + 1) by omega] at h6
      by_cases c : znw e = true
      · rw [if_neg (by rw [c]; decide), if_pos c]
        obtain ⟨w1, r1, r2, r3⟩ := z_joins e h4 (by omega)
        rw [r1, z_jbd]
        have e182 : w1.2.1 182 = w.2.1 182 := r2.2.2.2 182 (by decide) (by decide) (by decide)
        obtain ⟨w2, q1, q2, q3⟩ := ih (zins e r) n (i + 1) w1 (by rw [e182]; exact hL) (by rw [e182]; exact h6) (by omega) (by omega) r3 (by rw [zins_length]; omega)
        exact ⟨w2, q1, zfW_trans r2 q2, q3⟩
      · rw [if_pos (by simpa using c), if_neg c]
        exact ih r n (i + 1) w hL h6 (by omega) (by omega) h4 (by omega)
end
