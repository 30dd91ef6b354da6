section
/-! pages made of a row -/
def zdf : zE := (0, 0, 0, 0)
def ztwo (B : Nat) (r : List zE) : Bool := decide (B < r.length + 2)
def zmn (B : Nat) (r : List zE) : Nat := if ztwo B r = true then 2 else 1
def zmk (B : Nat) (t : Int32) (P : Nat) (pg : Nat → zP) (k : Int32) (r : List zE) : Nat → zP :=
  if ztwo B r = true then zup (zup pg P (k, t, -2, r.take (r.length / 2))) (P + 1) (k, t, -2, r.drop (r.length / 2)) else zup pg P (k, t, -2, r)
def zsec (r : List zE) : Int32 := (r.getD (r.length / 2) zdf).1
theorem zup_zup {α : Type} (f : Nat → α) (p : Nat) (x y : α) : zup (zup f p x) p y = zup f p y := by
  funext q
  unfold zup
  by_cases c : q = p
  · rw [if_pos c, if_pos c]
  · rw [if_neg c, if_neg c, if_neg c]
theorem zup_self {α : Type} (f : Nat → α) (p : Nat) : zup f p (f p) = f := by
  funext q
  unfold zup
  by_cases c : q = p
  · rw [if_pos c, c]
  · rw [if_neg c]
theorem zup_com {α : Type} (f : Nat → α) {p q : Nat} (x y : α) (h : p ≠ q) : zup (zup f p x) q y = zup (zup f q y) p x := by
  funext z
  unfold zup
  by_cases c : z = p
  · subst c; rw [if_neg h, if_pos rfl, if_pos rfl]
  · by_cases d : z = q
    · subst d; rw [if_pos rfl, if_neg c, if_pos rfl]
    · rw [if_neg d, if_neg c, if_neg c, if_neg d]
def zfQ (w w' : jw) : Prop := (∀ a, a ≠ 51 → w'.1 a = w.1 a) ∧ w'.1 51 5 = w.1 51 5 ∧ w'.2.1 = w.2.1 ∧ w'.2.2.1 = w.2.2.1 ∧ ∀ k, (k < 19 ∨ 33 < k) → w'.2.2.2 k = w.2.2.2 k
theorem zfQ_rfl (w : jw) : zfQ w w := ⟨fun _ _ => rfl, rfl, rfl, rfl, fun _ _ => rfl⟩
theorem zfQ_trans {a b c : jw} (h : zfQ a b) (g : zfQ b c) : zfQ a c := ⟨fun x hx => (g.1 x hx).trans (h.1 x hx), g.2.1.trans h.2.1, g.2.2.1.trans h.2.2.1, g.2.2.2.1.trans h.2.2.2.1, fun k hk => (g.2.2.2.2 k hk).trans (h.2.2.2.2 k hk)⟩
theorem zfQ_P {w w' : jw} (h : zfP w w') : zfQ w w' := ⟨fun _ _ => by rw [h.1], by rw [h.1], h.2.1, h.2.2.1, h.2.2.2⟩
theorem zfQ_I {w : jw} {j : Nat} {x : Int32} (h : j ≠ 5) : zfQ w (jsetI w 51 j x) := ⟨fun _ ha => z_jI2 ha, by rw [z_jI1, zup_ne (fun e => h e.symm)], rfl, rfl, fun _ _ => rfl⟩
theorem zCw_I {B P : Nat} {pg : Nat → zP} {w : jw} {a j : Nat} {x : Int32} (h : zCw B P pg w) (ha : a ≠ 18) : zCw B P pg (jsetI w a j x) := zCw_B h (by rw [z_jI2 (fun e => ha e.symm)]) (fun _ _ _ => rfl)
theorem zB_Q {w w' : jw} {r : List zE} (h : zB w r) (f : zfQ w w') : zB w' r := by
  unfold zB
  rw [f.1 54 (by decide), f.2.2.1]
  exact h
theorem z_drop_cons {r rest : List zE} {i : Nat} {e : zE} (h : r.drop i = e :: rest) : r[i]? = some e ∧ r.drop (i + 1) = rest ∧ i < r.length := by
  have h1 : r[i]? = some e := by
    have := congrArg (fun l => l[0]?) h
    simpa using this
  refine ⟨h1, ?_, zlen_lt h1⟩
  have := congrArg List.tail h
  simpa using this
theorem z_mk_A {B P c firsts : Nat} {k t b3 : Int32} {r : List zE} (hB : B ≤ 12) (hP : P ≤ 4000) (hc : c < P) (hr : r.length ≤ 32) (hto : ∀ e ∈ r, e.2.2.1 = -2) (hf : firsts ≤ 32) : ∀ (rest : List zE) (n i : Nat) (w : jw) (pg : Nat → zP), zCw B P pg w → zB w r → r.drop i = rest → i ≤ r.length → rest.length < n → (firsts < i ∨ r.length ≤ firsts) → (pg c).2.2.2.length + rest.length ≤ B →
    ∃ w', l_X1_makePages n k t b3 (nI firsts) (nI c) (nI i) w = some w' ∧ zfP w w' ∧ zCw B P (zup pg c ((pg c).1, (pg c).2.1, (pg c).2.2.1, (pg c).2.2.2 ++ rest)) w' := by
  intro rest
  induction rest with
  | nil =>
    intro n i w pg h1 h2 h3 h4 h5 h6 h7
    have hi : r.length ≤ i := by simpa using h3
    cases n with
    | zero => cases h5
    | succ n =>
      unfold l_X1_makePages
      rw [h2.1, if_pos (nI_le hi (by omega))]
      refine ⟨w, rfl, zfP_rfl w, ?_⟩
      rw [List.append_nil]
      rw [show ((pg c).1, (pg c).2.1, (pg c).2.2.1, (pg c).2.2.2) = pg c from rfl, zup_self]
      exact h1
  | cons e rest ih =>
    intro n i w pg h1 h2 h3 h4 h5 h6 h7
    obtain ⟨g1, g2, g3⟩ := z_drop_cons h3
    simp only [List.length_cons] at h5 h7
    cases n with
    | zero => cases h5
    | succ n =>
      unfold l_X1_makePages
      rw [h2.1, if_neg (nI_ge g3 (by omega)), if_neg (show ¬ (32 : Int32) ≤ nI i from nI_ge (b := 32) (by omega) (by decide)), if_neg (fun x => by have := (nI_eq (by omega) (by omega)).mp x; omega)]
      have g := z_in (show i < 32 by omega) (by decide)
      obtain ⟨a1, a2, a3⟩ := h2.2 i e g1
      simp only [z_jg g, z_jl, nI_1, nI_clamp (show i < 2 ^ 31 by omega), a1, a2, a3]
      obtain ⟨w1, q1, q2, q3⟩ := z_append e.1 e.2.2.2 e.2.1 h1 hc (by omega) hB hP
      rw [q1, z_jbd]
      have e4 : (e.1, e.2.1, (-2 : Int32), e.2.2.2) = e := by rw [← hto e (List.mem_of_getElem? g1)]
      rw [e4] at q3
      obtain ⟨w2, p1, p2, p3⟩ := ih n (i + 1) w1 _ q3 (zB_Q h2 (zfQ_P q2)) g2 (by omega) (by omega) (by omega) (by rw [zup_eq]; simp; omega)
      refine ⟨w2, p1, zfP_trans q2 p2, ?_⟩
      rw [zup_eq, zup_zup] at p3
      simpa using p3
theorem z_mk_B {B P c firsts : Nat} {k t b3 : Int32} {r : List zE} (hB : B ≤ 12) (hP : P + 1 ≤ 4000) (hP2 : (P + 1) * B ≤ 4096) (hc : c < P) (hr : r.length ≤ 32) (hto : ∀ e ∈ r, e.2.2.1 = -2) (hf : firsts < r.length) (hh : r.length - firsts ≤ B) : ∀ (d n i : Nat) (w : jw) (pg : Nat → zP), i + d = firsts → zCw B P pg w → zB w r → r.length - i < n → (pg c).2.2.2.length + d ≤ B →
    ∃ w', l_X1_makePages n k t b3 (nI firsts) (nI c) (nI i) w = some w' ∧ zfQ w w' ∧ w'.1 51 4 = w.1 51 4 ∧ w'.1 51 6 = (r.getD firsts zdf).1 ∧ zCw B (P + 1) (zup (zup pg c ((pg c).1, (pg c).2.1, (pg c).2.2.1, (pg c).2.2.2 ++ (r.drop i).take d)) P (k, t, -2, r.drop firsts)) w' := by
  intro d
  induction d with
  | zero =>
    intro n i w pg h0 h1 h2 h3 h4
    have hi : i = firsts := by omega
    subst hi
    obtain ⟨e, he⟩ : ∃ e, r[i]? = some e := ⟨r[i], List.getElem?_eq_getElem hf⟩
    cases n with
    | zero => cases h3
    | succ n =>
      unfold l_X1_makePages
      rw [h2.1, if_neg (nI_ge hf (by omega)), if_neg (show ¬ (32 : Int32) ≤ nI i from nI_ge (b := 32) (by omega) (by decide)), if_pos rfl]
      obtain ⟨w1, q1, q2, q3⟩ := z_open k t h1 hB hP2 (by omega)
      rw [q1, z_jbd2]
      have g := z_in (show i < 32 by omega) (by decide)
      obtain ⟨a1, a2, a3⟩ := h2.2 i e he
      have x1 : w1.2.1 = w.2.1 := q2.2.1
      simp only [z_jg g, z_jl, nI_1, nI_clamp (show i < 2 ^ 31 by omega)]
      rw [x1, a1]
      show ∃ w', (jbd (f_X6_append (nI P) (w1.2.1 55 i) (w1.2.1 56 i) (w1.2.1 57 i) (jsetI w1 51 6 e.1)) _) = _ ∧ _
      rw [x1, a1, a2, a3]
      obtain ⟨w2, p1, p2, p3⟩ := z_append (w := jsetI w1 51 6 e.1) e.1 e.2.2.2 e.2.1 (zCw_I q3 (by decide)) (Nat.lt_succ_self P) (by rw [zup_eq]; show 0 < B; omega) hB hP
      rw [p1, z_jbd]
      have e4 : (e.1, e.2.1, (-2 : Int32), e.2.2.2) = e := by rw [← hto e (List.mem_of_getElem? he)]
      rw [e4, zup_eq, zup_zup] at p3
      have B1 : zB w2 r := zB_Q h2 (zfQ_trans (zfQ_P q2) (zfQ_trans (zfQ_I (by decide)) (zfQ_P p2)))
      have dd : r.drop i = e :: r.drop (i + 1) := by
        rw [List.drop_eq_getElem_cons hf]
        congr 1
        rw [List.getElem?_eq_getElem hf] at he
        exact Option.some.inj he
      obtain ⟨w3, s1, s2, s3⟩ := z_mk_A (P := P + 1) (c := P) (firsts := i) (k := k) (t := t) (b3 := b3) hB (by omega) (Nat.lt_succ_self P) hr hto (by omega) (r.drop (i + 1)) n (i + 1) w2 _ p3 B1 rfl (by omega) (by simp; omega) (Or.inl (Nat.lt_succ_self i)) (by rw [zup_eq]; simp; omega)
      have I2 : w2.1 51 4 = w.1 51 4 := by rw [p2.1, z_jI1, zup_ne (by decide), q2.1]
      have I6 : w2.1 51 6 = e.1 := by rw [p2.1, z_jI1, zup_eq]
      refine ⟨w3, s1, zfQ_trans (zfQ_P q2) (zfQ_trans (zfQ_I (by decide)) (zfQ_trans (zfQ_P p2) (zfQ_P s2))), by rw [s2.1]; exact I2, ?_, ?_⟩
      · rw [s2.1, I6]
        simp [he]
      · rw [zup_eq, zup_zup] at s3
        rw [dd]
        simp only [List.take_zero, List.append_nil]
        rw [show ((pg c).1, (pg c).2.1, (pg c).2.2.1, (pg c).2.2.2) = pg c from rfl, zup_self]
        exact s3
  | succ d ih =>
    intro n i w pg h0 h1 h2 h3 h4
    obtain ⟨e, he⟩ : ∃ e, r[i]? = some e := ⟨r[i]'(by omega), List.getElem?_eq_getElem (by omega)⟩
    cases n with
    | zero => cases h3
    | succ n =>
      unfold l_X1_makePages
      rw [h2.1, if_neg (nI_ge (by omega) (by omega)), if_neg (show ¬ (32 : Int32) ≤ nI i from nI_ge (b := 32) (by omega) (by decide)), if_neg (fun x => by have := (nI_eq (by omega) (by omega)).mp x; omega)]
      have g := z_in (show i < 32 by omega) (by decide)
      obtain ⟨a1, a2, a3⟩ := h2.2 i e he
      simp only [z_jg g, z_jl, nI_1, nI_clamp (show i < 2 ^ 31 by omega), a1, a2, a3]
      obtain ⟨w1, q1, q2, q3⟩ := z_append e.1 e.2.2.2 e.2.1 h1 hc (by omega) hB (by omega)
      rw [q1, z_jbd]
      have e4 : (e.1, e.2.1, (-2 : Int32), e.2.2.2) = e := by rw [← hto e (List.mem_of_getElem? he)]
      rw [e4] at q3
      obtain ⟨w2, p1, p2, p3, p4, p5⟩ := ih n (i + 1) w1 _ (by omega) q3 (zB_Q h2 (zfQ_P q2)) (by omega) (by rw [zup_eq]; simp; omega)
      refine ⟨w2, p1, zfQ_trans (zfQ_P q2) p2, by rw [p3, q2.1], p4, ?_⟩
      rw [zup_eq, zup_zup] at p5
      have dd : (r.drop i).take (d + 1) = e :: (r.drop (i + 1)).take d := by
        rw [List.drop_eq_getElem_cons (by omega : i < r.length), List.take_succ_cons]
        congr 1
        rw [List.getElem?_eq_getElem (by omega)] at he
        exact Option.some.inj he
      rw [dd]
      simpa using p5
set_option maxRecDepth 100000 in
theorem z_makePages {B P : Nat} {pg : Nat → zP} {w : jw} {r : List zE} (k t : Int32) (h : zCw B P pg w) (hb : zB w r) (hr : r.length ≤ 32) (hto : ∀ e ∈ r, e.2.2.1 = -2) (hB6 : 6 ≤ B) (hB : B ≤ 12) (hP2 : (P + 2) * B ≤ 4096) (hh : ztwo B r = true → r.length - r.length / 2 ≤ B) :
    ∃ w', f_X1_makePages k t w = some w' ∧ zfQ w w' ∧ w'.1 51 4 = nI P ∧ w'.1 51 6 = (if ztwo B r = true then zsec r else -1) ∧ zCw B (P + zmn B r) (zmk B t P pg k r) w' := by
  have e1 : (P + 2) * B = P * B + B + B := by rw [show P + 2 = (P + 1) + 1 from rfl, Nat.succ_mul, Nat.succ_mul]
  have e2 : (P + 1) * B = P * B + B := Nat.succ_mul P B
  have PP : P * 6 ≤ P * B := Nat.mul_le_mul_left P hB6
  have hj : 100 < jfu := by unfold jfu; decide
  unfold f_X1_makePages
  generalize jfu = U at *
  rw [h.1, hb.1, show nI B - 2 = nI (B - 2) from pk_sub (b := 2) (by omega), show (0 : Int32) = nI 0 from rfl]
  obtain ⟨w1, q1, q2, q3⟩ := z_open k t h hB (by omega) (by omega)
  by_cases c : r.length ≤ B - 2
  · have c2 : ztwo B r = false := by unfold ztwo; exact decide_eq_false (by omega)
    rw [if_pos (nI_le c (by omega)), if_pos rfl]
    simp only [z_jl, q1, z_jbd2]
    have X : (jsetI w1 51 4 (nI P)).1 51 4 = nI P := by rw [z_jI1, zup_eq]
    rw [X]
    obtain ⟨w2, p1, p2, p3⟩ := z_mk_A (P := P + 1) (c := P) (firsts := r.length) (k := k) (t := t) (b3 := nI 0) hB (by omega) (Nat.lt_succ_self P) hr hto hr r U 0 (jsetI (jsetI w1 51 4 (nI P)) 51 6 (-1)) _ (zCw_I (zCw_I q3 (by decide)) (by decide)) (zB_Q hb (zfQ_trans (zfQ_P q2) (zfQ_trans (zfQ_I (by decide)) (zfQ_I (by decide))))) rfl (Nat.zero_le _) (by omega) (Or.inr (Nat.le_refl _)) (by rw [zup_eq]; simp; omega)
    refine ⟨w2, p1, zfQ_trans (zfQ_P q2) (zfQ_trans (zfQ_I (by decide)) (zfQ_trans (zfQ_I (by decide)) (zfQ_P p2))), ?_, ?_, ?_⟩
    · rw [p2.1, z_jI1, zup_ne (by decide), X]
    · rw [p2.1, z_jI1, zup_eq, c2]; rfl
    · rw [zup_eq, zup_zup] at p3
      unfold zmn zmk
      rw [c2]
      exact p3
  · have c2 : ztwo B r = true := by unfold ztwo; exact decide_eq_true (by omega)
    rw [if_neg (nI_ge (by omega) (by omega)), if_neg (show ¬ (1 : Int32) = nI 0 by decide)]
    simp only [z_jl, q1, z_jbd2]
    have X : (jsetI w1 51 4 (nI P)).1 51 4 = nI P := by rw [z_jI1, zup_eq]
    rw [X, show nI r.length / 2 = nI (r.length / 2) from pk_div (d := 2) (by omega) (by decide) (by decide)]
    have hh2 := hh c2
    obtain ⟨w2, p1, p2, p3, p4, p5⟩ := z_mk_B (P := P + 1) (c := P) (firsts := r.length / 2) (k := k) (t := t) (b3 := 1) hB (by omega) (by omega) (Nat.lt_succ_self P) hr hto (by omega) hh2 (r.length / 2) U 0 (jsetI (jsetI w1 51 4 (nI P)) 51 6 (-1)) _ (by omega) (zCw_I (zCw_I q3 (by decide)) (by decide)) (zB_Q hb (zfQ_trans (zfQ_P q2) (zfQ_trans (zfQ_I (by decide)) (zfQ_I (by decide))))) (by omega) (by rw [zup_eq]; simp; omega)
    refine ⟨w2, p1, zfQ_trans (zfQ_P q2) (zfQ_trans (zfQ_I (by decide)) (zfQ_trans (zfQ_I (by decide)) p2)), ?_, ?_, ?_⟩
    · rw [p3, z_jI1, zup_ne (by decide), X]
    · rw [p4, c2]; rfl
    · rw [zup_eq, zup_zup] at p5
      unfold zmn zmk
      rw [c2]
      simpa using p5
end
