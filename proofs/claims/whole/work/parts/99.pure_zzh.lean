section
/-! terms: the reference's waiting signs -/
def zTRx (T : List zT) (w : jw) : Prop := ∀ (i : Nat) (x : zT), T[i]? = some x → zRk x.1 (w.2.1 165 i) ∧ w.2.1 166 i = x.2.1 ∧ (x.1 = kInt → w.2.1 167 i = x.2.2)
def zCo (cb : Nat) (cc : List zcd1) (w : jw) : Prop := w.1 162 26 = nI (cb + cc.length) ∧ zCm cb cc w
def zWt (l : List Int32) (w : jw) : Prop := w.1 162 30 = nI l.length ∧ ∀ (j : Nat) (x : Int32), l[j]? = some x → w.2.1 178 (l.length - 1 - j) = x
def zfEm (cb : Nat) (w w' : jw) : Prop := w'.2.2 = w.2.2 ∧ (∀ a, a ≠ 162 → w'.1 a = w.1 a) ∧ (∀ j, j ≠ 26 → j ≠ 30 → w'.1 162 j = w.1 162 j) ∧ (∀ p, p ≠ 176 → p ≠ 177 → w'.2.1 p = w.2.1 p) ∧ ∀ q, q < cb → w'.2.1 176 q = w.2.1 176 q ∧ w'.2.1 177 q = w.2.1 177 q
theorem zfEm_rfl (cb : Nat) (w : jw) : zfEm cb w w := ⟨rfl, fun _ _ => rfl, fun _ _ _ => rfl, fun _ _ _ => rfl, fun _ _ => ⟨rfl, rfl⟩⟩
theorem zfEm_trans {cb : Nat} {a b c : jw} (h : zfEm cb a b) (g : zfEm cb b c) : zfEm cb a c := ⟨g.1.trans h.1, fun x hx => (g.2.1 x hx).trans (h.2.1 x hx), fun x h1 h2 => (g.2.2.1 x h1 h2).trans (h.2.2.1 x h1 h2), fun p p1 p2 => (g.2.2.2.1 p p1 p2).trans (h.2.2.2.1 p p1 p2), fun q hq => ⟨(g.2.2.2.2 q hq).1.trans (h.2.2.2.2 q hq).1, (g.2.2.2.2 q hq).2.trans (h.2.2.2.2 q hq).2⟩⟩
theorem z_emit {cb : Nat} {cc : List zcd1} {w : jw} (h : zCo cb cc w) (hb : cb + cc.length < 420) (a v : Int32) : ∃ w', f_X12_emit a v w = some w' ∧ zCo cb (cc ++ [(a, v)]) w' ∧ zfEm cb w w' ∧ w'.1 162 30 = w.1 162 30 := by
  obtain ⟨h1, h2⟩ := h
  have gj : jin (w.1 162 26) 420 = true := by rw [h1]; exact z_in hb (by decide)
  have cl : Int32.toNatClampNeg (w.1 162 26) = cb + cc.length := by rw [h1, nI_clamp (by omega)]
  refine ⟨jsetI (jsetX (jsetX w 176 (cb + cc.length) a) 177 (cb + cc.length) v) 162 26 (nI (cb + cc.length + 1)), ?_, ⟨?_, fun i x hx => ?_⟩, ⟨rfl, fun b hb => z_jI2 hb, fun j j1 _ => ?_, fun p p1 p2 => ?_, fun q hq => ?_⟩, ?_⟩
  · unfold f_X12_emit
    rw [z_jg gj, cl, z_jl]
    rw [z_jg (show jin ((jsetX w 176 (cb + cc.length) a).1 162 26) 420 = true from gj), show Int32.toNatClampNeg ((jsetX w 176 (cb + cc.length) a).1 162 26) = cb + cc.length from cl, z_jl, z_jl]
    rw [show (jsetX (jsetX w 176 (cb + cc.length) a) 177 (cb + cc.length) v).1 162 26 = w.1 162 26 from rfl, h1, nI_1]
  · rw [z_jI1, zup_eq, List.length_append]; rfl
  · show (jsetX (jsetX w 176 (cb + cc.length) a) 177 (cb + cc.length) v).2.1 176 (cb + i) = x.1 ∧ (jsetX (jsetX w 176 (cb + cc.length) a) 177 (cb + cc.length) v).2.1 177 (cb + i) = x.2
    rw [z_jX2 (by decide), z_jX1, z_jX1, z_jX2 (by decide)]
    by_cases c : i = cc.length
    · subst c
      rw [List.getElem?_append_right (Nat.le_refl _), Nat.sub_self] at hx
      cases hx
      rw [zup_eq, zup_eq]
      exact ⟨rfl, rfl⟩
    · have : i < (cc ++ [(a, v)]).length := (List.getElem?_eq_some_iff.mp hx).1
      rw [List.length_append, List.length_singleton] at this
      rw [List.getElem?_append_left (by omega)] at hx
      rw [zup_ne (by omega), zup_ne (by omega)]
      exact h2 i x hx
  · rw [z_jI1, zup_ne j1]; rfl
  · show (jsetX (jsetX w 176 (cb + cc.length) a) 177 (cb + cc.length) v).2.1 p = _
    rw [z_jX2 p2, z_jX2 p1]
  · show (jsetX (jsetX w 176 (cb + cc.length) a) 177 (cb + cc.length) v).2.1 176 q = _ ∧ (jsetX (jsetX w 176 (cb + cc.length) a) 177 (cb + cc.length) v).2.1 177 q = _
    rw [z_jX2 (by decide), z_jX1, z_jX1, z_jX2 (by decide), zup_ne (by omega), zup_ne (by omega)]
    exact ⟨rfl, rfl⟩
  · rw [z_jI1, zup_ne (by decide)]; rfl
theorem zWt_t {k : Int32} {l : List Int32} {w : jw} (h : zWt (k :: l) w) (hl : l.length < 60) : ¬ w.1 162 30 ≤ 0 ∧ jin ((w.1 162 30) - 1) 64 = true ∧ w.2.1 178 (Int32.toNatClampNeg ((w.1 162 30) - 1)) = k ∧ w.1 162 30 - 1 = nI l.length := by
  have e : w.1 162 30 - 1 = nI l.length := by rw [h.1, List.length_cons]; exact pk_sub (b := 1) (by omega)
  refine ⟨?_, by rw [e]; exact z_in (by omega) (by decide), ?_, e⟩
  · rw [h.1, List.length_cons]
    exact nI_ge (a := 0) (by omega) (by omega)
  · rw [e, nI_clamp (by omega)]
    exact h.2 0 k rfl
theorem z_co0 {w : jw} (h : zWt [] w) (n : Nat) (b : Int32) : l_X12_comesOut (n + 1) b w = some w := by
  unfold l_X12_comesOut
  rw [if_pos (by rw [h.1]; decide)]
theorem z_co6 {l : List Int32} {w : jw} (h : zWt (6 :: l) w) (hl : l.length < 60) (n : Nat) (b : Int32) : l_X12_comesOut (n + 1) b w = some w := by
  obtain ⟨t1, t2, t3, t4⟩ := zWt_t h hl
  unfold l_X12_comesOut
  rw [if_neg t1, z_jg t2, t3, z_jl, if_pos rfl]
theorem z_coS {k : Int32} {l : List Int32} {w : jw} (h : zWt (k :: l) w) (hl : l.length < 60) (hk : k = 8 ∨ k = 9) (n : Nat) {b : Int32} (hb : b ≠ 0) : l_X12_comesOut (n + 1) b w = some w := by
  obtain ⟨t1, t2, t3, t4⟩ := zWt_t h hl
  unfold l_X12_comesOut
  rw [if_neg t1, z_jg t2, t3, z_jl]
  rcases hk with z | z
  · rw [z, if_neg (by decide), if_neg hb, if_pos rfl]
  · rw [z, if_neg (by decide), if_neg hb, if_neg (by decide), if_pos rfl]
def zkk (k : Int32) (kc : Nat) : Prop := (k = 8 ∧ kc = 2) ∨ (k = 9 ∧ kc = 3) ∨ (k = 10 ∧ kc = 4) ∨ (k = 15 ∧ kc = 5) ∨ (k = 16 ∧ kc = 6)
theorem z_coP {cb : Nat} {cc : List zcd1} {k : Int32} {kc : Nat} {l : List Int32} {w : jw} (h : zWt (k :: l) w) (hl : l.length < 60) (hk : zkk k kc) (ho : zCo cb cc w) (hb : cb + cc.length < 420) (n : Nat) {b : Int32} (hs : b = 0 ∨ (b ≠ 0 ∧ k ≠ 8 ∧ k ≠ 9)) : ∃ w', l_X12_comesOut (n + 1) b w = l_X12_comesOut n b w' ∧ zWt l w' ∧ zCo cb (cc ++ [(nI kc, 0)]) w' ∧ zfEm cb w w' := by
  obtain ⟨t1, t2, t3, t4⟩ := zWt_t h hl
  have o1 : zCo cb cc (jsetI w 162 30 (nI l.length)) := ⟨by rw [z_jI1, zup_ne (by decide)]; exact ho.1, ho.2⟩
  obtain ⟨w', e1, e2, e3, e4⟩ := z_emit o1 hb (nI kc) 0
  have f0 : zfEm cb w (jsetI w 162 30 (nI l.length)) := ⟨rfl, fun a ha => z_jI2 ha, fun j _ j2 => by rw [z_jI1, zup_ne j2], fun _ _ _ => rfl, fun _ _ => ⟨rfl, rfl⟩⟩
  have wt : zWt l w' := ⟨by rw [e4, z_jI1, zup_eq], fun j x hx => by
    have jl : j < l.length := (List.getElem?_eq_some_iff.mp hx).1
    rw [e3.2.2.2.1 178 (by decide) (by decide)]
    have := h.2 (j + 1) x hx
    rw [List.length_cons, show l.length + 1 - 1 - (j + 1) = l.length - 1 - j by omega] at this
    exact this⟩
  refine ⟨w', ?_, wt, e2, zfEm_trans f0 e3⟩
  rw [show l_X12_comesOut (n + 1) b w = _ from by unfold l_X12_comesOut; exact rfl]
  rw [if_neg t1, z_jg t2, t3, z_jl, t4]
  rcases hs with z | ⟨z1, z2, z3⟩
  · rcases hk with ⟨q, r⟩ | ⟨q, r⟩ | ⟨q, r⟩ | ⟨q, r⟩ | ⟨q, r⟩ <;> subst q <;> subst r
    · rw [if_neg (by decide), if_pos z, z_jl, if_pos rfl, show f_X12_emit 2 0 (jsetI w 162 30 (nI l.length)) = some w' from e1, z_jbd]
    · rw [if_neg (by decide), if_pos z, z_jl, if_neg (by decide), if_pos rfl, show f_X12_emit 3 0 (jsetI w 162 30 (nI l.length)) = some w' from e1, z_jbd]
    · rw [if_neg (by decide), if_pos z, z_jl, if_neg (by decide), if_neg (by decide), if_pos rfl, show f_X12_emit 4 0 (jsetI w 162 30 (nI l.length)) = some w' from e1, z_jbd]
    · rw [if_neg (by decide), if_pos z, z_jl, if_neg (by decide), if_neg (by decide), if_neg (by decide), if_pos rfl, show f_X12_emit 5 0 (jsetI w 162 30 (nI l.length)) = some w' from e1, z_jbd]
    · rw [if_neg (by decide), if_pos z, z_jl, if_neg (by decide), if_neg (by decide), if_neg (by decide), if_neg (by decide), show f_X12_emit 6 0 (jsetI w 162 30 (nI l.length)) = some w' from e1, z_jbd]
  · rcases hk with ⟨q, r⟩ | ⟨q, r⟩ | ⟨q, r⟩ | ⟨q, r⟩ | ⟨q, r⟩ <;> subst q <;> subst r
    · exact absurd rfl z2
    · exact absurd rfl z3
    · rw [if_neg (by decide), if_neg z1, if_neg (by decide), if_neg (by decide), z_jl, if_neg (by decide), if_neg (by decide), if_pos rfl, show f_X12_emit 4 0 (jsetI w 162 30 (nI l.length)) = some w' from e1, z_jbd]
    · rw [if_neg (by decide), if_neg z1, if_neg (by decide), if_neg (by decide), z_jl, if_neg (by decide), if_neg (by decide), if_neg (by decide), if_pos rfl, show f_X12_emit 5 0 (jsetI w 162 30 (nI l.length)) = some w' from e1, z_jbd]
    · rw [if_neg (by decide), if_neg z1, if_neg (by decide), if_neg (by decide), z_jl, if_neg (by decide), if_neg (by decide), if_neg (by decide), if_neg (by decide), show f_X12_emit 6 0 (jsetI w 162 30 (nI l.length)) = some w' from e1, z_jbd]
def kpo (po : Nat) : Int32 := [0, 10, 15, 16].getD po 0
def kso (so : Nat) : Int32 := [0, 8, 9].getD so 0
def zwB (r : List zFm) (wr : List Int32) : List Int32 := if r.length = 0 then [] else 6 :: wr
def zwS (so : Nat) (l : List Int32) : List Int32 := if so = 0 then l else kso so :: l
def zwP (po : Nat) (l : List Int32) : List Int32 := if po = 0 then l else kpo po :: l
def zwt : List zFm → List Int32
  | [] => []
  | f :: r => zwP f.2.2.2.1 (zwS f.1 (zwB r (zwt r)))
def zcS (so : Nat) (cs : List zcd1) : List zcd1 := if so = 0 then [] else cs
def zco : List zFm → List zcd1
  | [] => []
  | f :: r => zco r ++ zcS f.1 f.2.1 ++ zcS f.2.2.2.1 f.2.2.2.2.1
def zno : List zFm → Nat
  | [] => 0
  | f :: r => zno r + (if f.1 = 0 then 0 else 1) + (if f.2.2.2.1 = 0 then 0 else 1)
theorem zwt_len : ∀ fr : List zFm, (zwt fr).length ≤ 3 * fr.length := by
  intro fr
  induction fr with
  | nil => exact Nat.le_refl _
  | cons f r ih =>
    rw [List.length_cons]
    show (zwP f.2.2.2.1 (zwS f.1 (zwB r (zwt r)))).length ≤ _
    unfold zwP zwS zwB
    by_cases c1 : r.length = 0 <;> by_cases c2 : f.1 = 0 <;> by_cases c3 : f.2.2.2.1 = 0 <;> simp only [c1, c2, c3, if_true, if_false, List.length_cons, List.length_nil] <;> omega
theorem zkk_p {po : Nat} (h : po ≤ 3) (h0 : po ≠ 0) : zkk (kpo po) (po + 3) := by
  have : po = 1 ∨ po = 2 ∨ po = 3 := by omega
  rcases this with z | z | z <;> subst z
  · exact Or.inr (Or.inr (Or.inl ⟨rfl, rfl⟩))
  · exact Or.inr (Or.inr (Or.inr (Or.inl ⟨rfl, rfl⟩)))
  · exact Or.inr (Or.inr (Or.inr (Or.inr ⟨rfl, rfl⟩)))
theorem zkk_s {so : Nat} (h : so ≤ 2) (h0 : so ≠ 0) : zkk (kso so) (so + 1) := by
  have : so = 1 ∨ so = 2 := by omega
  rcases this with z | z <;> subst z
  · exact Or.inl ⟨rfl, rfl⟩
  · exact Or.inr (Or.inl ⟨rfl, rfl⟩)
theorem kpo_n {po : Nat} (h : po ≤ 3) (h0 : po ≠ 0) : kpo po ≠ 8 ∧ kpo po ≠ 9 := by
  have : po = 1 ∨ po = 2 ∨ po = 3 := by omega
  rcases this with z | z | z <;> subst z <;> decide
theorem kso_n {so : Nat} (h : so ≤ 2) (h0 : so ≠ 0) : kso so = 8 ∨ kso so = 9 := by
  have : so = 1 ∨ so = 2 := by omega
  rcases this with z | z <;> subst z
  · exact Or.inl rfl
  · exact Or.inr rfl
/-- the product under way comes out -/
theorem z_outP {cb : Nat} {X c cp : List zcd1} {po : Nat} {l : List Int32} {w : jw} (p1 : po ≤ 3) (h : zWt (zwP po l) w) (hl : l.length < 60) (ho : zCo cb (X ++ zcS po cp ++ c) w) (hb : cb + (X ++ zcS po cp ++ c).length < 420) (n : Nat) (b : Int32) : ∃ n' w', n ≤ n' ∧ l_X12_comesOut (n + 1) b w = l_X12_comesOut n' b w' ∧ zWt l w' ∧ zCo cb (X ++ zpcc po cp c) w' ∧ zfEm cb w w' ∧ (X ++ zpcc po cp c).length = (X ++ zcS po cp ++ c).length + (if po = 0 then 0 else 1) := by
  unfold zwP at h
  unfold zcS at ho hb ⊢
  unfold zpcc
  by_cases k : po = 0
  · simp only [if_pos k, List.append_nil, Nat.add_zero] at h ho hb ⊢
    exact ⟨n + 1, w, by omega, rfl, h, ho, zfEm_rfl cb w, trivial⟩
  · simp only [if_neg k] at h ho hb ⊢
    have hs : b = 0 ∨ (b ≠ 0 ∧ kpo po ≠ 8 ∧ kpo po ≠ 9) := by
      by_cases q : b = 0
      · exact Or.inl q
      · exact Or.inr ⟨q, kpo_n p1 k⟩
    obtain ⟨w', e1, e2, e3, e4⟩ := z_coP h hl (zkk_p p1 k) ho hb n hs
    have ee : X ++ cp ++ c ++ [(nI (po + 3), 0)] = X ++ (cp ++ c ++ [(nI (po + 3), 0)]) := by simp only [List.append_assoc]
    rw [ee] at e3
    refine ⟨n, w', Nat.le_refl _, e1, e2, e3, e4, ?_⟩
    rw [← ee, List.length_append, List.length_singleton]
theorem z_out0 {cb : Nat} {c cs cp : List zcd1} {so sm po pm : Nat} {r : List zFm} {w : jw} (s1 : so ≤ 2) (p1 : po ≤ 3) (hr : r.length ≤ 6) (h : zWt (zwt ((so, cs, sm, po, cp, pm) :: r)) w) (ho : zCo cb (zco ((so, cs, sm, po, cp, pm) :: r) ++ c) w) (hb : cb + (zco ((so, cs, sm, po, cp, pm) :: r) ++ c).length + zno ((so, cs, sm, po, cp, pm) :: r) ≤ 410) : ∃ w', f_X12_comesOut 0 w = some w' ∧ zWt (zwB r (zwt r)) w' ∧ zCo cb (zco r ++ zscc so cs (zpcc po cp c)) w' ∧ zfEm cb w w' ∧ cb + (zco r ++ zscc so cs (zpcc po cp c)).length + zno r ≤ cb + (zco ((so, cs, sm, po, cp, pm) :: r) ++ c).length + zno ((so, cs, sm, po, cp, pm) :: r) := by
  have wl := zwt_len r
  have lB : (zwB r (zwt r)).length < 40 := by unfold zwB; split <;> simp <;> omega
  have lS : (zwS so (zwB r (zwt r))).length < 50 := by
    unfold zwS
    split
    · omega
    · rw [List.length_cons]; omega
  have hz : zno ((so, cs, sm, po, cp, pm) :: r) = zno r + (if so = 0 then 0 else 1) + (if po = 0 then 0 else 1) := rfl
  obtain ⟨n1, w1, a0, a1, a2, a3, a4, a5⟩ := z_outP (X := zco r ++ zcS so cs) (n := 39999) (b := 0) p1 h (by show (zwS so (zwB r (zwt r))).length < 60; omega) ho (by show cb + (zco ((so, cs, sm, po, cp, pm) :: r) ++ c).length < 420; omega)
  have a5' : (zco r ++ zcS so cs ++ zpcc po cp c).length = (zco ((so, cs, sm, po, cp, pm) :: r) ++ c).length + (if po = 0 then 0 else 1) := a5
  have stop : ∀ (n : Nat) (w2 : jw), 1 ≤ n → zWt (zwB r (zwt r)) w2 → l_X12_comesOut n 0 w2 = some w2 := fun n w2 hn h2 => by
    obtain ⟨m, rfl⟩ : ∃ m, n = m + 1 := ⟨n - 1, by omega⟩
    unfold zwB at h2
    split at h2
    · exact z_co0 h2 m 0
    · exact z_co6 h2 (by omega) m 0
  unfold zwS at a2
  unfold zscc
  show ∃ w', l_X12_comesOut jfu 0 w = _ ∧ _
  rw [show l_X12_comesOut jfu 0 w = _ from a1]
  by_cases k : so = 0
  · rw [if_pos k] at a2 ⊢
    have e0 : zco r ++ zcS so cs = zco r := by unfold zcS; rw [if_pos k, List.append_nil]
    rw [e0] at a3 a5'
    refine ⟨w1, stop n1 w1 (by omega) a2, a2, a3, a4, ?_⟩
    rw [hz]
    omega
  · rw [if_neg k] at a2 ⊢
    rw [if_neg k] at hz
    have e0 : zco r ++ zcS so cs = zco r ++ cs := by unfold zcS; rw [if_neg k]
    rw [e0] at a3 a5'
    obtain ⟨n2, rfl⟩ : ∃ n2, n1 = n2 + 1 := ⟨n1 - 1, by omega⟩
    obtain ⟨w2, e1, e2, e3, e4⟩ := z_coP a2 (by omega) (zkk_s s1 k) a3 (by rw [a5']; rw [hz] at hb; omega) n2 (b := 0) (Or.inl rfl)
    have ee : zco r ++ cs ++ zpcc po cp c ++ [(nI (so + 1), 0)] = zco r ++ (cs ++ zpcc po cp c ++ [(nI (so + 1), 0)]) := by simp only [List.append_assoc]
    rw [ee] at e3
    refine ⟨w2, by rw [e1]; exact stop n2 w2 (by omega) e2, e2, e3, zfEm_trans a4 e4, ?_⟩
    rw [← ee, List.length_append, List.length_singleton, a5', hz]
    omega
theorem z_out1 {cb : Nat} {c cs cp : List zcd1} {so sm po pm : Nat} {r : List zFm} {w : jw} (s1 : so ≤ 2) (p1 : po ≤ 3) (hr : r.length ≤ 6) (h : zWt (zwt ((so, cs, sm, po, cp, pm) :: r)) w) (ho : zCo cb (zco ((so, cs, sm, po, cp, pm) :: r) ++ c) w) (hb : cb + (zco ((so, cs, sm, po, cp, pm) :: r) ++ c).length + zno ((so, cs, sm, po, cp, pm) :: r) ≤ 410) {b : Int32} (hn : b ≠ 0) : ∃ w', f_X12_comesOut b w = some w' ∧ zWt (zwS so (zwB r (zwt r))) w' ∧ zCo cb (zco r ++ zcS so cs ++ zpcc po cp c) w' ∧ zfEm cb w w' ∧ cb + (zco r ++ zcS so cs ++ zpcc po cp c).length + (zno r + (if so = 0 then 0 else 1)) ≤ cb + (zco ((so, cs, sm, po, cp, pm) :: r) ++ c).length + zno ((so, cs, sm, po, cp, pm) :: r) := by
  have wl := zwt_len r
  have lB : (zwB r (zwt r)).length < 40 := by unfold zwB; split <;> simp <;> omega
  have lS : (zwS so (zwB r (zwt r))).length < 50 := by
    unfold zwS
    split
    · omega
    · rw [List.length_cons]; omega
  have hz : zno ((so, cs, sm, po, cp, pm) :: r) = zno r + (if so = 0 then 0 else 1) + (if po = 0 then 0 else 1) := rfl
  obtain ⟨n1, w1, a0, a1, a2, a3, a4, a5⟩ := z_outP (X := zco r ++ zcS so cs) (n := 39999) (b := b) p1 h (by show (zwS so (zwB r (zwt r))).length < 60; omega) ho (by show cb + (zco ((so, cs, sm, po, cp, pm) :: r) ++ c).length < 420; omega)
  have a5' : (zco r ++ zcS so cs ++ zpcc po cp c).length = (zco ((so, cs, sm, po, cp, pm) :: r) ++ c).length + (if po = 0 then 0 else 1) := a5
  refine ⟨w1, ?_, a2, a3, a4, by rw [hz]; omega⟩
  show l_X12_comesOut jfu b w = _
  rw [show l_X12_comesOut jfu b w = _ from a1]
  obtain ⟨m, rfl⟩ : ∃ m, n1 = m + 1 := ⟨n1 - 1, by omega⟩
  unfold zwS at a2
  by_cases k : so = 0
  · rw [if_pos k] at a2
    unfold zwB at a2
    split at a2
    · exact z_co0 a2 m b
    · exact z_co6 a2 (by omega) m b
  · rw [if_neg k] at a2
    exact z_coS a2 (by omega) (kso_n s1 k) m hn
end
