section
/-! rows in order -/
def zso2 (r : List zE) : Prop := r.Pairwise (fun a b => a.1 ≤ b.1)
theorem zins_perm (x : zE) (r : List zE) : (zins x r).Perm (x :: r) := by
  unfold zins
  have h : r.Perm (r.take (zsp x.1 r r.length) ++ r.drop (zsp x.1 r r.length)) := by rw [List.take_append_drop]
  exact List.perm_middle.trans (List.Perm.cons x h.symm)
theorem zgat_perm (ok : zE → Bool) : ∀ (es r : List zE), (zgat ok es r).Perm (r ++ es.filter ok) := by
  intro es
  induction es with
  | nil => intro r; simp [zgat]
  | cons e es ih =>
    intro r
    unfold zgat
    by_cases c : ok e = true
    · rw [if_pos c, List.filter_cons_of_pos c]
      exact (ih _).trans (((zins_perm e r).append_right _).trans List.perm_middle.symm)
    · rw [if_neg c, List.filter_cons_of_neg c]
      exact ih r
theorem zinl_perm : ∀ (es r : List zE), (zinl es r).Perm (r ++ es) := by
  intro es
  induction es with
  | nil => intro r; simp [zinl]
  | cons e es ih =>
    intro r
    unfold zinl
    exact (ih _).trans (((zins_perm e r).append_right _).trans List.perm_middle.symm)
theorem zsp_bel {x : Int32} {r : List zE} (hr : zso2 r) : ∀ (s i : Nat) (e : zE), s ≤ r.length → r[i]? = some e → i < zsp x r s → e.1 ≤ x := by
  intro s
  induction s with
  | zero => intro i e _ _ h; exact absurd h (Nat.not_lt_zero _)
  | succ s ih =>
    intro i e hs hi h
    obtain ⟨y, hy⟩ : ∃ y, r[s]? = some y := ⟨r[s]'(by omega), List.getElem?_eq_getElem (by omega)⟩
    unfold zsp at h
    rw [hy] at h
    simp only [] at h
    by_cases c : y.1 ≤ x
    · rw [if_pos c] at h
      by_cases d : i = s
      · subst d; rw [hy] at hi; cases hi; exact c
      · have il := (List.getElem?_eq_some_iff.mp hi)
        have sl := (List.getElem?_eq_some_iff.mp hy)
        obtain ⟨i1, i2⟩ := il
        obtain ⟨s1, s2⟩ := sl
        have := List.pairwise_iff_getElem.mp hr i s i1 s1 (by omega)
        rw [i2, s2] at this
        exact Int32.le_trans this c
    · rw [if_neg c] at h
      exact ih i e (by omega) hi h
theorem zsp_abv {x : Int32} {r : List zE} : ∀ (s i : Nat) (e : zE), r[i]? = some e → zsp x r s ≤ i → i < s → x ≤ e.1 := by
  intro s
  induction s with
  | zero => intro i e _ _ h; exact absurd h (Nat.not_lt_zero _)
  | succ s ih =>
    intro i e hi h hs
    unfold zsp at h
    split at h
    · rename_i y hy
      split at h
      · omega
      · rename_i c
        by_cases d : i = s
        · subst d
          rw [hy] at hi
          cases hi
          exact Int32.le_of_lt (Int32.not_le.mp c)
        · exact ih i e hi h (by omega)
    · rename_i hy
      by_cases d : i = s
      · subst d; rw [hy] at hi; cases hi
      · exact ih i e hi h (by omega)
theorem zins_so {x : zE} {r : List zE} (h : zso2 r) : zso2 (zins x r) := by
  unfold zins
  have hle := zsp_le x.1 r r.length
  have tk := List.Pairwise.sublist (List.take_sublist (zsp x.1 r r.length) r) h
  have dr := List.Pairwise.sublist (List.drop_sublist (zsp x.1 r r.length) r) h
  have bel : ∀ a ∈ r.take (zsp x.1 r r.length), a.1 ≤ x.1 := fun a ha => by
    obtain ⟨i, hi⟩ := List.mem_iff_getElem?.mp ha
    have il := (List.getElem?_eq_some_iff.mp hi).1
    rw [List.length_take] at il
    rw [List.getElem?_take_of_lt (by omega)] at hi
    exact zsp_bel h r.length i a (Nat.le_refl _) hi (by omega)
  have abv : ∀ a ∈ r.drop (zsp x.1 r r.length), x.1 ≤ a.1 := fun a ha => by
    obtain ⟨i, hi⟩ := List.mem_iff_getElem?.mp ha
    rw [List.getElem?_drop] at hi
    exact zsp_abv r.length _ a hi (by omega) (zlen_lt hi)
  unfold zso2
  rw [List.pairwise_append]
  refine ⟨tk, List.pairwise_cons.mpr ⟨abv, dr⟩, fun a ha b hb => ?_⟩
  rcases List.mem_cons.mp hb with z | z
  · rw [z]; exact bel a ha
  · exact Int32.le_trans (bel a ha) (abv b z)
theorem zgat_so (ok : zE → Bool) : ∀ (es r : List zE), zso2 r → zso2 (zgat ok es r) := by
  intro es
  induction es with
  | nil => intro r h; exact h
  | cons e es ih =>
    intro r h
    unfold zgat
    split
    · exact ih _ (zins_so h)
    · exact ih _ h
theorem zinl_so : ∀ (es r : List zE), zso2 r → zso2 (zinl es r) := by
  intro es
  induction es with
  | nil => intro r h; exact h
  | cons e es ih => intro r h; exact ih _ (zins_so h)
theorem zso_nil : zso2 [] := List.Pairwise.nil
/-- the halves of a row in order -/
theorem z_halves {r : List zE} {h : Nat} {es : zE} (hs : zso2 r) (hn : zkn r) (he : r[h]? = some es) : (∀ e ∈ r.take h, ke e < ke es) ∧ ∀ e ∈ r.drop h, ke es ≤ ke e := by
  have hl := zlen_lt he
  have get := (List.getElem?_eq_some_iff.mp he).2
  refine ⟨fun e hm => ?_, fun e hm => ?_⟩
  · obtain ⟨i, hi⟩ := List.mem_iff_getElem?.mp hm
    have il := (List.getElem?_eq_some_iff.mp hi).1
    rw [List.length_take] at il
    rw [List.getElem?_take_of_lt (by omega)] at hi
    obtain ⟨i1, i2⟩ := List.getElem?_eq_some_iff.mp hi
    have := List.pairwise_iff_getElem.mp hs i h i1 hl (by omega)
    rw [i2, get] at this
    have k := Int32.le_iff_toInt_le.mp this
    have ne : e.1 ≠ es.1 := fun x => by
      have nd := List.pairwise_iff_getElem.mp hn i h (by simpa using i1) (by simpa using hl) (by omega)
      simp only [List.getElem_map] at nd
      rw [i2, get] at nd
      exact nd x
    have : ke e ≠ ke es := fun x => ne (ke_inj x)
    unfold ke at *
    omega
  · obtain ⟨i, hi⟩ := List.mem_iff_getElem?.mp hm
    rw [List.getElem?_drop] at hi
    obtain ⟨i1, i2⟩ := List.getElem?_eq_some_iff.mp hi
    by_cases c : i = 0
    · subst c
      rw [Nat.add_zero, he] at hi
      cases hi
      exact Int.le_refl _
    · have := List.pairwise_iff_getElem.mp hs h (h + i) hl i1 (by omega)
      rw [i2, get] at this
      exact Int32.le_iff_toInt_le.mp this
theorem zkn_ix {ok : zE → Bool} : ∀ {es : List zE} {j j' : Nat} {e e' : zE}, zkn (es.filter ok) → es[j]? = some e → es[j']? = some e' → ok e = true → ok e' = true → e.1 = e'.1 → j = j' := by
  intro es
  induction es with
  | nil => intro j j' e e' _ h; simp at h
  | cons x es ih =>
    intro j j' e e' hn h1 h2 o1 o2 hk
    have tl : zkn (es.filter ok) := by
      by_cases c : ok x = true
      · rw [List.filter_cons_of_pos c] at hn
        unfold zkn at *
        rw [List.map_cons, List.nodup_cons] at hn
        exact hn.2
      · rw [List.filter_cons_of_neg c] at hn
        exact hn
    have no : ∀ y k, es[k]? = some y → ok y = true → ok x = true → x.1 ≠ y.1 := fun y k hy oy ox e => by
      rw [List.filter_cons_of_pos ox] at hn
      unfold zkn at hn
      rw [List.map_cons, List.nodup_cons] at hn
      exact hn.1 (List.mem_map.mpr ⟨y, List.mem_filter.mpr ⟨List.mem_of_getElem? hy, oy⟩, e.symm⟩)
    cases j with
    | zero =>
      cases j' with
      | zero => rfl
      | succ j' =>
        rw [List.getElem?_cons_zero] at h1
        cases h1
        exact absurd hk (no e' j' (by simpa using h2) o2 o1)
    | succ j =>
      cases j' with
      | zero =>
        rw [List.getElem?_cons_zero] at h2
        cases h2
        exact absurd hk.symm (no e j (by simpa using h1) o1 o2)
      | succ j' =>
        have := ih tl (by simpa using h1) (by simpa using h2) o1 o2 hk
        omega
/-! what an operation may change -/
def zmo (t : Int32) (P : Nat) (pg : Nat → zP) (P' : Nat) (pg' : Nat → zP) : Prop := P ≤ P' ∧ (∀ x, P ≤ x → x < P' → (pg' x).2.1 = t ∧ (∀ e ∈ (pg' x).2.2.2, True)) ∧
  ∀ x, x < P → (pg' x).1 = (pg x).1 ∧ (pg' x).2.1 = (pg x).2.1 ∧ ((pg' x).2.2.1 = (pg x).2.2.1 ∨ ((pg x).2.2.1 = -2 ∧ (pg' x).2.2.1 = t)) ∧
    (∀ (i : Nat) (e : zE), (pg x).2.2.2[i]? = some e → ∃ e', (pg' x).2.2.2[i]? = some e' ∧ e'.1 = e.1 ∧ e'.2.1 = e.2.1 ∧ e'.2.2.2 = e.2.2.2 ∧ (e'.2.2.1 = e.2.2.1 ∨ (e.2.2.1 = -2 ∧ e'.2.2.1 = t))) ∧
    ∀ (i : Nat) (e' : zE), (pg' x).2.2.2[i]? = some e' → (pg x).2.2.2.length ≤ i → e'.2.1 = t
theorem zmo_rfl (t : Int32) (P : Nat) (pg : Nat → zP) : zmo t P pg P pg := ⟨Nat.le_refl _, fun x h1 h2 => by omega, fun x _ => ⟨rfl, rfl, Or.inl rfl, fun i e h => ⟨e, h, rfl, rfl, rfl, Or.inl rfl⟩, fun i e h1 h2 => by have := zlen_lt h1; omega⟩⟩
theorem zmo_trans {t : Int32} {P P' P'' : Nat} {pg pg' pg'' : Nat → zP} (t2 : t ≠ -2) (h : zmo t P pg P' pg') (g : zmo t P' pg' P'' pg'') : zmo t P pg P'' pg'' := by
  obtain ⟨h1, h2, h3⟩ := h
  obtain ⟨g1, g2, g3⟩ := g
  refine ⟨by omega, fun x x1 x2 => ?_, fun x hx => ?_⟩
  · by_cases c : x < P'
    · rw [(g3 x c).2.1]; exact ⟨(h2 x x1 c).1, fun _ _ => trivial⟩
    · exact g2 x (by omega) x2
  · obtain ⟨a1, a2, a3, a4, a5⟩ := h3 x hx
    obtain ⟨b1, b2, b3, b4, b5⟩ := g3 x (by omega)
    refine ⟨b1.trans a1, b2.trans a2, ?_, fun i e hi => ?_, fun i e'' hi hl => ?_⟩
    · rcases b3 with z | ⟨z1, z2⟩
      · rw [z]; exact a3
      · rcases a3 with y | ⟨y1, y2⟩
        · rw [y] at z1; exact Or.inr ⟨z1, z2⟩
        · rw [y2] at z1; exact absurd z1 t2
    · obtain ⟨e', c1, c2, c3, c4, c5⟩ := a4 i e hi
      obtain ⟨e'', d1, d2, d3, d4, d5⟩ := b4 i e' c1
      refine ⟨e'', d1, d2.trans c2, d3.trans c3, d4.trans c4, ?_⟩
      rcases d5 with z | ⟨z1, z2⟩
      · rw [z]; exact c5
      · rcases c5 with y | ⟨y1, y2⟩
        · rw [y] at z1; exact Or.inr ⟨z1, z2⟩
        · rw [y2] at z1; exact absurd z1 t2
    · by_cases c : i < (pg' x).2.2.2.length
      · obtain ⟨e', he'⟩ : ∃ e', (pg' x).2.2.2[i]? = some e' := ⟨_, List.getElem?_eq_getElem c⟩
        obtain ⟨e3, d1, d2, d3, d4, d5⟩ := b4 i e' he'
        rw [d1] at hi
        cases hi
        rw [d3]
        exact a5 i e' he' hl
      · exact b5 i e'' hi (by omega)
theorem zmo_up {t : Int32} {P p : Nat} {pg : Nat → zP} {v : zP} (hv : v.1 = (pg p).1 ∧ v.2.1 = (pg p).2.1 ∧ (v.2.2.1 = (pg p).2.2.1 ∨ ((pg p).2.2.1 = -2 ∧ v.2.2.1 = t)) ∧
    (∀ (i : Nat) (e : zE), (pg p).2.2.2[i]? = some e → ∃ e', v.2.2.2[i]? = some e' ∧ e'.1 = e.1 ∧ e'.2.1 = e.2.1 ∧ e'.2.2.2 = e.2.2.2 ∧ (e'.2.2.1 = e.2.2.1 ∨ (e.2.2.1 = -2 ∧ e'.2.2.1 = t))) ∧
    ∀ (i : Nat) (e' : zE), v.2.2.2[i]? = some e' → (pg p).2.2.2.length ≤ i → e'.2.1 = t) : zmo t P pg P (zup pg p v) := by
  refine ⟨Nat.le_refl _, fun x h1 h2 => by omega, fun x hx => ?_⟩
  by_cases c : x = p
  · subst c; rw [zup_eq]; exact hv
  · rw [zup_ne c]
    exact (zmo_rfl t P pg).2.2 x hx
theorem zmo_fin {t : Int32} {P p : Nat} {pg : Nat → zP} (h : (pg p).2.2.1 = -2) : zmo t P pg P (zfinp pg p t) := zmo_up ⟨rfl, rfl, Or.inr ⟨h, rfl⟩, fun i e h => ⟨e, h, rfl, rfl, rfl, Or.inl rfl⟩, fun i e h1 h2 => by have : i < (pg p).2.2.2.length := zlen_lt h1; omega⟩
theorem zmo_to {t : Int32} {P q i : Nat} {pg : Nat → zP} {e : zE} (he : (pg q).2.2.2[i]? = some e) (h : znw e = true) : zmo t P pg P (ztoP pg q i e t) := zmo_up ⟨rfl, rfl, Or.inl rfl, fun j x hx => by
    by_cases c : i = j
    · subst c
      rw [he] at hx
      cases hx
      exact ⟨(e.1, e.2.1, t, e.2.2.2), by rw [List.getElem?_set, if_pos rfl, if_pos (zlen_lt he)], rfl, rfl, rfl, Or.inr ⟨znw_to h, rfl⟩⟩
    · exact ⟨x, by rw [List.getElem?_set, if_neg c]; exact hx, rfl, rfl, rfl, Or.inl rfl⟩, fun j e h1 h2 => by have := zlen_lt h1; rw [List.length_set] at this; omega⟩
theorem zmo_app {t : Int32} {P q : Nat} {pg : Nat → zP} {l : List zE} (h : ∀ e ∈ l, e.2.1 = t) : zmo t P pg P (zapp pg q l) := zmo_up ⟨rfl, rfl, Or.inl rfl, fun j x hx => ⟨x, by rw [List.getElem?_append_left (zlen_lt hx)]; exact hx, rfl, rfl, rfl, Or.inl rfl⟩, fun j e h1 h2 => by
    rw [List.getElem?_append_right h2] at h1
    exact h e (List.mem_of_getElem? h1)⟩
theorem zmo_new {t : Int32} {P : Nat} {pg : Nat → zP} {v : zP} (h : v.2.1 = t) : zmo t P pg (P + 1) (zup pg P v) := by
  refine ⟨by omega, fun x h1 h2 => ?_, fun x hx => ?_⟩
  · have : x = P := by omega
    subst this
    rw [zup_eq]
    exact ⟨h, fun _ _ => trivial⟩
  · rw [zup_ne (by omega)]
    exact (zmo_rfl t P pg).2.2 x hx
theorem zmo_mk {B : Nat} {t : Int32} {P : Nat} {pg : Nat → zP} {k : Int32} {r : List zE} (t2 : t ≠ -2) : zmo t P pg (P + zmn B r) (zmk B t P pg k r) := by
  unfold zmk
  cases h : ztwo B r with
  | true =>
    rw [if_pos rfl, zmn_two h]
    exact zmo_trans t2 (zmo_new rfl) (zmo_new rfl)
  | false =>
    rw [if_neg (by decide), zmn_one h]
    exact zmo_new rfl
end
