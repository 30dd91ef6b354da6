section
theorem zleave_all {B P p q : Nat} {t : Int32} {pg : Nat → zP} {r : List zE} (h : zlev B t P pg p q r) (hP : P ≤ 4000) (t2 : t ≠ -2) (al : ∀ e ∈ zLv pg q, ∀ s, s < P → e.2.2.2 = nI s → (pg s).2.2.1 = -2) :
    zmo t P pg P (zleave B t pg p q r).1 ∧ (∀ x, x ≠ q → (zleave B t pg p q r).1 x = pg x ∨ ((zleave B t pg p q r).1 x = ((pg x).1, (pg x).2.1, t, (pg x).2.2.2) ∧ (∃ e ∈ zLv pg q, e.2.2.2 = nI x) ∧ x ≠ p ∧ x < P)) ∧
    ((zleave B t pg p q r).1 q).2.1 = (pg q).2.1 ∧ ((zleave B t pg p q r).1 q).2.2.1 = (pg q).2.2.1 ∧ ¬ (zleave B t pg p q r).2.2 < 0 ∧ (∀ e ∈ (zleave B t pg p q r).2.1, e ∈ r ∨ e.2.1 ≤ t) ∧ (zso2 r → zso2 (zleave B t pg p q r).2.1) ∧ (∀ e ∈ ((zleave B t pg p q r).1 q).2.2.2, ¬ e.1 < 0) := by
  obtain ⟨ip, e0, i1, i2, i3⟩ := zlev_ip h
  have h2 := id h
  obtain ⟨p1, p2, p3, p4, p5, p6, p7, p8, p9⟩ := h
  have c3 : znw e0 = true ∧ e0.2.2.2 = nI p := by simpa [zto] using i3
  have k0 := (p4 e0 (List.mem_of_getElem? i2)).2
  unfold zleave
  rw [i1]
  simp only [zgetD i2]
  have setok : ∀ (l : List zE) (i : Nat) (e : zE), ¬ e.1 < 0 → (∀ x ∈ l, ¬ x.1 < 0) → ∀ x ∈ l.set i (e.1, e.2.1, t, e.2.2.2), ¬ x.1 < 0 := fun l i e he hl x hx => by
    rcases List.mem_or_eq_of_mem_set hx with d | d
    · exact hl x d
    · rw [d]; exact he
  cases hz : zsib B r e0.1 (pg q).2.2.2 with
  | none =>
    simp only []
    refine ⟨zmo_to i2 c3.1, fun x hx => Or.inl (zup_ne hx), ?_, ?_, k0, fun e he => Or.inl he, fun z => z, ?_⟩
    · unfold ztoP; rw [zup_eq]
    · unfold ztoP; rw [zup_eq]
    · unfold ztoP; rw [zup_eq]
      exact setok _ _ _ k0 (fun x hx => (p4 x hx).2)
  | some j =>
    obtain ⟨c, e1, s, j1, j2, j3, j4, s1, s2, s3, ji, s4, s5⟩ := zlev_sib h2 i2 i3 hz
    have k1 := (p4 e1 (List.mem_of_getElem? j1)).2
    simp only [zgetD j1, j4, nI_clamp (show s < 2 ^ 31 by omega)]
    have qz : zfinp pg s t q = pg q := zup_ne (fun e => s2 e.symm)
    have m1 : e1 ∈ zLv pg q := List.mem_filter.mpr ⟨List.mem_of_getElem? j1, j2⟩
    have j1' : (zfinp pg s t q).2.2.2[j.1]? = some e1 := by rw [qz]; exact j1
    have i2' : (ztoP (zfinp pg s t) q j.1 e1 t q).2.2.2[ip]? = some e0 := by
      unfold ztoP
      rw [zup_eq, qz]
      show ((pg q).2.2.2.set j.1 _)[ip]? = _
      rw [List.getElem?_set, if_neg ji]
      exact i2
    refine ⟨zmo_trans t2 (zmo_fin (al e1 m1 s s1 j4)) (zmo_trans t2 (zmo_to j1' j2) (zmo_to i2' c3.1)), fun x hx => ?_, ?_, ?_, ?_, fun e he => ?_, fun z => zgat_so _ _ _ z, ?_⟩
    · by_cases c1 : x = s
      · subst c1
        refine Or.inr ⟨?_, ⟨e1, m1, j4⟩, s3, s1⟩
        unfold ztoP
        rw [zup_ne hx, zup_ne hx]
        exact zup_eq _ _ _
      · refine Or.inl ?_
        unfold ztoP
        rw [zup_ne hx, zup_ne hx]
        exact zup_ne c1
    · unfold ztoP; rw [zup_eq, zup_eq, qz]
    · unfold ztoP; rw [zup_eq, zup_eq, qz]
    · split
      · rw [j3]; exact k1
      · exact k0
    · rcases (zgat_mem _ _).mp he with d | ⟨d1, d2⟩
      · exact Or.inl d
      · exact Or.inr (s5 e d1).1.1
    · unfold ztoP; rw [zup_eq, zup_eq, qz]
      exact setok _ _ _ k0 (setok _ _ _ k1 (fun x hx => (p4 x hx).2))
def zpo (B : Nat) (t : Int32) (x : zP) : Prop := x.2.2.2.length ≤ B ∧ (∀ e ∈ x.2.2.2, znok t e ∧ ¬ e.1 < 0) ∧ x.2.1 ≤ t ∧ (x.2.2.1 = -2 ∨ x.2.2.1 ≤ t)
def zGl (B : Nat) (t : Int32) (P : Nat) (pg : Nat → zP) : Prop := ∀ x, x < P → zpo B t (pg x)
def zchn (pg : Nat → zP) (R : Nat) : List Nat → Prop
  | [] => False
  | [p] => p = R
  | p :: q :: up => (∃ e ∈ zLv pg q, e.2.2.2 = nI p) ∧ (pg q).1 ≠ 1 ∧ zchn pg R (q :: up)
theorem zchn_cg {pg pg' : Nat → zP} {R : Nat} : ∀ (pa : List Nat), (∀ x ∈ pa.tail, zLv pg' x = zLv pg x ∧ (pg' x).1 = (pg x).1) → zchn pg R pa → zchn pg' R pa := by
  intro pa
  induction pa with
  | nil => intro _ h; exact h
  | cons p up ih =>
    intro ho h
    cases up with
    | nil => exact h
    | cons q up =>
      obtain ⟨⟨e, h1, h2⟩, h3, h4⟩ := h
      have hq := ho q List.mem_cons_self
      refine ⟨⟨e, by rw [hq.1]; exact h1, h2⟩, by rw [hq.2]; exact h3, ih (fun x hx => ho x (List.mem_cons_of_mem _ hx)) h4⟩
def zres (B : Nat) (t : Int32) (P : Nat) (pg : Nat → zP) (ro : List (Int32 × Int32)) (R : Nat) (o : Nat × (Nat → zP) × List (Int32 × Int32)) : Prop :=
  ∃ R' lo hi lev, zWf (zal o.1 o.2.1) (zLv o.2.1) (zKd o.2.1) R' lo hi lev ∧ zpot B o.1 o.2.1 R' lev ∧ zGl B t o.1 o.2.1 ∧ zmo t P pg o.1 o.2.1 ∧ o.1 ≤ 320 ∧ o.2.2.length ≤ o.1 ∧ ((R' = R ∧ o.2.2 = ro) ∨ o.2.2 = ro ++ [(t, nI R')])
theorem zGl_mk {B P : Nat} {t : Int32} {pg : Nat → zP} {k : Int32} {r : List zE} (h : zGl B t P pg) (hr : ∀ e ∈ r, e.2.2.1 = -2 ∧ ¬ e.1 < 0 ∧ e.2.1 ≤ t) (hh : r.length - r.length / 2 ≤ B) (hB6 : 6 ≤ B) : zGl B t (P + zmn B r) (zmk B t P pg k r) := by
  have okl : ∀ l : List zE, (∀ e ∈ l, e ∈ r) → l.length ≤ B → zpo B t (k, t, -2, l) := fun l hl hb => ⟨hb, fun e he => ⟨⟨(hr e (hl e he)).2.2, Or.inl (hr e (hl e he)).1⟩, (hr e (hl e he)).2.1⟩, Int32.le_refl t, Or.inl rfl⟩
  intro x hx
  cases c : ztwo B r with
  | true =>
    have e1 : zmk B t P pg k r = zup (zup pg P (k, t, -2, r.take (r.length / 2))) (P + 1) (k, t, -2, r.drop (r.length / 2)) := by unfold zmk; rw [if_pos c]
    rw [e1]
    rw [zmn_two c] at hx
    by_cases x1 : x = P + 1
    · subst x1
      rw [zup_eq]
      exact okl _ (fun e he => List.mem_of_mem_drop he) (by simpa using hh)
    · rw [zup_ne x1]
      by_cases x2 : x = P
      · subst x2
        rw [zup_eq]
        exact okl _ (fun e he => List.mem_of_mem_take he) (by simp; omega)
      · rw [zup_ne x2]
        exact h x (by omega)
  | false =>
    have e1 : zmk B t P pg k r = zup pg P (k, t, -2, r) := by unfold zmk; rw [c]; rfl
    rw [e1]
    rw [zmn_one c] at hx
    by_cases x2 : x = P
    · subst x2
      rw [zup_eq]
      have := of_decide_eq_false c
      exact okl _ (fun e he => he) (by omega)
    · rw [zup_ne x2]
      exact h x (by omega)
theorem zGl_fin {B P p : Nat} {t : Int32} {pg : Nat → zP} (h : zGl B t P pg) (hp : p < P) : zGl B t P (zfinp pg p t) := fun x hx => by
  unfold zfinp
  by_cases c : x = p
  · subst c
    rw [zup_eq]
    obtain ⟨a1, a2, a3, a4⟩ := h x hx
    exact ⟨a1, a2, a3, Or.inr (Int32.le_refl t)⟩
  · rw [zup_ne c]; exact h x hx
theorem zlenLv (pg : Nat → zP) (x : Nat) : (zLv pg x).length ≤ (pg x).2.2.2.length := List.length_filter_le _ _
theorem zmk_len {B : Nat} {t : Int32} {P : Nat} {pg : Nat → zP} {k : Int32} {r : List zE} {x : Nat} (hB6 : 6 ≤ B) (hB : B ≤ 12) (hr : r.length ≤ B + B / 4 + 1) (ok : zrowok r) (h1 : P ≤ x) (h2 : x < P + zmn B r) (hc : ztwo B r = true → r.length ≤ B + 1 ∨ r.length ≤ B / 4 + B) : (zLv (zmk B t P pg k r) x).length + 2 ≤ B := by
  have hB7 : B = 6 ∨ B = 7 ∨ B = 8 ∨ B = 9 ∨ B = 10 ∨ B = 11 ∨ B = 12 := by omega
  cases c : ztwo B r with
  | true =>
    have e1 : zmk B t P pg k r = zup (zup pg P (k, t, -2, r.take (r.length / 2))) (P + 1) (k, t, -2, r.drop (r.length / 2)) := by unfold zmk; rw [if_pos c]
    rw [e1]
    rw [zmn_two c] at h2
    have hc' := hc c
    unfold zLv
    by_cases x1 : x = P + 1
    · subst x1
      rw [zup_eq]
      have := List.length_filter_le znw (r.drop (r.length / 2))
      rw [List.length_drop] at this
      show (List.filter znw (r.drop (r.length / 2))).length + 2 ≤ B
      rcases hB7 with rfl | rfl | rfl | rfl | rfl | rfl | rfl <;> omega
    · rw [zup_ne x1, show x = P by omega, zup_eq]
      have := List.length_filter_le znw (r.take (r.length / 2))
      rw [List.length_take] at this
      show (List.filter znw (r.take (r.length / 2))).length + 2 ≤ B
      rcases hB7 with rfl | rfl | rfl | rfl | rfl | rfl | rfl <;> omega
  | false =>
    have e1 : zmk B t P pg k r = zup pg P (k, t, -2, r) := by unfold zmk; rw [c]; rfl
    rw [e1]
    rw [zmn_one c] at h2
    unfold zLv
    rw [show x = P by omega, zup_eq]
    have := List.length_filter_le znw r
    have := of_decide_eq_false c
    show (List.filter znw r).length + 2 ≤ B
    omega
/-- the root's own case of the loop -/
theorem z_loopR {B P p R : Nat} {t : Int32} {pg : Nat → zP} {r : List zE} {ro : List (Int32 × Int32)} {lo hi : Nat → Int} {lev : Nat → Nat} (hB6 : 6 ≤ B) (hB : B ≤ 12) (t2 : t ≠ -2) (tp : ¬ t < 0)
    (hW : zWf (zal P (zvir pg p r)) (zLv (zvir pg p r)) (zKd (zvir pg p r)) R lo hi lev) (hpt : zpot B P (zvir pg p r) R lev) (hG : zGl B t P pg) (pR : p = R) (hp : p < P) (ap : (pg p).2.2.1 = -2) (so : zso2 r) (ok : zrowok r) (fr : ∀ e ∈ r, e.2.1 ≤ t) (hr : r.length ≤ B + 1) (h320 : P + 3 ≤ 320) (hro : ro.length ≤ P) :
    zres B t P pg ro R (zcrown B t P (zmk B t P (zfinp pg p t) (pg p).1 r) r ro) := by
  subst pR
  have hh := zhalf (r := r) hB6 hB (by omega)
  obtain ⟨lo', hi', lev', w1, w2, w3, w4⟩ := z_TR (ro := ro) hW hp ap so ok hB6 h320 t2
  have G1 := zGl_mk (k := (pg p).1) (zGl_fin hG hp) (fun e he => ⟨(ok e he).1, (ok e he).2, fr e he⟩) hh.1 hB6
  have m1 : zmo t P pg (P + zmn B r) (zmk B t P (zfinp pg p t) (pg p).1 r) := zmo_trans t2 (zmo_fin ap) (zmo_mk t2)
  have Fp : zLv (zvir pg p r) p = r := zvir_p ok
  have fp : (zfinp pg p t p).2.2.1 = t := by unfold zfinp; rw [zup_eq]
  cases c : ztwo B r with
  | false =>
    have e2 : zcrown B t P (zmk B t P (zfinp pg p t) (pg p).1 r) r ro = (P + 1, zmk B t P (zfinp pg p t) (pg p).1 r, ro ++ [(t, nI P)]) := by unfold zcrown; rw [c]; rfl
    rw [c] at w1
    rw [e2] at w1 ⊢
    rw [zmn_one c] at w3 G1 m1
    simp only [Bool.false_eq_true, if_false] at w1
    have e1 : zmk B t P (zfinp pg p t) (pg p).1 r = zup (zfinp pg p t) P ((pg p).1, t, -2, r) := by unfold zmk; rw [c]; rfl
    refine ⟨P, lo', hi', lev', w1, ?_, G1, m1, by show P + 1 ≤ 320; omega, by simp; omega, Or.inr rfl⟩
    refine zpot_1 hpt w2 (w3 P (Nat.le_refl _) (by omega)) (fun x hx xR => ?_) ?_ ?_
    · have ex : zmk B t P (zfinp pg p t) (pg p).1 r x = pg x := by rw [zmk_lt hx]; exact zup_ne xR
      have fx : zvir pg p r x = pg x := zup_ne xR
      unfold zLv
      simp only []
      rw [ex, fx]
      exact ⟨rfl, rfl⟩
    · show (zmk B t P (zfinp pg p t) (pg p).1 r p).2.2.1 ≠ -2
      rw [zmk_lt hp, fp]
      exact t2
    · rw [Fp, e1]
      unfold zLv
      simp only []
      rw [zup_eq]
      show (r.filter znw).length = _
      rw [zrow_fil ok]
  | true =>
    have c2 := of_decide_eq_true c
    have e2 : zcrown B t P (zmk B t P (zfinp pg p t) (pg p).1 r) r ro = (P + 3, zup (zmk B t P (zfinp pg p t) (pg p).1 r) (P + 2) (0, t, -2, [(0, t, -2, nI P), (zsec r, t, -2, nI (P + 1))]), ro ++ [(t, nI (P + 2))]) := by unfold zcrown; rw [if_pos c]
    rw [if_pos c] at w1
    rw [e2] at w1 ⊢
    rw [zmn_two c] at w3 G1 m1
    have sp := zsec_pos hB6 ok c
    refine ⟨P + 2, lo', hi', lev', w1, ?_, fun x hx => ?_, zmo_trans t2 m1 (zmo_new rfl), by show P + 3 ≤ 320; omega, by simp; omega, Or.inr rfl⟩
    · refine zpot_2 hpt w2 (w4 c) (fun x hx xR => ?_) ?_ (by rw [Fp]; omega) ?_ (fun x h1 h2 => ?_)
      · have ex : zup (zmk B t P (zfinp pg p t) (pg p).1 r) (P + 2) ((0 : Int32), t, (-2 : Int32), [((0 : Int32), t, (-2 : Int32), nI P), (zsec r, t, -2, nI (P + 1))]) x = pg x := by rw [zup_ne (by omega), zmk_lt hx]; exact zup_ne xR
        have fx : zvir pg p r x = pg x := zup_ne xR
        unfold zLv
        simp only []
        rw [ex, fx]
        exact ⟨rfl, rfl⟩
      · show (zup (zmk B t P (zfinp pg p t) (pg p).1 r) (P + 2) _ p).2.2.1 ≠ -2
        rw [zup_ne (by omega), zmk_lt hp, fp]
        exact t2
      · unfold zLv
        simp only []
        rw [zup_eq]
        rfl
      · have := zmk_len (t := t) (P := P) (pg := zfinp pg p t) (k := (pg p).1) (x := x) hB6 hB (by omega) ok h1 (by rw [zmn_two c]; exact h2) (fun _ => Or.inl hr)
        unfold zLv at *
        simp only []
        rw [zup_ne (by omega)]
        exact this
    · by_cases x1 : x = P + 2
      · subst x1
        show zpo B t (zup _ (P + 2) _ (P + 2))
        rw [zup_eq]
        refine ⟨by show 2 ≤ B; omega, fun e he => ?_, Int32.le_refl t, Or.inl rfl⟩
        simp only [List.mem_cons, List.not_mem_nil, or_false] at he
        rcases he with rfl | rfl
        · exact ⟨⟨Int32.le_refl t, Or.inl rfl⟩, show ¬ (0 : Int32) < 0 by decide⟩
        · exact ⟨⟨Int32.le_refl t, Or.inl rfl⟩, sp⟩
      · show zpo B t (zup _ (P + 2) _ x)
        rw [zup_ne x1]
        exact G1 x (by have : x < P + 3 := hx; omega)
end
