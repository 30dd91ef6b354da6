section
/-! a page is replaced, and those above as need be -/
theorem zins_mem {x e : zE} {r : List zE} : e ∈ zins x r ↔ e = x ∨ e ∈ r := by
  unfold zins
  have h : e ∈ r ↔ e ∈ r.take (zsp x.1 r r.length) ∨ e ∈ r.drop (zsp x.1 r r.length) := by
    rw [← List.mem_append, List.take_append_drop]
  rw [List.mem_append, List.mem_cons, h]
  constructor
  · rintro (a | a | a)
    · exact Or.inr (Or.inl a)
    · exact Or.inl a
    · exact Or.inr (Or.inr a)
  · rintro (a | a | a)
    · exact Or.inr (Or.inl a)
    · exact Or.inl a
    · exact Or.inr (Or.inr a)
theorem zgat_mem {ok : zE → Bool} {e : zE} : ∀ (es r : List zE), e ∈ zgat ok es r ↔ e ∈ r ∨ (e ∈ es ∧ ok e = true) := by
  intro es
  induction es with
  | nil => intro r; simp [zgat]
  | cons x es ih =>
    intro r
    unfold zgat
    rw [ih]
    by_cases c : ok x = true
    · rw [if_pos c, zins_mem, List.mem_cons]
      constructor
      · rintro ((a | a) | a)
        · exact Or.inr ⟨Or.inl a, by rw [a]; exact c⟩
        · exact Or.inl a
        · exact Or.inr ⟨Or.inr a.1, a.2⟩
      · rintro (a | ⟨a | a, b⟩)
        · exact Or.inl (Or.inr a)
        · exact Or.inl (Or.inl a)
        · exact Or.inr ⟨a, b⟩
    · rw [if_neg c, List.mem_cons]
      constructor
      · rintro (a | a)
        · exact Or.inl a
        · exact Or.inr ⟨Or.inr a.1, a.2⟩
      · rintro (a | ⟨a | a, b⟩)
        · exact Or.inl a
        · rw [a] at b; exact absurd b c
        · exact Or.inr ⟨a, b⟩
theorem znw_to {e : zE} (h : znw e = true) : e.2.2.1 = -2 := by
  unfold znw at h
  split at h
  · assumption
  · cases h
def zrowok (r : List zE) : Prop := ∀ e ∈ r, e.2.2.1 = -2 ∧ ¬ e.1 < 0
theorem zsec_pos {B : Nat} {r : List zE} (hB : 6 ≤ B) (h : zrowok r) (h2 : ztwo B r = true) : ¬ zsec r < 0 := by
  unfold ztwo at h2
  have h3 := of_decide_eq_true h2
  have hl : r.length / 2 < r.length := by omega
  unfold zsec
  rw [zgetD (List.getElem?_eq_getElem hl)]
  exact (h _ (List.getElem_mem hl)).2
/-- what leaving gives -/
theorem zleave_spec {B P p q : Nat} {t : Int32} {pg : Nat → zP} {r : List zE} (h : zlev B t P pg p q r) (hP : P ≤ 4000) : (zleave B t pg p q r).2.1.length ≤ B + B / 4 + 1 ∧ zrowok (zleave B t pg p q r).2.1 ∧ (∀ x, ((zleave B t pg p q r).1 x).1 = (pg x).1) ∧ (zleave B t pg p q r).1 p = pg p ∧ (∀ e ∈ ((zleave B t pg p q r).1 q).2.2.2, znok t e) ∧ ((zleave B t pg p q r).1 q).2.2.2.length = (pg q).2.2.2.length := by
  obtain ⟨ip, e0, i1, i2, i3⟩ := zlev_ip h
  have h2 := id h
  obtain ⟨p1, p2, p3, p4, p5, p6, p7, p8, p9⟩ := h
  unfold zleave
  rw [i1]
  simp only [zgetD i2]
  have setok : ∀ (l : List zE) (i : Nat) (e : zE), e.2.1 ≤ t → (∀ x ∈ l, znok t x) → ∀ x ∈ l.set i (e.1, e.2.1, t, e.2.2.2), znok t x := fun l i e he hl x hx => by
    rcases List.mem_or_eq_of_mem_set hx with d | d
    · exact hl x d
    · rw [d]; exact ⟨he, Or.inr (Int32.le_refl t)⟩
  cases hz : zsib B r e0.1 (pg q).2.2.2 with
  | none =>
    simp only []
    refine ⟨by omega, p9, fun x => ?_, zup_ne p3, ?_, ?_⟩
    · unfold ztoP zup
      by_cases c : x = q
      · rw [if_pos c, c]
      · rw [if_neg c]
    · unfold ztoP
      rw [zup_eq]
      exact setok _ _ _ (p4 e0 (List.mem_of_getElem? i2)).1.1 (fun x hx => (p4 x hx).1)
    · unfold ztoP
      rw [zup_eq]
      simp
  | some j =>
    obtain ⟨c, e1, s, j1, j2, j3, j4, s1, s2, s3, ji, s4, s5⟩ := zlev_sib h2 i2 i3 hz
    simp only [zgetD j1, j4]
    rw [nI_clamp (show s < 2 ^ 31 by omega)]
    have qz : zfinp pg s t q = pg q := zup_ne (fun e => s2 e.symm)
    have cl := List.countP_le_length (p := znw) (l := (pg s).2.2.2)
    refine ⟨by rw [zgat_length]; omega, fun e he => ?_, fun x => ?_, ?_, ?_, ?_⟩
    · rcases (zgat_mem _ _).mp he with d | ⟨d1, d2⟩
      · exact p9 e d
      · exact ⟨znw_to d2, (s5 e d1).2⟩
    · unfold ztoP
      rw [zup_zup, zup_eq, qz]
      unfold zfinp zup
      by_cases c1 : x = q
      · rw [if_pos c1, c1]
      · rw [if_neg c1]
        by_cases c2 : x = s
        · rw [if_pos c2, c2]
        · rw [if_neg c2]
    · unfold ztoP
      rw [zup_ne p3, zup_ne p3]
      exact zup_ne (fun e => s3 e.symm)
    · unfold ztoP
      rw [zup_eq, zup_eq, qz]
      exact setok _ _ _ (p4 e0 (List.mem_of_getElem? i2)).1.1 (setok _ _ _ (p4 e1 (List.mem_of_getElem? j1)).1.1 (fun x hx => (p4 x hx).1))
    · unfold ztoP
      rw [zup_eq, zup_eq, qz]
      simp
def zrep (B : Nat) (t : Int32) : List Nat → Nat → (Nat → zP) → List (Int32 × Int32) → List zE → Nat × (Nat → zP) × List (Int32 × Int32)
  | [], P, pg, ro, _ => (P, pg, ro)
  | [p], P, pg, ro, r => zcrown B t P (zmk B t P (zfinp pg p t) (pg p).1 r) r ro
  | p :: q :: up, P, pg, ro, r =>
    if (zhand B t P q (decide (up.length = 0)) (zmk B t P (zfinp (zleave B t pg p q r).1 p t) (pg p).1 (zleave B t pg p q r).2.1) (zleave B t pg p q r).2.1 (zleave B t pg p q r).2.2 ro).1 = true then
      zrep B t (q :: up) (P + zmn B (zleave B t pg p q r).2.1)
        (zhand B t P q (decide (up.length = 0)) (zmk B t P (zfinp (zleave B t pg p q r).1 p t) (pg p).1 (zleave B t pg p q r).2.1) (zleave B t pg p q r).2.1 (zleave B t pg p q r).2.2 ro).2.1
        (zhand B t P q (decide (up.length = 0)) (zmk B t P (zfinp (zleave B t pg p q r).1 p t) (pg p).1 (zleave B t pg p q r).2.1) (zleave B t pg p q r).2.1 (zleave B t pg p q r).2.2 ro).2.2.1
        (zhand B t P q (decide (up.length = 0)) (zmk B t P (zfinp (zleave B t pg p q r).1 p t) (pg p).1 (zleave B t pg p q r).2.1) (zleave B t pg p q r).2.1 (zleave B t pg p q r).2.2 ro).2.2.2
    else (P + zmn B (zleave B t pg p q r).2.1,
        (zhand B t P q (decide (up.length = 0)) (zmk B t P (zfinp (zleave B t pg p q r).1 p t) (pg p).1 (zleave B t pg p q r).2.1) (zleave B t pg p q r).2.1 (zleave B t pg p q r).2.2 ro).2.1,
        (zhand B t P q (decide (up.length = 0)) (zmk B t P (zfinp (zleave B t pg p q r).1 p t) (pg p).1 (zleave B t pg p q r).2.1) (zleave B t pg p q r).2.1 (zleave B t pg p q r).2.2 ro).2.2.1)
def zgood (B : Nat) (t : Int32) : List Nat → Nat → (Nat → zP) → List (Int32 × Int32) → List zE → Prop
  | [], _, _, _, _ => False
  | [p], P, _, ro, r => p < P ∧ r.length ≤ B + 1 ∧ zrowok r ∧ P + 3 ≤ 320 ∧ ro.length < 700
  | p :: q :: up, P, pg, ro, r => zlev B t P pg p q r ∧ P + 2 ≤ 320 ∧ ro.length < 700 ∧
    ((zhand B t P q (decide (up.length = 0)) (zmk B t P (zfinp (zleave B t pg p q r).1 p t) (pg p).1 (zleave B t pg p q r).2.1) (zleave B t pg p q r).2.1 (zleave B t pg p q r).2.2 ro).1 = true →
      zgood B t (q :: up) (P + zmn B (zleave B t pg p q r).2.1)
        (zhand B t P q (decide (up.length = 0)) (zmk B t P (zfinp (zleave B t pg p q r).1 p t) (pg p).1 (zleave B t pg p q r).2.1) (zleave B t pg p q r).2.1 (zleave B t pg p q r).2.2 ro).2.1
        (zhand B t P q (decide (up.length = 0)) (zmk B t P (zfinp (zleave B t pg p q r).1 p t) (pg p).1 (zleave B t pg p q r).2.1) (zleave B t pg p q r).2.1 (zleave B t pg p q r).2.2 ro).2.2.1
        (zhand B t P q (decide (up.length = 0)) (zmk B t P (zfinp (zleave B t pg p q r).1 p t) (pg p).1 (zleave B t pg p q r).2.1) (zleave B t pg p q r).2.1 (zleave B t pg p q r).2.2 ro).2.2.2)
def zway (l : List Int32) : List Nat → Prop
  | [] => True
  | p :: up => l.getD up.length 0 = nI p ∧ zway l up
theorem zmk_lt {B : Nat} {t : Int32} {P x : Nat} {pg : Nat → zP} {k : Int32} {r : List zE} (h : x < P) : zmk B t P pg k r x = pg x := by
  unfold zmk
  split
  · rw [zup_ne (by omega), zup_ne (by omega)]
  · rw [zup_ne (by omega)]
theorem zhalf {B : Nat} {r : List zE} (hB6 : 6 ≤ B) (hB : B ≤ 12) (h : r.length ≤ B + B / 4 + 1) : r.length - r.length / 2 ≤ B ∧ r.length ≤ 32 := by
  have : B = 6 ∨ B = 7 ∨ B = 8 ∨ B = 9 ∨ B = 10 ∨ B = 11 ∨ B = 12 := by omega
  rcases this with rfl | rfl | rfl | rfl | rfl | rfl | rfl <;> omega
theorem z_replaceUp {B : Nat} {t : Int32} (hB6 : 6 ≤ B) (hB : B ≤ 12) : ∀ (pa : List Nat) (n P : Nat) (pg : Nat → zP) (ro : List (Int32 × Int32)) (r : List zE) (w : jw), zgood B t pa P pg ro r → pa.length < n → pa.length < 100 → zway (w.2.2.2 52) pa → zCw B P pg w → zCr ro w → zB w r →
    ∃ w', l_X1_replaceUp n t (nI (pa.length - 1)) w = some w' ∧ zfU w w' ∧ zCw B (zrep B t pa P pg ro r).1 (zrep B t pa P pg ro r).2.1 w' ∧ zCr (zrep B t pa P pg ro r).2.2 w' := by
  intro pa
  induction pa with
  | nil => intro n P pg ro r w h; exact h.elim
  | cons p up ih =>
    cases up with
    | nil =>
      intro n P pg ro r w hg hn h100 hw hC hR hb
      obtain ⟨g1, g2, g3, g4, g5⟩ := hg
      have e3 : (P + 3) * B ≤ 4096 := Nat.le_trans (Nat.mul_le_mul g4 hB) (by decide)
      have e2 : (P + 2) * B ≤ 4096 := Nat.le_trans (Nat.mul_le_mul (show P + 2 ≤ 320 by omega) hB) (by decide)
      cases n with
      | zero => cases hn
      | succ n =>
        cases n with
        | zero => simp at hn
        | succ n =>
          unfold l_X1_replaceUp zrep
          simp only [List.length_cons, List.length_nil, Nat.zero_add, Nat.sub_self]
          have C1 := z_setFin t hC g1 (by omega)
          have hh := zhalf (r := r) hB6 hB (by omega)
          obtain ⟨w1, a1, a2, a3, a4, a5⟩ := z_makePages (B := B) (P := P) (pg := zfinp pg p t) (w := jsetR w 25 (rset (w.2.2.2 25) (nI p) t)) (r := r) (pg p).1 t C1 (zB_P hb (zfP_R (by decide) (by decide))) hh.2 (fun e he => (g3 e he).1) hB6 hB e2 (fun _ => hh.1)
          have fr : zfL w w1 := zfL_trans (zfL_P (zfP_R (a := 25) (l := rset (w.2.2.2 25) (nI p) t) (by decide) (by decide))) (zfL_Q a2)
          obtain ⟨w2, b1, b2, b3, b4⟩ := z_crown (t := t) a5 (zCr_L hR fr) (by omega) hB6 hB e3 a3 a4 (zsec_pos hB6 g3)
          have x2 : rat (w.2.2.2 52) (nI 0) = nI p := (z_rat (by decide)).trans hw.1
          have kd : rat ((jsetR w 25 (rset (w.2.2.2 25) (nI p) t)).2.2.2 19) (nI p) = (pg p).1 := by
            rw [z_jR2 (by decide), z_rat (by omega)]
            exact (hC.2.2.2.2.2.2.2.2.2 p g1).1
          rw [if_neg (show ¬ nI 0 < 0 by decide), z_jl, x2, if_pos (show nI 0 ≤ 0 by decide), z_jl, kd, a1, z_jbd, if_pos (show nI 0 = 0 from rfl), b1, z_jbd, z_jl, show nI 0 + (-1) = -1 by decide]
          unfold l_X1_replaceUp
          rw [if_pos (by decide)]
          exact ⟨w2, rfl, zfU_trans (zfU_L fr) b2, b3, b4⟩
    | cons q up =>
      intro n P pg ro r w hg hn h100 hw hC hR hb
      obtain ⟨g1, g2, g3, g4⟩ := hg
      obtain ⟨s1, s2, s3, s4, s5, s6⟩ := zleave_spec g1 (by omega)
      have hq := g1.2.1
      have hp := g1.1
      have e2 : (P + 2) * B ≤ 4096 := Nat.le_trans (Nat.mul_le_mul g2 hB) (by decide)
      simp only [List.length_cons] at hn h100
      cases n with
      | zero => cases hn
      | succ n =>
        unfold l_X1_replaceUp zrep
        have ll : (p :: q :: up).length - 1 = up.length + 1 := by simp
        rw [ll]
        have x2 : rat (w.2.2.2 52) (nI (up.length + 1)) = nI p := (z_rat (by omega)).trans hw.1
        have x3 : rat (w.2.2.2 52) (nI up.length) = nI q := (z_rat (by omega)).trans hw.2.1
        rw [if_neg (nI_pos (show up.length + 1 < 2 ^ 31 by omega)), z_jl, x2, if_neg (nI_nle (by omega) (by omega)), nI_pred, x3]
        obtain ⟨w1, a1, a2, a3, a4, a5⟩ := z_leaveAbove g1 hC hb hB6 hB (by omega)
        rw [a1, z_jbd, z_jl]
        generalize hL : zleave B t pg p q r = L at *
        have C1 := z_setFin t a3 hp (by omega)
        have hh := zhalf (r := L.2.1) hB6 hB s1
        obtain ⟨w2, b1, b2, b3, b4, b5⟩ := z_makePages (B := B) (P := P) (pg := zfinp L.1 p t) (w := jsetR w1 25 (rset (w1.2.2.2 25) (nI p) t)) (r := L.2.1) (pg p).1 t C1 (zB_P a4 (zfP_R (by decide) (by decide))) hh.2 (fun e he => (s2 e he).1) hB6 hB e2 (fun _ => hh.1)
        have kd : rat ((jsetR w1 25 (rset (w1.2.2.2 25) (nI p) t)).2.2.2 19) (nI p) = (pg p).1 := by
          rw [z_jR2 (by decide), z_rat (by omega), (a3.2.2.2.2.2.2.2.2.2 p hp).1, s3]
        have fr : zfL w w2 := zfL_trans a2 (zfL_trans (zfL_P (zfP_R (a := 25) (l := rset (w1.2.2.2 25) (nI p) t) (by decide) (by decide))) (zfL_Q b2))
        rw [kd, b1, z_jbd, if_neg (nI_ne0 (by omega) (by omega))]
        have m2 : zmn B L.2.1 ≤ 2 := by unfold zmn; split <;> omega
        have qq : (zmk B t P (zfinp L.1 p t) (pg p).1 L.2.1) q = L.1 q := by
          rw [zmk_lt hq]
          exact zup_ne (fun e => g1.2.2.1 e.symm)
        have y5 : w2.1 51 5 = L.2.2 := by rw [b2.2.1]; exact a5
        have h52 : (w2.2.2.2 52).getD up.length 0 = nI q := by rw [fr.2.2.2 52 (by decide)]; exact hw.2.1
        obtain ⟨w3, c1, c2, c3, c4, c5⟩ := z_handUp (t := t) (lv := up.length) (ro := ro) b5 (zCr_L hR fr) (by omega) (by omega) h52 (by omega) hB6 hB (by omega) b3 y5 b4 (zsec_pos hB6 s2) (by rw [qq]; exact s5)
        rw [c1, z_jbd2]
        generalize hH : zhand B t P q (decide (up.length = 0)) (zmk B t P (zfinp L.1 p t) (pg p).1 L.2.1) L.2.1 L.2.2 ro = H at *
        simp only [z_jb0]
        cases hc : H.1 with
        | false =>
          rw [if_pos rfl]
          exact ⟨w3, rfl, zfU_trans (zfU_L fr) c2, c3, c4⟩
        | true =>
          rw [if_neg (by decide), z_jl, pk_m1, if_pos rfl]
          have w52 : w3.2.2.2 52 = w.2.2.2 52 := by rw [c2.2.2.2 52 (by decide) (by decide) (by decide), fr.2.2.2 52 (by decide)]
          obtain ⟨w4, d1, d2, d3, d4⟩ := ih n _ _ _ _ w3 (g4 hc) (by simp; omega) (by simp; omega) (by rw [w52]; exact hw.2) c3 c4 (c5 hc)
          refine ⟨w4, ?_, zfU_trans (zfU_L fr) (zfU_trans c2 d2), d3, d4⟩
          simpa using d1
end
