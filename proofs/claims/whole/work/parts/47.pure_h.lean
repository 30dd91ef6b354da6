section
/-! lists: the first that passes, the best -/
def znok (t : Int32) (e : zE) : Prop := e.2.1 ≤ t ∧ (e.2.2.1 = -2 ∨ e.2.2.1 ≤ t)
theorem zlv_nw {t : Int32} {e : zE} (h : znok t e) : zlv t e = znw e := by
  unfold zlv znw
  rw [if_neg (Int32.not_lt.mpr h.1)]
  by_cases c : e.2.2.1 = -2
  · rw [if_pos c, if_pos c]
  · rw [if_neg c, if_neg c]
    rcases h.2 with d | d
    · exact absurd d c
    · rw [if_pos d]
theorem zbs_congr {ok ok' : zE → Bool} {bt : Int32 → Int32 → Bool} : ∀ (es : List zE) (i : Nat) (b : Option (Nat × Int32)), (∀ e ∈ es, ok e = ok' e) → zbs ok bt es i b = zbs ok' bt es i b := by
  intro es
  induction es with
  | nil => intro i b _; rfl
  | cons e es ih =>
    intro i b h
    unfold zbs
    rw [h e List.mem_cons_self]
    exact ih _ _ (fun x hx => h x (List.mem_cons_of_mem _ hx))
theorem zfi_congr {ok ok' : zE → Bool} : ∀ (es : List zE) (i : Nat), (∀ e ∈ es, ok e = ok' e) → zfi ok es i = zfi ok' es i := by
  intro es
  induction es with
  | nil => intro i _; rfl
  | cons e es ih =>
    intro i h
    unfold zfi
    rw [h e List.mem_cons_self, ih _ (fun x hx => h x (List.mem_cons_of_mem _ hx))]
theorem zgat_congr {ok ok' : zE → Bool} : ∀ (es r : List zE), (∀ e ∈ es, ok e = ok' e) → zgat ok es r = zgat ok' es r := by
  intro es
  induction es with
  | nil => intro i _; rfl
  | cons e es ih =>
    intro r h
    unfold zgat
    rw [h e List.mem_cons_self, ih _ (fun x hx => h x (List.mem_cons_of_mem _ hx))]
theorem zbs_some {ok : zE → Bool} {bt : Int32 → Int32 → Bool} : ∀ (es : List zE) (i : Nat) (b : Option (Nat × Int32)) (q : Nat × Int32), zbs ok bt es i b = some q → b = some q ∨ (i ≤ q.1 ∧ ∃ e, es[q.1 - i]? = some e ∧ ok e = true ∧ q.2 = e.1) := by
  intro es
  induction es with
  | nil => intro i b q h; exact Or.inl h
  | cons e es ih =>
    intro i b q h
    rw [zbs_cons] at h
    rcases ih _ _ q h with g | ⟨g1, e', g2, g3⟩
    · unfold zbst at g
      split at g
      · rename_i c
        split at g
        · cases g; exact Or.inr ⟨Nat.le_refl _, e, by simp, c, rfl⟩
        · split at g
          · cases g; exact Or.inr ⟨Nat.le_refl _, e, by simp, c, rfl⟩
          · exact Or.inl g
      · exact Or.inl g
    · refine Or.inr ⟨by omega, e', ?_, g3⟩
      rw [show q.1 - i = (q.1 - (i + 1)) + 1 by omega, List.getElem?_cons_succ]
      exact g2
theorem zbs_0 {ok : zE → Bool} {bt : Int32 → Int32 → Bool} {es : List zE} {q : Nat × Int32} (h : zbs ok bt es 0 none = some q) : ∃ e, es[q.1]? = some e ∧ ok e = true ∧ q.2 = e.1 := by
  rcases zbs_some es 0 none q h with g | ⟨_, e, g⟩
  · cases g
  · exact ⟨e, g⟩
theorem zfi_some {ok : zE → Bool} : ∀ (es : List zE) (i k : Nat), zfi ok es i = some k → i ≤ k ∧ ∃ e, es[k - i]? = some e ∧ ok e = true := by
  intro es
  induction es with
  | nil => intro i k h; cases h
  | cons e es ih =>
    intro i k h
    unfold zfi at h
    split at h
    · rename_i c; cases h; exact ⟨Nat.le_refl _, e, by simp, c⟩
    · obtain ⟨g1, e', g2, g3⟩ := ih _ _ h
      refine ⟨by omega, e', ?_, g3⟩
      rw [show k - i = (k - (i + 1)) + 1 by omega, List.getElem?_cons_succ]
      exact g2
theorem zfi_none {ok : zE → Bool} : ∀ (es : List zE) (i : Nat), zfi ok es i = none → ∀ e ∈ es, ¬ ok e = true := by
  intro es
  induction es with
  | nil => intro i _ e he; cases he
  | cons e es ih =>
    intro i h x hx
    unfold zfi at h
    split at h
    · cases h
    · rename_i c
      rcases List.mem_cons.mp hx with d | d
      · rw [d]; exact c
      · exact ih _ h x d
theorem zfi_uniq {ok : zE → Bool} {es : List zE} {j : Nat} {e : zE} (h : es[j]? = some e) (ho : ok e = true) (hu : ∀ j' e', es[j']? = some e' → ok e' = true → j' = j) : zfi ok es 0 = some j := by
  cases hz : zfi ok es 0 with
  | none => exact absurd ho (zfi_none es 0 hz e (List.mem_of_getElem? h))
  | some k =>
    obtain ⟨_, e', g2, g3⟩ := zfi_some es 0 k hz
    rw [hu k e' g2 g3]
/-! a page of the way is left, pages are made, the page above gets them -/
def zfinp (pg : Nat → zP) (p : Nat) (t : Int32) : Nat → zP := zup pg p ((pg p).1, (pg p).2.1, t, (pg p).2.2.2)
def ztoP (pg : Nat → zP) (q i : Nat) (e : zE) (t : Int32) : Nat → zP := zup pg q ((pg q).1, (pg q).2.1, (pg q).2.2.1, (pg q).2.2.2.set i (e.1, e.2.1, t, e.2.2.2))
def zapp (pg : Nat → zP) (q : Nat) (l : List zE) : Nat → zP := zup pg q ((pg q).1, (pg q).2.1, (pg q).2.2.1, (pg q).2.2.2 ++ l)
def zsib (B : Nat) (r : List zE) (b : Int32) (es : List zE) : Option (Nat × Int32) := if r.length ≤ B / 4 then (match zbs (zna b) zlt es 0 none with
  | some q => some q
  | none => zbs (znb b) zgt es 0 none) else none
def zleave (B : Nat) (t : Int32) (pg : Nat → zP) (p q : Nat) (r : List zE) : (Nat → zP) × List zE × Int32 :=
  match zfi (zto (nI p)) (pg q).2.2.2 0 with
  | none => (pg, r, 0)
  | some ip => match zsib B r ((pg q).2.2.2.getD ip zdf).1 (pg q).2.2.2 with
    | none => (ztoP pg q ip ((pg q).2.2.2.getD ip zdf) t, r, ((pg q).2.2.2.getD ip zdf).1)
    | some j => (ztoP (ztoP (zfinp pg ((pg q).2.2.2.getD j.1 zdf).2.2.2.toNatClampNeg t) q j.1 ((pg q).2.2.2.getD j.1 zdf) t) q ip ((pg q).2.2.2.getD ip zdf) t,
        zgat znw (pg ((pg q).2.2.2.getD j.1 zdf).2.2.2.toNatClampNeg).2.2.2 r, if j.2 < ((pg q).2.2.2.getD ip zdf).1 then j.2 else ((pg q).2.2.2.getD ip zdf).1)
def znew (B : Nat) (t : Int32) (P : Nat) (r : List zE) (bd : Int32) : List zE := (bd, t, -2, nI P) :: (if ztwo B r = true then [(zsec r, t, -2, nI (P + 1))] else [])
def zinl : List zE → List zE → List zE
  | [], r => r
  | e :: es, r => zinl es (zins e r)
def zhand (B : Nat) (t : Int32) (P q : Nat) (rt : Bool) (pg : Nat → zP) (r : List zE) (bd : Int32) (ro : List (Int32 × Int32)) : Bool × (Nat → zP) × List (Int32 × Int32) × List zE :=
  if B < (pg q).2.2.2.length + zmn B r then (true, pg, ro, zinl (znew B t P r bd) (zgat znw (pg q).2.2.2 []))
  else if rt = true then (if ((pg q).2.2.2 ++ znew B t P r bd).countP znw = 1 then (false, zfinp (zapp pg q (znew B t P r bd)) q t, ro ++ [(t, nI P)], []) else (false, zapp pg q (znew B t P r bd), ro, []))
  else if ((pg q).2.2.2 ++ znew B t P r bd).countP znw < B / 4 then (true, zapp pg q (znew B t P r bd), ro, zgat znw ((pg q).2.2.2 ++ znew B t P r bd) []) else (false, zapp pg q (znew B t P r bd), ro, [])
def zcrown (B : Nat) (t : Int32) (P : Nat) (pg : Nat → zP) (r : List zE) (ro : List (Int32 × Int32)) : Nat × (Nat → zP) × List (Int32 × Int32) :=
  if ztwo B r = true then (P + 3, zup pg (P + 2) (0, t, -2, [(0, t, -2, nI P), (zsec r, t, -2, nI (P + 1))]), ro ++ [(t, nI (P + 2))]) else (P + 1, pg, ro ++ [(t, nI P)])
/-- what a level of the way must be like -/
def zlev (B : Nat) (t : Int32) (P : Nat) (pg : Nat → zP) (p q : Nat) (r : List zE) : Prop :=
  p < P ∧ q < P ∧ p ≠ q ∧ (∀ e ∈ (pg q).2.2.2, znok t e ∧ ¬ e.1 < 0) ∧ (∃ e, e ∈ (pg q).2.2.2 ∧ zto (nI p) e = true) ∧
  (∀ e ∈ (pg q).2.2.2, znw e = true → ∃ s, s < P ∧ s ≠ q ∧ e.2.2.2 = nI s ∧ (pg s).2.2.2.length ≤ B ∧ ∀ x ∈ (pg s).2.2.2, znok t x ∧ ¬ x.1 < 0) ∧
  (∀ (j j' : Nat) (e e' : zE), (pg q).2.2.2[j]? = some e → (pg q).2.2.2[j']? = some e' → znw e = true → znw e' = true → e.2.2.2 = e'.2.2.2 → j = j') ∧
  r.length ≤ B + 1 ∧ (∀ e ∈ r, e.2.2.1 = -2 ∧ ¬ e.1 < 0)
/-- what a level finds: the entry of the page, its sibling or none -/
theorem zlev_ip {B : Nat} {t : Int32} {P : Nat} {pg : Nat → zP} {p q : Nat} {r : List zE} (h : zlev B t P pg p q r) : ∃ ip e0, zfi (zto (nI p)) (pg q).2.2.2 0 = some ip ∧ (pg q).2.2.2[ip]? = some e0 ∧ zto (nI p) e0 = true := by
  obtain ⟨_, _, _, _, ⟨e, h1, h2⟩, _⟩ := h
  cases hz : zfi (zto (nI p)) (pg q).2.2.2 0 with
  | none => exact absurd h2 (zfi_none _ 0 hz e h1)
  | some k =>
    obtain ⟨_, e', g2, g3⟩ := zfi_some _ 0 k hz
    exact ⟨k, e', rfl, g2, g3⟩
theorem z_lt_irr {a : Int32} (h : a < a) : False := Int32.lt_irrefl h
theorem zlev_sib {B : Nat} {t : Int32} {P : Nat} {pg : Nat → zP} {p q ip : Nat} {e0 : zE} {r : List zE} (h : zlev B t P pg p q r) (h0 : (pg q).2.2.2[ip]? = some e0) (hp : zto (nI p) e0 = true) {j : Nat × Int32} (hj : zsib B r e0.1 (pg q).2.2.2 = some j) :
    r.length ≤ B / 4 ∧ ∃ e1 s, (pg q).2.2.2[j.1]? = some e1 ∧ znw e1 = true ∧ j.2 = e1.1 ∧ e1.2.2.2 = nI s ∧ s < P ∧ s ≠ q ∧ s ≠ p ∧ j.1 ≠ ip ∧ (pg s).2.2.2.length ≤ B ∧ (∀ x ∈ (pg s).2.2.2, znok t x ∧ ¬ x.1 < 0) := by
  unfold zsib at hj
  split at hj
  · rename_i c
    refine ⟨c, ?_⟩
    have key : ∃ e1, (pg q).2.2.2[j.1]? = some e1 ∧ znw e1 = true ∧ j.2 = e1.1 ∧ e1.1 ≠ e0.1 := by
      split at hj
      · rename_i q' hq
        cases hj
        obtain ⟨e, g1, g2, g3⟩ := zbs_0 hq
        simp only [zna, Bool.and_eq_true, decide_eq_true_eq] at g2
        exact ⟨e, g1, g2.1, g3, fun x => z_lt_irr (x ▸ g2.2)⟩
      · obtain ⟨e, g1, g2, g3⟩ := zbs_0 hj
        simp only [znb, Bool.and_eq_true, decide_eq_true_eq] at g2
        exact ⟨e, g1, g2.1, g3, fun x => z_lt_irr (x ▸ g2.2)⟩
    obtain ⟨e1, g1, g2, g3, g4⟩ := key
    obtain ⟨p1, p2, p3, p4, p5, p6, p7, p8, p9⟩ := h
    obtain ⟨s, s1, s2, s3, s4, s5⟩ := p6 e1 (List.mem_of_getElem? g1) g2
    have ji : j.1 ≠ ip := fun x => by
      rw [x, h0] at g1
      cases g1
      exact g4 rfl
    refine ⟨e1, s, g1, g2, g3, s3, s1, s2, fun x => ji ?_, ji, s4, s5⟩
    simp only [zto, Bool.and_eq_true, decide_eq_true_eq] at hp
    exact p7 j.1 ip e1 e0 g1 h0 g2 hp.1 (by rw [s3, hp.2, x])
  · cases hj
theorem zgetD {es : List zE} {i : Nat} {e : zE} (h : es[i]? = some e) : es.getD i zdf = e := by simp [List.getD_eq_getElem?_getD, h]
/-! the class leaves a page of the way -/
def zfL (w w' : jw) : Prop := (∀ a, a ≠ 51 → a ≠ 54 → w'.1 a = w.1 a) ∧ (∀ p, p ≠ 55 → p ≠ 56 → p ≠ 57 → w'.2.1 p = w.2.1 p) ∧ w'.2.2.1 = w.2.2.1 ∧ ∀ k, (k < 19 ∨ 33 < k) → w'.2.2.2 k = w.2.2.2 k
theorem zfL_rfl (w : jw) : zfL w w := ⟨fun _ _ _ => rfl, fun _ _ _ _ => rfl, rfl, fun _ _ => rfl⟩
theorem zfL_trans {a b c : jw} (h : zfL a b) (g : zfL b c) : zfL a c := ⟨fun x x1 x2 => (g.1 x x1 x2).trans (h.1 x x1 x2), fun p p1 p2 p3 => (g.2.1 p p1 p2 p3).trans (h.2.1 p p1 p2 p3), g.2.2.1.trans h.2.2.1, fun k hk => (g.2.2.2 k hk).trans (h.2.2.2 k hk)⟩
theorem zfL_B {w w' : jw} (h : zfB w w') : zfL w w' := ⟨fun a _ ha => h.2.1 a ha, h.2.2, by rw [h.1], fun k _ => by rw [h.1]⟩
theorem zfL_Q {w w' : jw} (h : zfQ w w') : zfL w w' := ⟨fun a ha _ => h.1 a ha, fun p _ _ _ => by rw [h.2.2.1], h.2.2.2.1, h.2.2.2.2⟩
theorem zfL_P {w w' : jw} (h : zfP w w') : zfL w w' := zfL_Q (zfQ_P h)
theorem zfL_I {w : jw} {a j : Nat} {x : Int32} (h : a = 51 ∨ a = 54) : zfL w (jsetI w a j x) := ⟨fun b h1 h2 => z_jI2 (by rcases h with c | c <;> rw [c] <;> assumption), fun _ _ _ _ => rfl, rfl, fun _ _ => rfl⟩
theorem zB_P {w w' : jw} {r : List zE} (h : zB w r) (f : zfP w w') : zB w' r := zB_Q h (zfQ_P f)
theorem zB_I {w : jw} {r : List zE} {j : Nat} {x : Int32} (h : zB w r) : zB (jsetI w 51 j x) r := by
  unfold zB
  rw [z_jI2 (show 54 ≠ 51 by decide)]
  exact h
theorem zsub1 {b x : Int32} (hb : ¬ b < 0) : x ≤ b - 1 ↔ x < b := by
  obtain ⟨j, h1, h2⟩ := nI_of hb
  subst h2
  rw [Int32.le_iff_toInt_le, Int32.lt_iff_toInt_lt]
  have : (nI j - 1).toInt = (j : Int) - 1 := by
    cases j with
    | zero => decide
    | succ j => rw [nI_pred, nI_toInt (by omega)]; omega
  rw [this, nI_toInt h1]
  omega
theorem z_R1x (w : jw) (a : Nat) (l : List Int32) : (jsetR w a l).1 = w.1 := rfl
def zcls (slot x2 t : Int32) (w : jw) : Option jw := jl (rat (w.2.2.2 29) slot : Int32) fun x34 => jbd (f_X1_gather x34 t w) fun q35 => jl (jsetR q35 25 (rset (q35.2.2.2 25) x34 t)) fun w36 => jl (jsetR w36 33 (rset (w36.2.2.2 33) slot t)) fun w37 => jl (jsetI w37 51 5 (if (rat (w37.2.2.2 27) slot) < (w37.1 51 5) then rat (w37.2.2.2 27) slot else w37.1 51 5)) fun w38 => jl (jsetR w38 33 (rset (w38.2.2.2 33) x2 t)) fun w39 => some w39
theorem z_cls {B P q ip j s : Nat} {t : Int32} {pg : Nat → zP} {r : List zE} {e0 e1 : zE} {w : jw} (hC : zCw B P pg w) (hb : zB w r) (x5 : w.1 51 5 = e0.1) (hB : B ≤ 12) (hP : P ≤ 4000) (hq : q < P) (i2 : (pg q).2.2.2[ip]? = some e0) (j2 : (pg q).2.2.2[j]? = some e1) (hs : e1.2.2.2 = nI s) (s1 : s < P) (s2 : s ≠ q) (ji : j ≠ ip) (s5 : ∀ x ∈ (pg s).2.2.2, znok t x ∧ ¬ x.1 < 0) (hr : r.length + (pg s).2.2.2.length ≤ 32) :
    ∃ w', zcls (nI (q * B + j)) (nI (q * B + ip)) t w = some w' ∧ zfL w w' ∧ zCw B P (ztoP (ztoP (zfinp pg s t) q j e1 t) q ip e0 t) w' ∧ zB w' (zgat znw (pg s).2.2.2 r) ∧ w'.1 51 5 = (if e1.1 < e0.1 then e1.1 else e0.1) := by
  have pB := z_pBs hq hB hP
  have hl := zCw_len hC hq
  have il := zlen_lt i2
  have jl' := zlen_lt j2
  unfold zcls
  rw [z_jl, z_rat (show q * B + j < 2 ^ 31 by omega), (zCw_seg hC hq j e1 j2).2.1, hs]
  obtain ⟨w1, g1, g2, g3⟩ := z_gather (t := t) hC s1 hB hP hb hr
  rw [g1, z_jbd]
  simp only [z_jl]
  rw [zgat_congr _ _ (fun e he => zlv_nw (s5 e he).1)] at g3
  have C1 := zCw_fB hC g2
  have C2 := z_setFin t C1 s1 hP
  have qz : zfinp pg s t q = pg q := zup_ne (fun e => s2 e.symm)
  have C3 := z_setTo (p := q) (i := j) (e := e1) t C2 hq (by show (zfinp pg s t q).2.2.2[j]? = some e1; rw [qz]; exact j2) hB hP
  have y5 : w1.1 51 5 = e0.1 := by rw [g2.2.1 51 (by decide)]; exact x5
  have r27 : rat ((jsetR (jsetR w1 25 (rset (w1.2.2.2 25) (nI s) t)) 33 (rset ((jsetR w1 25 (rset (w1.2.2.2 25) (nI s) t)).2.2.2 33) (nI (q * B + j)) t)).2.2.2 27) (nI (q * B + j)) = e1.1 := by
    rw [z_jR2 (by decide), z_jR2 (by decide), z_rat (by omega)]
    exact (zCw_seg C1 hq j e1 j2).1
  rw [r27]
  have y5' : (jsetR (jsetR w1 25 (rset (w1.2.2.2 25) (nI s) t)) 33 (rset ((jsetR w1 25 (rset (w1.2.2.2 25) (nI s) t)).2.2.2 33) (nI (q * B + j)) t)).1 51 5 = e0.1 := y5
  rw [y5']
  have C4 := zCw_I (a := 51) (j := 5) (x := (if e1.1 < e0.1 then e1.1 else e0.1)) C3 (by decide)
  have C5 := z_setTo (p := q) (i := ip) (e := e0) t C4 hq (by
    show (ztoP (zfinp pg s t) q j e1 t q).2.2.2[ip]? = some e0
    unfold ztoP
    rw [zup_eq, qz]
    show ((pg q).2.2.2.set j _)[ip]? = _
    rw [List.getElem?_set, if_neg ji]
    exact i2) hB hP
  refine ⟨_, rfl, ?_, C5, ?_, ?_⟩
  · exact zfL_trans (zfL_B g2) (zfL_trans (zfL_P (zfP_R (by decide) (by decide))) (zfL_trans (zfL_P (zfP_R (by decide) (by decide))) (zfL_trans (zfL_I (Or.inl rfl)) (zfL_P (zfP_R (by decide) (by decide))))))
  · exact zB_P (zB_I (zB_P (zB_P g3 (zfP_R (by decide) (by decide))) (zfP_R (by decide) (by decide)))) (zfP_R (by decide) (by decide))
  · rw [z_R1x, z_jI1, zup_eq]
theorem z_leaveAbove {B P p q : Nat} {t : Int32} {pg : Nat → zP} {r : List zE} {w : jw} (h : zlev B t P pg p q r) (hC : zCw B P pg w) (hb : zB w r) (hB6 : 6 ≤ B) (hB : B ≤ 12) (hP : P ≤ 4000) :
    ∃ w', f_X1_leaveAbove (nI p) (nI q) t w = some w' ∧ zfL w w' ∧ zCw B P (zleave B t pg p q r).1 w' ∧ zB w' (zleave B t pg p q r).2.1 ∧ w'.1 51 5 = (zleave B t pg p q r).2.2 := by
  obtain ⟨ip, e0, i1, i2, i3⟩ := zlev_ip h
  have h2 := id h
  obtain ⟨p1, p2, p3, p4, p5, p6, p7, p8, p9⟩ := h
  have pB := z_pBs p2 hB hP
  have hl := zCw_len hC p2
  have il := zlen_lt i2
  have nk : ∀ e ∈ (pg q).2.2.2, zlv t e = znw e := fun e he => zlv_nw (p4 e he).1
  have i1' : zfi (ztl (nI p) t) (pg q).2.2.2 0 = some ip := by
    rw [← i1]
    exact zfi_congr _ 0 (fun e he => by unfold ztl zto; rw [nk e he])
  have k0 : rat (w.2.2.2 27) (nI (q * B + ip)) = e0.1 := (z_rat (show q * B + ip < 2 ^ 31 by omega)).trans (zCw_seg hC p2 ip e0 i2).1
  have C1 : zCw B P pg (jsetI w 51 5 e0.1) := zCw_I hC (by decide)
  have B1 : zB (jsetI w 51 5 e0.1) r := zB_I hb
  have x5 : (jsetI w 51 5 e0.1).1 51 5 = e0.1 := by rw [z_jI1, zup_eq]
  have hpos : ¬ e0.1 < 0 := (p4 e0 (List.mem_of_getElem? i2)).2
  have af : zbs (zaf e0.1 t) zlt (pg q).2.2.2 0 none = zbs (zna e0.1) zlt (pg q).2.2.2 0 none := zbs_congr _ 0 none (fun e he => by unfold zaf zna; rw [nk e he])
  have bf : zbs (ztw (e0.1 - 1) t) zgt (pg q).2.2.2 0 none = zbs (znb e0.1) zgt (pg q).2.2.2 0 none := zbs_congr _ 0 none (fun e he => by
    unfold ztw znb
    rw [nk e he]
    congr 1
    exact decide_eq_decide.mpr (zsub1 hpos))
  unfold f_X1_leaveAbove
  rw [z_slotOf (nI p) hC p2 hB hP, i1', z_jbd2, show zso (q * B) (some ip) = nI (q * B + ip) from rfl, k0, z_jl, z_weak C1 hB, z_jbd2, B1.1, nI_1]
  unfold zleave
  rw [i1]
  simp only [zgetD i2]
  cases hz : zsib B r e0.1 (pg q).2.2.2 with
  | none =>
    have D : ∃ w', (jl (jsetR (jsetI w 51 5 e0.1) 33 (rset ((jsetI w 51 5 e0.1).2.2.2 33) (nI (q * B + ip)) t)) fun w10 => some w10) = some w' ∧ zfL w w' ∧ zCw B P (ztoP pg q ip e0 t) w' ∧ zB w' r ∧ w'.1 51 5 = e0.1 :=
      ⟨_, rfl, zfL_trans (zfL_I (Or.inl rfl)) (zfL_P (zfP_R (by decide) (by decide))), z_setTo t C1 p2 i2 hB hP, zB_P B1 (zfP_R (by decide) (by decide)), x5⟩
    simp only []
    by_cases c : r.length ≤ B / 4
    · rw [if_neg (nI_ge (by omega) (by omega)), x5, z_after e0.1 C1 p2 hB hP, z_jbd2, af]
      unfold zsib at hz
      rw [if_pos c] at hz
      cases ha : zbs (zna e0.1) zlt (pg q).2.2.2 0 none with
      | some x => rw [ha] at hz; cases hz
      | none =>
        rw [ha] at hz
        have hz' : zbs (znb e0.1) zgt (pg q).2.2.2 0 none = none := hz
        rw [if_pos (show zsl (q * B) none = -1 from rfl), x5, z_toward (e0.1 - 1) C1 p2 hB hP, z_jbd2, bf, hz', if_pos (show zsl (q * B) none = -1 from rfl)]
        exact D
    · rw [if_pos (nI_le (by omega) (by omega)), if_pos trivial]
      exact D
  | some j =>
    obtain ⟨c, e1, s, j1, j2, j3, j4, s1, s2, s3, ji, s4, s5⟩ := zlev_sib h2 i2 i3 hz
    have jl' := zlen_lt j1
    simp only [zgetD j1, j4, nI_clamp (show s < 2 ^ 31 by omega)]
    obtain ⟨w', D1, D2, D3, D4, D5⟩ := z_cls (t := t) C1 B1 x5 hB hP p2 i2 j1 j4 s1 s2 ji s5 (by omega)
    have D : ∃ w', zcls (nI (q * B + j.1)) (nI (q * B + ip)) t (jsetI w 51 5 e0.1) = some w' ∧ zfL w w' ∧ zCw B P (ztoP (ztoP (zfinp pg s t) q j.1 e1 t) q ip e0 t) w' ∧ zB w' (zgat znw (pg s).2.2.2 r) ∧ w'.1 51 5 = (if j.2 < e0.1 then j.2 else e0.1) :=
      ⟨w', D1, zfL_trans (zfL_I (Or.inl rfl)) D2, D3, D4, by rw [j3]; exact D5⟩
    rw [if_neg (nI_ge (by omega) (by omega)), x5, z_after e0.1 C1 p2 hB hP, z_jbd2, af]
    unfold zsib at hz
    rw [if_pos c] at hz
    cases ha : zbs (zna e0.1) zlt (pg q).2.2.2 0 none with
    | some x =>
      rw [ha] at hz
      cases hz
      rw [if_neg (show ¬ zsl (q * B) (some j) = -1 from z_nm1 (by omega)), if_neg (show ¬ zsl (q * B) (some j) = -1 from z_nm1 (by omega))]
      exact D
    | none =>
      rw [ha] at hz
      have hz' : zbs (znb e0.1) zgt (pg q).2.2.2 0 none = some j := hz
      rw [if_pos (show zsl (q * B) none = -1 from rfl), x5, z_toward (e0.1 - 1) C1 p2 hB hP, z_jbd2, bf, hz', if_neg (show ¬ zsl (q * B) (some j) = -1 from z_nm1 (by omega))]
      exact D
end
