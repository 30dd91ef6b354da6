section
def zal (P : Nat) (pg : Nat → zP) : Nat → Prop := fun x => x < P ∧ (pg x).2.2.1 = -2
def zLv (pg : Nat → zP) : Nat → List zE := fun x => (pg x).2.2.2.filter znw
def zKd (pg : Nat → zP) : Nat → Int32 := fun x => (pg x).1
theorem zWf_cg {A A' : Nat → Prop} {L L' : Nat → List zE} {kd kd' : Nat → Int32} {R : Nat} {lo hi : Nat → Int} {lev : Nat → Nat} (h : zWf A L kd R lo hi lev) (hA : ∀ x, A' x ↔ A x) (hx : ∀ x, A x → (L x).Perm (L' x) ∧ kd' x = kd x) : zWf A' L' kd' R lo hi lev := by
  have h0 := zWf_perm h (fun x hx' => (hx x hx').1)
  obtain ⟨h1, h2, h3, h4, h5, h6⟩ := h0
  refine ⟨(hA R).mpr h1, h2, h3, fun x hx' => h4 x ((hA x).mp hx'), fun x y hx' hy' => h5 x y ((hA x).mp hx') ((hA y).mp hy'), fun x hx' => ?_⟩
  have xa := (hA x).mp hx'
  refine zpw_tr (h6 x xa) (h6 x xa).2.2.2.2.1 rfl (hx x xa).2 rfl rfl rfl (fun d hd hl => ⟨(hA d).mpr hd, rfl, rfl, rfl⟩)
theorem zbs_min {ok : zE → Bool} : ∀ (es : List zE) (i : Nat) (b : Option (Nat × Int32)) (q : Nat × Int32), zbs ok zlt es i b = some q → (∀ e ∈ es, ok e = true → q.2 ≤ e.1) ∧ (∀ q0, b = some q0 → q.2 ≤ q0.2) := by
  intro es
  induction es with
  | nil => intro i b q h; exact ⟨fun e he => (by cases he), fun q0 hq => by rw [show b = some q from h] at hq; cases hq; exact Int32.le_refl _⟩
  | cons e es ih =>
    intro i b q h
    rw [zbs_cons] at h
    obtain ⟨g1, g2⟩ := ih _ _ q h
    unfold zbst at g2
    by_cases c : ok e = true
    · rw [if_pos c] at g2
      cases b with
      | none =>
        have := g2 (i, e.1) rfl
        refine ⟨fun x hx ho => ?_, fun q0 hq => by cases hq⟩
        rcases List.mem_cons.mp hx with z | z
        · rw [z]; exact this
        · exact g1 x z ho
      | some y =>
        simp only [] at g2
        by_cases d : zlt e.1 y.2 = true
        · rw [if_pos d] at g2
          have := g2 (i, e.1) rfl
          have lt := of_decide_eq_true d
          refine ⟨fun x hx ho => ?_, fun q0 hq => ?_⟩
          · rcases List.mem_cons.mp hx with z | z
            · rw [z]; exact this
            · exact g1 x z ho
          · cases hq
            exact Int32.le_trans this (Int32.le_of_lt lt)
        · rw [if_neg d] at g2
          have := g2 y rfl
          have ge : y.2 ≤ e.1 := Int32.not_lt.mp (fun z => d (decide_eq_true z))
          refine ⟨fun x hx ho => ?_, fun q0 hq => by cases hq; exact this⟩
          rcases List.mem_cons.mp hx with z | z
          · rw [z]; exact Int32.le_trans this ge
          · exact g1 x z ho
    · rw [if_neg c] at g2
      refine ⟨fun x hx ho => ?_, g2⟩
      rcases List.mem_cons.mp hx with z | z
      · rw [z] at ho; exact absurd ho c
      · exact g1 x z ho
theorem zbs_max {ok : zE → Bool} : ∀ (es : List zE) (i : Nat) (b : Option (Nat × Int32)) (q : Nat × Int32), zbs ok zgt es i b = some q → (∀ e ∈ es, ok e = true → e.1 ≤ q.2) ∧ (∀ q0, b = some q0 → q0.2 ≤ q.2) := by
  intro es
  induction es with
  | nil => intro i b q h; exact ⟨fun e he => (by cases he), fun q0 hq => by rw [show b = some q from h] at hq; cases hq; exact Int32.le_refl _⟩
  | cons e es ih =>
    intro i b q h
    rw [zbs_cons] at h
    obtain ⟨g1, g2⟩ := ih _ _ q h
    unfold zbst at g2
    by_cases c : ok e = true
    · rw [if_pos c] at g2
      cases b with
      | none =>
        have := g2 (i, e.1) rfl
        refine ⟨fun x hx ho => ?_, fun q0 hq => by cases hq⟩
        rcases List.mem_cons.mp hx with z | z
        · rw [z]; exact this
        · exact g1 x z ho
      | some y =>
        simp only [] at g2
        by_cases d : zgt e.1 y.2 = true
        · rw [if_pos d] at g2
          have := g2 (i, e.1) rfl
          have lt := of_decide_eq_true d
          refine ⟨fun x hx ho => ?_, fun q0 hq => ?_⟩
          · rcases List.mem_cons.mp hx with z | z
            · rw [z]; exact this
            · exact g1 x z ho
          · cases hq
            exact Int32.le_trans (Int32.le_of_lt lt) this
        · rw [if_neg d] at g2
          have := g2 y rfl
          have ge : e.1 ≤ y.2 := Int32.not_lt.mp (fun z => d (decide_eq_true z))
          refine ⟨fun x hx ho => ?_, fun q0 hq => by cases hq; exact this⟩
          rcases List.mem_cons.mp hx with z | z
          · rw [z]; exact Int32.le_trans ge this
          · exact g1 x z ho
    · rw [if_neg c] at g2
      refine ⟨fun x hx ho => ?_, g2⟩
      rcases List.mem_cons.mp hx with z | z
      · rw [z] at ho; exact absurd ho c
      · exact g1 x z ho
theorem zset_perm : ∀ {es : List zE} {i : Nat} {e e' : zE}, es[i]? = some e → znw e = true → ¬ znw e' = true → (es.filter znw).Perm ((es.set i e').filter znw ++ [e]) := by
  intro es
  induction es with
  | nil => intro i e e' h; simp at h
  | cons x es ih =>
    intro i e e' h1 h2 h3
    cases i with
    | zero =>
      rw [List.getElem?_cons_zero] at h1
      cases h1
      rw [List.set_cons_zero, List.filter_cons_of_pos h2, List.filter_cons_of_neg h3]
      exact (List.perm_append_singleton _ _).symm
    | succ i =>
      rw [List.getElem?_cons_succ] at h1
      have := ih h1 h2 h3
      rw [List.set_cons_succ]
      by_cases c : znw x = true
      · rw [List.filter_cons_of_pos c, List.filter_cons_of_pos c]
        exact List.Perm.cons x this
      · rw [List.filter_cons_of_neg c, List.filter_cons_of_neg c]
        exact this
theorem zrow_fil {r : List zE} (h : zrowok r) : r.filter znw = r := List.filter_eq_self.mpr (fun e he => by unfold znw; rw [if_pos (h e he).1])
theorem znw_of {e : zE} (h : e.2.2.1 = -2) : znw e = true := by unfold znw; rw [if_pos h]
theorem zdead {e : zE} {t : Int32} (t2 : t ≠ -2) (h : e.2.2.1 = t) : ¬ znw e = true := fun z => t2 (h ▸ znw_to z)
/-- without the last: what is left of a row whose keys differ -/
theorem zfil_1 {l : List zE} {e : zE} (h : zkn (l ++ [e])) : (l ++ [e]).filter (fun x => decide (x.1 ≠ e.1)) = l := by
  rw [List.filter_append]
  have h1 : l.filter (fun x => decide (x.1 ≠ e.1)) = l := List.filter_eq_self.mpr (fun x hx => by
    refine decide_eq_true (fun z => ?_)
    unfold zkn at h
    rw [List.map_append, List.nodup_append] at h
    exact h.2.2 x.1 (List.mem_map.mpr ⟨x, hx, rfl⟩) e.1 (by simp) z)
  rw [h1]
  simp
theorem zfil_2 {l l' : List zE} {x y : zE} (h : zkn l) (p : l.Perm (l' ++ [x] ++ [y])) : (l.filter (fun e => decide (e.1 ≠ x.1 ∧ e.1 ≠ y.1))).Perm l' := by
  have h2 := zkn_perm h p
  refine (p.filter _).trans ?_
  rw [List.filter_append, List.filter_append]
  unfold zkn at h2
  rw [List.map_append, List.map_append, List.nodup_append, List.nodup_append] at h2
  have h1 : l'.filter (fun e => decide (e.1 ≠ x.1 ∧ e.1 ≠ y.1)) = l' := List.filter_eq_self.mpr (fun e he => decide_eq_true ⟨fun z => h2.1.2.2 e.1 (List.mem_map.mpr ⟨e, he, rfl⟩) x.1 (by simp) z, fun z => h2.2.2 e.1 (List.mem_append.mpr (Or.inl (List.mem_map.mpr ⟨e, he, rfl⟩))) y.1 (by simp) z⟩)
  rw [h1]
  simp
def zvir (pg : Nat → zP) (p : Nat) (r : List zE) : Nat → zP := zup pg p ((pg p).1, (pg p).2.1, (pg p).2.2.1, r)
theorem zvir_al {P p : Nat} {pg : Nat → zP} {r : List zE} (x : Nat) : zal P (zvir pg p r) x ↔ zal P pg x := by
  unfold zal zvir zup
  by_cases c : x = p
  · rw [if_pos c, c]
  · rw [if_neg c]
theorem zvir_p {p : Nat} {pg : Nat → zP} {r : List zE} (h : zrowok r) : zLv (zvir pg p r) p = r := by
  unfold zLv zvir
  rw [zup_eq]
  exact zrow_fil h
theorem zvir_ne {p x : Nat} {pg : Nat → zP} {r : List zE} (h : x ≠ p) : zLv (zvir pg p r) x = zLv pg x := by
  unfold zLv zvir
  rw [zup_ne h]
theorem zvir_k {p x : Nat} {pg : Nat → zP} {r : List zE} : zKd (zvir pg p r) x = zKd pg x := by
  unfold zKd zvir zup
  by_cases c : x = p
  · rw [if_pos c, c]
  · rw [if_neg c]
/-- T1: the tree when a page has been left, with the row in it -/
theorem z_T1 {B P p q R : Nat} {t : Int32} {pg : Nat → zP} {r : List zE} {lo hi : Nat → Int} {lev : Nat → Nat} (h : zlev B t P pg p q r) (hP : P ≤ 4000) (t2 : t ≠ -2) (hW : zWf (zal P (zvir pg p r)) (zLv (zvir pg p r)) (zKd (zvir pg p r)) R lo hi lev) (ap : (pg p).2.2.1 = -2) (aq : (pg q).2.2.1 = -2) (lq : lev q ≠ 0) :
    ∃ lo0 hi0 eb, zWf (zal P (zleave B t pg p q r).1) (zup (zup (zLv (zleave B t pg p q r).1) q (zLv (zleave B t pg p q r).1 q ++ [eb])) p (zleave B t pg p q r).2.1) (zKd pg) R lo0 hi0 lev ∧ eb.1 = (zleave B t pg p q r).2.2 ∧ eb.2.2.2 = nI p ∧ (zLv (zleave B t pg p q r).1 q).length < (zLv pg q).length ∧ ((zleave B t pg p q r).2.1 = r ∨ (zLv (zleave B t pg p q r).1 q).length + 1 < (zLv pg q).length) := by
  obtain ⟨ip, e0, i1, i2, i3⟩ := zlev_ip h
  have h2 := id h
  obtain ⟨p1, p2, p3, p4, p5, p6, p7, p8, p9⟩ := h
  have c3 : znw e0 = true ∧ e0.2.2.2 = nI p := by simpa [zto] using i3
  have qp : q ≠ p := fun e => p3 e.symm
  have Aq : zal P (zvir pg p r) q := (zvir_al q).mpr ⟨p2, aq⟩
  have Ap : zal P (zvir pg p r) p := (zvir_al p).mpr ⟨p1, ap⟩
  have Lq : zLv (zvir pg p r) q = zLv pg q := zvir_ne qp
  have Lp : zLv (zvir pg p r) p = r := zvir_p p9
  have m0 : e0 ∈ zLv pg q := List.mem_filter.mpr ⟨List.mem_of_getElem? i2, c3.1⟩
  have D : ∀ e : zE, ¬ znw (e.1, e.2.1, t, e.2.2.2) = true := fun e => zdead t2 rfl
  unfold zleave
  rw [i1]
  simp only [zgetD i2]
  cases hz : zsib B r e0.1 (pg q).2.2.2 with
  | none =>
    simp only []
    have eqL : zLv (ztoP pg q ip e0 t) q = ((pg q).2.2.2.set ip (e0.1, e0.2.1, t, e0.2.2.2)).filter znw := by unfold zLv ztoP; rw [zup_eq]
    have pm : (zLv pg q).Perm (zLv (ztoP pg q ip e0 t) q ++ [e0]) := by rw [eqL]; exact zset_perm i2 c3.1 (D e0)
    refine ⟨lo, hi, e0, zWf_cg hW (fun x => ?_) (fun x hx => ⟨?_, zvir_k.symm⟩), rfl, c3.2, ?_, Or.inl trivial⟩
    · rw [zvir_al]
      unfold zal ztoP zup
      by_cases c : x = q
      · rw [if_pos c, c]
      · rw [if_neg c]
    · by_cases c : x = p
      · subst c
        rw [zup_eq, Lp]
      · rw [zup_ne c]
        by_cases d : x = q
        · subst d
          rw [zup_eq, Lq]
          exact pm
        · rw [zup_ne d, zvir_ne c]
          unfold zLv ztoP
          rw [zup_ne d]
    · have := pm.length_eq
      rw [List.length_append, List.length_singleton] at this
      omega
  | some j =>
    obtain ⟨c, e1, s, j1, j2, j3, j4, s1, s2, s3, ji, s4, s5⟩ := zlev_sib h2 i2 i3 hz
    simp only [zgetD j1, j4, nI_clamp (show s < 2 ^ 31 by omega)]
    have m1 : e1 ∈ zLv pg q := List.mem_filter.mpr ⟨List.mem_of_getElem? j1, j2⟩
    rw [← Lq] at m0 m1
    obtain ⟨As, sl, slo, shi, sab⟩ := zWf_ch hW Aq lq m1 j4 (by omega)
    obtain ⟨_, pl, plo, phi, pab⟩ := zWf_ch hW Aq lq m0 c3.2 (by omega)
    have lts := zWf_lt hW As
    have ltp := zWf_lt hW Ap
    obtain ⟨_, _, _, _, _, nq, sq, _⟩ := hW.2.2.2.2.2 q Aq
    have k0 := sq e0 m0
    have k1 := sq e1 m1
    have Ls : zLv (zvir pg p r) s = zLv pg s := zvir_ne s3
    have qz : zfinp pg s t q = pg q := zup_ne (fun e => s2 e.symm)
    have eqL : zLv (ztoP (ztoP (zfinp pg s t) q j.1 e1 t) q ip e0 t) q = (((pg q).2.2.2.set j.1 (e1.1, e1.2.1, t, e1.2.2.2)).set ip (e0.1, e0.2.1, t, e0.2.2.2)).filter znw := by unfold zLv ztoP; rw [zup_eq, zup_eq, qz]
    have i2' : ((pg q).2.2.2.set j.1 (e1.1, e1.2.1, t, e1.2.2.2))[ip]? = some e0 := by rw [List.getElem?_set, if_neg ji]; exact i2
    have pm : (zLv pg q).Perm (zLv (ztoP (ztoP (zfinp pg s t) q j.1 e1 t) q ip e0 t) q ++ [e0] ++ [e1]) := by
      rw [eqL]
      exact (zset_perm j1 j2 (D e1)).trans ((zset_perm i2' c3.1 (D e0)).append_right _)
    have pm2 : (zLv pg q).Perm (zLv (ztoP (ztoP (zfinp pg s t) q j.1 e1 t) q ip e0 t) q ++ [e1] ++ [e0]) := by
      refine pm.trans ?_
      rw [List.append_assoc, List.append_assoc]
      exact List.Perm.append_left _ (List.Perm.swap e1 e0 [])
    have nq' : zkn (zLv pg q) := by rw [← Lq]; exact nq
    have rowp : (zgat znw (pg s).2.2.2 r).Perm (r ++ zLv pg s) := zgat_perm znw _ _
    -- what the two states share
    have fin : ∀ (lo0 hi0 : Nat → Int) (eb : zE) (l0 : List zE), l0.Perm (zLv (ztoP (ztoP (zfinp pg s t) q j.1 e1 t) q ip e0 t) q) → zWf (fun x => zal P (zvir pg p r) x ∧ x ≠ s) (zup (zup (zLv (zvir pg p r)) q (l0 ++ [eb])) p (zgat znw (pg s).2.2.2 r)) (zKd (zvir pg p r)) R lo0 hi0 lev → zWf (zal P (ztoP (ztoP (zfinp pg s t) q j.1 e1 t) q ip e0 t)) (zup (zup (zLv (ztoP (ztoP (zfinp pg s t) q j.1 e1 t) q ip e0 t)) q (zLv (ztoP (ztoP (zfinp pg s t) q j.1 e1 t) q ip e0 t) q ++ [eb])) p (zgat znw (pg s).2.2.2 r)) (zKd pg) R lo0 hi0 lev := fun lo0 hi0 eb l0 hl hw => by
      refine zWf_cg hw (fun x => ?_) (fun x hx => ⟨?_, zvir_k.symm⟩)
      · rw [zvir_al]
        unfold zal ztoP
        rw [zup_zup, zup_eq, qz]
        by_cases c1 : x = q
        · subst c1
          rw [zup_eq]
          exact ⟨fun z => ⟨⟨p2, aq⟩, fun e => s2 e.symm⟩, fun z => ⟨p2, aq⟩⟩
        · rw [zup_ne c1]
          unfold zfinp
          by_cases c2 : x = s
          · subst c2
            rw [zup_eq]
            exact ⟨fun z => absurd z.2 t2, fun z => absurd rfl z.2⟩
          · rw [zup_ne c2]
            exact ⟨fun z => ⟨z, c2⟩, fun z => z.1⟩
      · by_cases c0 : x = p
        · subst c0
          rw [zup_eq, zup_eq]
        · rw [zup_ne c0, zup_ne c0]
          by_cases c1 : x = q
          · subst c1
            rw [zup_eq, zup_eq]
            exact hl.append_right _
          · rw [zup_ne c1, zup_ne c1, zvir_ne c0]
            unfold zLv ztoP
            rw [zup_ne c1, zup_ne c1]
            unfold zfinp
            rw [zup_ne hx.2]
    have cnt : (zLv (ztoP (ztoP (zfinp pg s t) q j.1 e1 t) q ip e0 t) q).length + 1 < (zLv pg q).length := by
      have := pm.length_eq
      rw [List.length_append, List.length_append, List.length_singleton, List.length_singleton] at this
      omega
    have hz2 := hz
    unfold zsib at hz2
    rw [if_pos c] at hz2
    have ents : ∀ e ∈ zLv (zvir pg p r) q, e ∈ (pg q).2.2.2 ∧ znw e = true := fun e he => by rw [Lq] at he; exact List.mem_filter.mp he
    cases ha : zbs (zna e0.1) zlt (pg q).2.2.2 0 none with
    | some x =>
      rw [ha] at hz2
      cases hz2
      obtain ⟨ex, x1, x2, x3⟩ := zbs_0 ha
      rw [j1] at x1
      cases x1
      simp only [zna, Bool.and_eq_true, decide_eq_true_eq] at x2
      have lt01 : ke e0 < ke e1 := Int32.lt_iff_toInt_lt.mp x2.2
      have mn := (zbs_min _ _ _ _ ha).1
      have adj : hi p = lo s := by
        have u1 := pab e1 m1 lt01
        rcases phi with y | ⟨e', y1, y2⟩
        · omega
        · have u2 := ents e' y1
          have u3 : ke e1 ≤ ke e' := by
            have lt2 : e0.1 < e'.1 := Int32.lt_iff_toInt_lt.mpr (by show ke e0 < ke e'; omega)
            have := mn e' u2.1 (by simp [zna, u2.2, lt2])
            rw [j3] at this
            exact Int32.le_iff_toInt_le.mp this
          omega
      have hw := zWf_M (f := t) hW (Or.inl ⟨rfl, rfl⟩) Ap As Aq lq m0 m1 c3.2 j4 (fun e => s3 e.symm) adj (row := zgat znw (pg s).2.2.2 r) (by rw [Lp, Ls]; exact rowp.symm)
      rw [Lq] at hw
      have := fin _ _ _ _ (zfil_2 nq' pm) hw
      refine ⟨_, _, _, this, ?_, rfl, by omega, Or.inr cnt⟩
      show e0.1 = _
      rw [if_neg (fun z => by rw [j3] at z; have := Int32.lt_iff_toInt_lt.mp z; unfold ke at lt01; omega)]
    | none =>
      rw [ha] at hz2
      have hb : zbs (znb e0.1) zgt (pg q).2.2.2 0 none = some j := hz2
      obtain ⟨ex, x1, x2, x3⟩ := zbs_0 hb
      rw [j1] at x1
      cases x1
      simp only [znb, Bool.and_eq_true, decide_eq_true_eq] at x2
      have lt10 : ke e1 < ke e0 := Int32.lt_iff_toInt_lt.mp x2.2
      have mx := (zbs_max _ _ _ _ hb).1
      have adj : hi s = lo p := by
        have u1 := sab e0 m0 lt10
        rcases shi with y | ⟨e', y1, y2⟩
        · omega
        · have u2 := ents e' y1
          by_cases lt2 : ke e' < ke e0
          · have lt3 : e'.1 < e0.1 := Int32.lt_iff_toInt_lt.mpr lt2
            have := mx e' u2.1 (by simp [znb, u2.2, lt3])
            rw [j3] at this
            have u4 : ke e' ≤ ke e1 := Int32.le_iff_toInt_le.mp this
            omega
          · omega
      have hw := zWf_M (f := t) hW (Or.inr ⟨rfl, rfl⟩) As Ap Aq lq m1 m0 j4 c3.2 s3 adj (row := zgat znw (pg s).2.2.2 r) (by rw [Lp, Ls]; exact List.perm_append_comm.trans rowp.symm)
      rw [Lq] at hw
      have := fin _ _ _ _ (zfil_2 nq' pm2) hw
      refine ⟨_, _, _, this, ?_, rfl, by omega, Or.inr cnt⟩
      show e1.1 = _
      rw [if_pos (by rw [j3]; exact x2.2), j3]
end
