section
/-- T2: the tree with the new pages, those handed up in the page above -/
theorem z_T2 {B P p q R : Nat} {t bd : Int32} {pg : Nat → zP} {row : List zE} {eb : zE} {kdf : Nat → Int32} {lo hi : Nat → Int} {lev : Nat → Nat} (hW : zWf (zal P pg) (zup (zup (zLv pg) q (zLv pg q ++ [eb])) p row) kdf R lo hi lev) (hk : ∀ x, kdf x = (pg x).1) (hp : p < P) (hq : q < P) (pq : p ≠ q) (ap : (pg p).2.2.1 = -2) (aq : (pg q).2.2.1 = -2) (lq : lev q ≠ 0) (hb : eb.1 = bd) (hv : eb.2.2.2 = nI p) (so : zso2 row) (ok : zrowok row) (hB6 : 6 ≤ B) (hP : P + 2 ≤ 320) (t2 : t ≠ -2) :
    ∃ lo' hi' lev', zWf (zal (P + zmn B row) (zmk B t P (zfinp pg p t) (pg p).1 row)) (zup (zLv (zmk B t P (zfinp pg p t) (pg p).1 row)) q (zLv (zmk B t P (zfinp pg p t) (pg p).1 row) q ++ znew B t P row bd)) (zKd (zmk B t P (zfinp pg p t) (pg p).1 row)) R lo' hi' lev' ∧ (∀ x, x < P → lev' x = lev x) ∧ (∀ x, P ≤ x → x < P + zmn B row → lev' x = lev p) := by
  have qp : q ≠ p := fun e => pq e.symm
  have Lq : zup (zup (zLv pg) q (zLv pg q ++ [eb])) p row q = zLv pg q ++ [eb] := by rw [zup_ne qp, zup_eq]
  have Lp : zup (zup (zLv pg) q (zLv pg q ++ [eb])) p row p = row := zup_eq _ _ _
  have Aq : zal P pg q := ⟨hq, aq⟩
  have Ap : zal P pg p := ⟨hp, ap⟩
  have nA : ¬ zal P pg P := fun z => by have := z.1; omega
  have mb : eb ∈ zup (zup (zLv pg) q (zLv pg q ++ [eb])) p row q := by rw [Lq]; simp
  have nq := (hW.2.2.2.2.2 q Aq).2.2.2.2.2.1
  rw [Lq] at nq
  have np := (hW.2.2.2.2.2 p Ap).2.2.2.2.2.1
  have sp := (hW.2.2.2.2.2 p Ap).2.2.2.2.2.2.1
  rw [Lp] at np sp
  have lqp : lev p + 1 = lev q := (zWf_ch hW Aq lq mb hv (by omega)).2.1
  have hN := zWf_N (f := t) (n := P) hW Ap Aq lq mb hv nA (by omega)
  rw [Lq, Lp, zfil_1 nq, hb] at hN
  have fp : zfinp pg p t p = ((pg p).1, (pg p).2.1, t, (pg p).2.2.2) := zup_eq _ _ _
  have fx : ∀ x, x ≠ p → zfinp pg p t x = pg x := fun x hx => zup_ne hx
  cases c : ztwo B row with
  | false =>
    have e1 : zmk B t P (zfinp pg p t) (pg p).1 row = zup (zfinp pg p t) P ((pg p).1, t, -2, row) := by unfold zmk; rw [c]; rfl
    rw [e1, znew_one c, zmn_one c]
    have ev : ∀ x, x ≠ P → zup (zfinp pg p t) P ((pg p).1, t, -2, row) x = zfinp pg p t x := fun x hx => zup_ne hx
    refine ⟨_, _, _, zWf_cg hN (fun x => ?_) (fun x hx => ?_), fun x hx => zup_ne (by omega), fun x h1 h2 => by rw [show x = P by omega, zup_eq]⟩
    · unfold zal
      by_cases x1 : x = P
      · subst x1
        rw [zup_eq]
        exact ⟨fun _ => Or.inr rfl, fun _ => ⟨by omega, rfl⟩⟩
      · rw [ev x x1]
        by_cases x2 : x = p
        · subst x2
          rw [fp]
          exact ⟨fun z => absurd z.2 t2, fun z => by
            rcases z with z | z
            · exact absurd rfl z.2
            · exact absurd z x1⟩
        · rw [fx x x2]
          exact ⟨fun z => Or.inl ⟨⟨by omega, z.2⟩, x2⟩, fun z => by
            rcases z with z | z
            · exact ⟨by have := z.1.1; omega, z.1.2⟩
            · exact absurd z x1⟩
    · rcases hx with ⟨⟨x1, x2⟩, x3⟩ | x1
      · have xP : x ≠ P := by omega
        rw [zup_ne xP]
        have kx : zKd (zup (zfinp pg p t) P ((pg p).1, t, -2, row)) x = zup kdf P (kdf p) x := by
          rw [zup_ne xP, hk]
          unfold zKd
          rw [ev x xP, fx x x3]
        refine ⟨?_, kx⟩
        have lx : zLv (zup (zfinp pg p t) P ((pg p).1, t, -2, row)) x = zLv pg x := by
          unfold zLv
          rw [ev x xP, fx x x3]
        by_cases xq : x = q
        · subst xq
          rw [zup_eq, zup_eq, lx]
        · rw [zup_ne xq, zup_ne xq, zup_ne x3, zup_ne xq, lx]
      · subst x1
        rw [zup_eq]
        have xq : x ≠ q := by omega
        refine ⟨?_, ?_⟩
        · rw [zup_ne xq]
          unfold zLv
          rw [zup_eq]
          show row.Perm (row.filter znw)
          rw [zrow_fil ok]
        · rw [zup_eq, hk]
          unfold zKd
          rw [zup_eq]
  | true =>
    have c2 := of_decide_eq_true c
    have hl : row.length / 2 < row.length := by omega
    have he := List.getElem?_eq_getElem hl
    generalize hes : row[row.length / 2] = es at he
    have sec : zsec row = es.1 := by unfold zsec; rw [zgetD he]
    obtain ⟨hv1, hv2⟩ := z_halves so np he
    have esd : es ∈ row.drop (row.length / 2) := by
      rw [List.drop_eq_getElem_cons hl, hes]
      exact List.mem_cons_self
    have l0 : 0 < row.length := by omega
    have fst : row[0] ∈ row.take (row.length / 2) := by
      refine List.mem_iff_getElem?.mpr ⟨0, ?_⟩
      rw [List.getElem?_take_of_lt (by omega), List.getElem?_eq_getElem l0]
    have loP : zup lo P (lo p) P < ke es := by
      rw [zup_eq]
      have a1 := (sp row[0] (List.getElem_mem l0)).1
      have a2 := hv1 _ fst
      omega
    have LP : zup (zup (zup (zup (zLv pg) q (zLv pg q ++ [eb])) p row) q (zLv pg q ++ [(bd, t, -2, nI P)])) P row P = row := zup_eq _ _ _
    have LQ : zup (zup (zup (zup (zLv pg) q (zLv pg q ++ [eb])) p row) q (zLv pg q ++ [(bd, t, -2, nI P)])) P row q = zLv pg q ++ [(bd, t, -2, nI P)] := by rw [zup_ne (by omega), zup_eq]
    have hS := zWf_S (f := t) (n := P + 1) (c := P) (q := q) (e0 := (bd, t, -2, nI P)) (es := es) (l1 := row.take (row.length / 2)) (l2 := row.drop (row.length / 2)) hN (Or.inr rfl) (Or.inl ⟨Aq, qp⟩) (by rw [zup_ne (by omega)]; exact lq) (by rw [LQ]; simp) rfl (fun z => by
      rcases z with z | z
      · have := z.1.1; omega
      · omega) (by omega) (by rw [LP, List.take_append_drop]) esd hv1 hv2 loP
    rw [LQ] at hS
    have e1 : zmk B t P (zfinp pg p t) (pg p).1 row = zup (zup (zfinp pg p t) P ((pg p).1, t, -2, row.take (row.length / 2))) (P + 1) ((pg p).1, t, -2, row.drop (row.length / 2)) := by unfold zmk; rw [if_pos c]
    rw [e1, znew_two c, zmn_two c, sec]
    have ev : ∀ x, x ≠ P → x ≠ P + 1 → zup (zup (zfinp pg p t) P ((pg p).1, t, -2, row.take (row.length / 2))) (P + 1) ((pg p).1, t, -2, row.drop (row.length / 2)) x = zfinp pg p t x := fun x hx hx2 => by rw [zup_ne hx2, zup_ne hx]
    have evP : zup (zup (zfinp pg p t) P ((pg p).1, t, -2, row.take (row.length / 2))) (P + 1) ((pg p).1, t, -2, row.drop (row.length / 2)) P = ((pg p).1, t, -2, row.take (row.length / 2)) := by rw [zup_ne (by omega), zup_eq]
    have okt : zrowok (row.take (row.length / 2)) := fun e he => ok e (List.mem_of_mem_take he)
    have okd : zrowok (row.drop (row.length / 2)) := fun e he => ok e (List.mem_of_mem_drop he)
    refine ⟨_, _, _, zWf_cg hS (fun x => ?_) (fun x hx => ?_), fun x hx => by rw [zup_ne (by omega), zup_ne (by omega)], fun x h1 h2 => ?_⟩
    · unfold zal
      by_cases x0 : x = P + 1
      · subst x0
        rw [zup_eq]
        exact ⟨fun _ => Or.inr rfl, fun _ => ⟨by omega, rfl⟩⟩
      · by_cases x1 : x = P
        · subst x1
          rw [evP]
          exact ⟨fun _ => Or.inl (Or.inr rfl), fun _ => ⟨by omega, rfl⟩⟩
        · rw [ev x x1 x0]
          by_cases x2 : x = p
          · subst x2
            rw [fp]
            exact ⟨fun z => absurd z.2 t2, fun z => by
              rcases z with (z | z) | z
              · exact absurd rfl z.2
              · exact absurd z x1
              · exact absurd z x0⟩
          · rw [fx x x2]
            exact ⟨fun z => Or.inl (Or.inl ⟨⟨by omega, z.2⟩, x2⟩), fun z => by
              rcases z with (z | z) | z
              · exact ⟨by have := z.1.1; omega, z.1.2⟩
              · exact absurd z x1
              · exact absurd z x0⟩
    · rcases hx with (⟨⟨x1, x2⟩, x3⟩ | x1) | x1
      · have xP : x ≠ P := by omega
        have xP1 : x ≠ P + 1 := by omega
        have lx : zLv (zup (zup (zfinp pg p t) P ((pg p).1, t, -2, row.take (row.length / 2))) (P + 1) ((pg p).1, t, -2, row.drop (row.length / 2))) x = zLv pg x := by
          unfold zLv
          rw [ev x xP xP1, fx x x3]
        refine ⟨?_, ?_⟩
        · rw [zup_ne xP1, zup_ne xP]
          by_cases xq : x = q
          · subst xq
            rw [zup_eq, zup_eq, lx]
            simp
          · rw [zup_ne xq, zup_ne xq, zup_ne xP, zup_ne xq, zup_ne x3, zup_ne xq, lx]
        · rw [zup_ne xP1, zup_ne xP, hk]
          unfold zKd
          rw [ev x xP xP1, fx x x3]
      · subst x1
        have xq : x ≠ q := by omega
        refine ⟨?_, ?_⟩
        · rw [zup_ne (show x ≠ x + 1 by omega), zup_eq, zup_ne xq]
          unfold zLv
          rw [evP]
          show List.Perm _ (List.filter znw (row.take (row.length / 2)))
          rw [zrow_fil okt]
        · rw [zup_ne (show x ≠ x + 1 by omega), zup_eq, hk]
          unfold zKd
          rw [evP]
      · subst x1
        have xq : P + 1 ≠ q := by omega
        refine ⟨?_, ?_⟩
        · rw [zup_eq, zup_ne xq]
          unfold zLv
          rw [zup_eq]
          show List.Perm _ (List.filter znw (row.drop (row.length / 2)))
          rw [zrow_fil okd]
        · rw [zup_eq, zup_eq, hk]
          unfold zKd
          rw [zup_eq]
    · by_cases x1 : x = P + 1
      · rw [x1, zup_eq, zup_eq]
      · rw [zup_ne x1, show x = P by omega, zup_eq]
/-- the root is replaced -/
theorem z_TR {B P p : Nat} {t : Int32} {pg : Nat → zP} {row : List zE} {ro : List (Int32 × Int32)} {lo hi : Nat → Int} {lev : Nat → Nat} (hW : zWf (zal P (zvir pg p row)) (zLv (zvir pg p row)) (zKd (zvir pg p row)) p lo hi lev) (hp : p < P) (ap : (pg p).2.2.1 = -2) (so : zso2 row) (ok : zrowok row) (hB6 : 6 ≤ B) (hP : P + 3 ≤ 320) (t2 : t ≠ -2) :
    ∃ lo' hi' lev', zWf (zal (zcrown B t P (zmk B t P (zfinp pg p t) (pg p).1 row) row ro).1 (zcrown B t P (zmk B t P (zfinp pg p t) (pg p).1 row) row ro).2.1) (zLv (zcrown B t P (zmk B t P (zfinp pg p t) (pg p).1 row) row ro).2.1) (zKd (zcrown B t P (zmk B t P (zfinp pg p t) (pg p).1 row) row ro).2.1) (if ztwo B row = true then P + 2 else P) lo' hi' lev' ∧ (∀ x, x < P → lev' x = lev x) ∧ (∀ x, P ≤ x → x < P + zmn B row → lev' x = lev p) ∧ (ztwo B row = true → lev' (P + 2) = lev p + 1) := by
  have Ap : zal P (zvir pg p row) p := (zvir_al p).mpr ⟨hp, ap⟩
  have Lp : zLv (zvir pg p row) p = row := zvir_p ok
  have nA : ∀ n, P ≤ n → ¬ zal P (zvir pg p row) n := fun n hn z => by have := z.1; omega
  have np := (hW.2.2.2.2.2 p Ap).2.2.2.2.2.1
  have sp := (hW.2.2.2.2.2 p Ap).2.2.2.2.2.2.1
  have lop := hW.2.1
  rw [Lp] at np sp
  have hN := zWf_NR (n := P) hW (nA P (Nat.le_refl _)) (by omega)
  rw [Lp] at hN
  have fp : zfinp pg p t p = ((pg p).1, (pg p).2.1, t, (pg p).2.2.2) := zup_eq _ _ _
  have fx : ∀ x, x ≠ p → zfinp pg p t x = pg x := fun x hx => zup_ne hx
  have oldA : ∀ x, (zal P (zvir pg p row) x ∧ x ≠ p) ↔ (x < P ∧ (zfinp pg p t x).2.2.1 = -2) := fun x => by
    rw [zvir_al]
    by_cases x2 : x = p
    · subst x2
      rw [fp]
      exact ⟨fun z => absurd rfl z.2, fun z => absurd z.2 t2⟩
    · rw [fx x x2]
      exact ⟨fun z => z.1, fun z => ⟨z, x2⟩⟩
  cases c : ztwo B row with
  | false =>
    have e1 : zmk B t P (zfinp pg p t) (pg p).1 row = zup (zfinp pg p t) P ((pg p).1, t, -2, row) := by unfold zmk; rw [c]; rfl
    have e2 : zcrown B t P (zmk B t P (zfinp pg p t) (pg p).1 row) row ro = (P + 1, zup (zfinp pg p t) P ((pg p).1, t, -2, row), ro ++ [(t, nI P)]) := by unfold zcrown; rw [c, e1]; rfl
    rw [e2, zmn_one c]
    simp only [Bool.false_eq_true, if_false]
    refine ⟨_, _, _, zWf_cg hN (fun x => ?_) (fun x hx => ?_), fun x hx => zup_ne (by omega), fun x h1 h2 => by rw [show x = P by omega, zup_eq], fun z => by cases z⟩
    · rw [oldA]
      unfold zal
      by_cases x1 : x = P
      · subst x1
        rw [zup_eq]
        exact ⟨fun _ => Or.inr rfl, fun _ => ⟨by omega, rfl⟩⟩
      · rw [zup_ne x1]
        exact ⟨fun z => Or.inl ⟨by omega, z.2⟩, fun z => by
          rcases z with z | z
          · exact ⟨by omega, z.2⟩
          · exact absurd z x1⟩
    · rcases hx with x1 | x1
      · have x2 := x1.2
        have x3 : x ≠ P := by have := x1.1.1; omega
        rw [zup_ne x3, zup_ne x3, zvir_ne x2, zvir_k]
        unfold zLv zKd
        rw [zup_ne x3, fx x x2]
        exact ⟨List.Perm.refl _, rfl⟩
      · subst x1
        rw [zup_eq, zup_eq, zvir_k]
        unfold zLv zKd
        rw [zup_eq]
        refine ⟨?_, rfl⟩
        show row.Perm (row.filter znw)
        rw [zrow_fil ok]
  | true =>
    have c2 := of_decide_eq_true c
    have hl : row.length / 2 < row.length := by omega
    have he := List.getElem?_eq_getElem hl
    generalize hes : row[row.length / 2] = es at he
    have sec : zsec row = es.1 := by unfold zsec; rw [zgetD he]
    obtain ⟨hv1, hv2⟩ := z_halves so np he
    have esd : es ∈ row.drop (row.length / 2) := by
      rw [List.drop_eq_getElem_cons hl, hes]
      exact List.mem_cons_self
    have l0 : 0 < row.length := by omega
    have fst : row[0] ∈ row.take (row.length / 2) := by
      refine List.mem_iff_getElem?.mpr ⟨0, ?_⟩
      rw [List.getElem?_take_of_lt (by omega), List.getElem?_eq_getElem l0]
    have loP : 0 < ke es := by
      have a1 := (sp row[0] (List.getElem_mem l0)).1
      have a2 := hv1 _ fst
      omega
    have hS := zWf_SR (f := t) (n := P + 1) (m := P + 2) (es := es) (l1 := row.take (row.length / 2)) (l2 := row.drop (row.length / 2)) hN (fun z => by
      rcases z with z | z
      · have := z.1.1; omega
      · omega) (fun z => by
      rcases z with z | z
      · have := z.1.1; omega
      · omega) (by omega) (by omega) (by omega) (by rw [zup_eq, List.take_append_drop]) esd hv1 hv2 loP
    have e1 : zmk B t P (zfinp pg p t) (pg p).1 row = zup (zup (zfinp pg p t) P ((pg p).1, t, -2, row.take (row.length / 2))) (P + 1) ((pg p).1, t, -2, row.drop (row.length / 2)) := by unfold zmk; rw [if_pos c]
    have e2 : zcrown B t P (zmk B t P (zfinp pg p t) (pg p).1 row) row ro = (P + 3, zup (zup (zup (zfinp pg p t) P ((pg p).1, t, -2, row.take (row.length / 2))) (P + 1) ((pg p).1, t, -2, row.drop (row.length / 2))) (P + 2) (0, t, -2, [(0, t, -2, nI P), (es.1, t, -2, nI (P + 1))]), ro ++ [(t, nI (P + 2))]) := by unfold zcrown; rw [if_pos c, e1, sec]
    rw [e2, zmn_two c]
    simp only [if_true]
    have okt : zrowok (row.take (row.length / 2)) := fun e he => ok e (List.mem_of_mem_take he)
    have okd : zrowok (row.drop (row.length / 2)) := fun e he => ok e (List.mem_of_mem_drop he)
    generalize hG : zup (zup (zup (zfinp pg p t) P ((pg p).1, t, -2, row.take (row.length / 2))) (P + 1) ((pg p).1, t, -2, row.drop (row.length / 2))) (P + 2) ((0 : Int32), t, (-2 : Int32), [((0 : Int32), t, (-2 : Int32), nI P), (es.1, t, -2, nI (P + 1))]) = G
    have gx : ∀ x, x ≠ P → x ≠ P + 1 → x ≠ P + 2 → G x = zfinp pg p t x := fun x h1 h2 h3 => by rw [← hG, zup_ne h3, zup_ne h2, zup_ne h1]
    have g0 : G P = ((pg p).1, t, -2, row.take (row.length / 2)) := by rw [← hG, zup_ne (by omega), zup_ne (by omega), zup_eq]
    have g1 : G (P + 1) = ((pg p).1, t, -2, row.drop (row.length / 2)) := by rw [← hG, zup_ne (by omega), zup_eq]
    have g2 : G (P + 2) = (0, t, -2, [(0, t, -2, nI P), (es.1, t, -2, nI (P + 1))]) := by rw [← hG, zup_eq]
    refine ⟨_, _, _, zWf_cg hS (fun x => ?_) (fun x hx => ?_), fun x hx => by rw [zup_ne (by omega), zup_ne (by omega), zup_ne (by omega)], fun x h1 h2 => ?_, fun _ => by rw [zup_eq, zup_eq]⟩
    · rw [oldA]
      unfold zal
      by_cases x1 : x = P
      · subst x1
        rw [g0]
        exact ⟨fun _ => Or.inl (Or.inr rfl), fun _ => ⟨by omega, rfl⟩⟩
      · by_cases x2 : x = P + 1
        · subst x2
          rw [g1]
          exact ⟨fun _ => Or.inr (Or.inl rfl), fun _ => ⟨by omega, rfl⟩⟩
        · by_cases x3 : x = P + 2
          · subst x3
            rw [g2]
            exact ⟨fun _ => Or.inr (Or.inr rfl), fun _ => ⟨by omega, rfl⟩⟩
          · rw [gx x x1 x2 x3]
            exact ⟨fun z => Or.inl (Or.inl ⟨by omega, z.2⟩), fun z => by
              rcases z with (z | z) | z | z
              · exact ⟨by omega, z.2⟩
              · exact absurd z x1
              · exact absurd z x2
              · exact absurd z x3⟩
    · unfold zLv zKd
      rcases hx with (x1 | x1) | x1 | x1
      · have x2 := x1.2
        have x3 : x < P := x1.1.1
        rw [zup_ne (by omega), zup_ne (by omega), zup_ne (by omega), zup_ne (by omega), zup_ne (by omega), zup_ne (by omega), zup_ne (by omega), gx x (by omega) (by omega) (by omega), fx x x2]
        refine ⟨?_, (zvir_k (x := x)).symm⟩
        rw [show (zvir pg p row x).2.2.2.filter znw = zLv (zvir pg p row) x from rfl, zvir_ne x2]
        exact List.Perm.refl _
      · subst x1
        rw [zup_ne (show x ≠ x + 2 by omega), zup_ne (show x ≠ x + 1 by omega), zup_eq, zup_ne (show x ≠ x + 2 by omega), zup_ne (show x ≠ x + 1 by omega), zup_eq, g0]
        refine ⟨?_, (zvir_k (x := p)).symm⟩
        show List.Perm _ (List.filter znw (row.take (row.length / 2)))
        rw [zrow_fil okt]
      · subst x1
        rw [zup_ne (show P + 1 ≠ P + 2 by omega), zup_eq, zup_ne (show P + 1 ≠ P + 2 by omega), zup_eq, zup_eq, g1]
        refine ⟨?_, (zvir_k (x := p)).symm⟩
        show List.Perm _ (List.filter znw (row.drop (row.length / 2)))
        rw [zrow_fil okd]
      · subst x1
        rw [zup_eq, zup_eq, g2]
        exact ⟨List.Perm.refl _, rfl⟩
    · by_cases x1 : x = P + 1
      · rw [x1, zup_ne (by omega), zup_eq, zup_eq]
      · rw [show x = P by omega, zup_ne (by omega), zup_ne (by omega), zup_eq]
end
