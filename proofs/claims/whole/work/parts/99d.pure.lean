section
variable {T : List zT} {cb i0 : Nat} {w : jw}
theorem z_kR : ∀ k : zK, 17 ≤ k.1 → (19 ≤ k.1 → zkR k = kpo (k.1 - 18)) ∧ (k.1 < 19 → zkR k = kso (k.1 - 16)) := by decide
theorem z_Hst (tk : zTok T) (hC : zTC T w) (m : Nat) (ihD : ∀ m', m = m' + 1 → zDst T cb i0 w m') (ihH : ∀ m', m = m' + 1 → zHst T cb i0 w m') : zHst T cb i0 w m := by
  intro j F r c wm n n' cnt g1 g2 g3 hc g4 g5 g6 g7 g8 g9
  have hl := tk.2.1
  obtain ⟨r1, r2, r3, r4, r5, r6, r7⟩ := g5
  have rl : r.length ≤ 6 := by have := g4.1; rw [List.length_cons] at this; omega
  obtain ⟨n1, rfl⟩ : ∃ n1, n = n1 + 1 := ⟨n - 1, by omega⟩
  obtain ⟨n1', rfl⟩ : ∃ n1', n' = n1' + 1 := ⟨n' - 1, by omega⟩
  obtain ⟨n2', hn2'⟩ : ∃ n2', n1' = n2' + 1 := ⟨n1' - 1, by omega⟩
  have r2' : wm.1 162 12 = nI r.length := by rw [r2, List.length_cons, Nat.add_sub_cancel]
  rw [z_peHad hC (by omega) (by omega), z_ex2 r6 r3 r1 g2 hl r2' rl]
  obtain ⟨⟨⟨F1, F2, F3, F4⟩, F5, F6⟩, gr⟩ : (zFok F ∧ F.2.2.1 ≤ j - 1 ∧ F.2.2.2.2.2 ≤ j - 1) ∧ ∀ f ∈ r, zFok f ∧ f.2.2.1 ≤ j - 1 ∧ f.2.2.2.2.2 ≤ j - 1 := ⟨g4.2 F List.mem_cons_self, fun f hf => g4.2 f (List.mem_cons_of_mem _ hf)⟩
  obtain ⟨so, cs, sm, po, cp, pm⟩ := F
  have F1 : so ≤ 2 := F1
  have F2 : so ≠ 0 → zCd cs := F2
  have F3 : po ≤ 3 := F3
  have F4 : po ≠ 0 → zCd cp := F4
  have F5 : sm ≤ j - 1 := F5
  have F6 : pm ≤ j - 1 := F6
  have hcp := zpcc_ok F3 F4 hc
  have hcs := zscc_ok F1 F2 hcp.1
  have wl := zwt_len r
  have lB : (zwB r (zwt r)).length < 40 := by unfold zwB; split <;> simp <;> omega
  have lS : (zwS so (zwB r (zwt r))).length < 50 := by
    unfold zwS
    split
    · omega
    · rw [List.length_cons]; omega
  have clF : ∀ (i : Nat) (f x y z : Int32), f ≠ 0 → l_X7_parseExpression n1 x y z (zpA w i f) = some (zpA w i f) := fun i f x y z hf => by
    obtain ⟨k1, rfl⟩ : ∃ k1, n1 = k1 + 1 := ⟨n1 - 1, by omega⟩
    exact z_peF w i k1 x y z hf
  by_cases k17 : 17 ≤ (zt T j).1.1
  · have nk : (zt T j).1 ≠ kStop ∧ (zt T j).1 ≠ kNo := ⟨fun z => by rw [z] at k17; exact absurd k17 (by decide), fun z => by rw [z] at k17; exact absurd k17 (by decide)⟩
    have nr : ¬ ((zt T j).1 = kRp ∧ r.length ≠ 0) := fun z => by rw [z.1] at k17; exact absurd k17 (by decide)
    rw [if_pos k17, if_neg nr, if_pos k17]
    have push : ∀ (b : Int32) (q : jw) (l : List Int32) (cc : List zcd1) (F' : zFm), f_X12_comesOut b wm = some q → zWt l q → l.length < 55 → zCo cb cc q → zfEm cb wm q → zFok F' → F'.2.2.1 ≤ j + 1 → F'.2.2.2.2.2 ≤ j + 1 → zwt (F' :: r) = zkR (zt T j).1 :: l → zco (F' :: r) = cc → cb + cc.length + zno (F' :: r) ≤ j + 1 → (j < 400 → zDu T i0 (F' :: r) (j + 1)) → zOut T cb i0 w wm (jbd (f_X7_take (zpA w j 0)) fun q22 => l_X7_parseExpression n1 (nI r.length) 1 (nI (cnt + 1)) q22) (jbd (f_X12_comesOut b wm) fun q37 => jg (jin (q37.1 162 11) 403) (jg (jin (q37.1 162 30) 64) (jl (jsetX q37 178 (Int32.toNatClampNeg (q37.1 162 30)) (q37.2.1 165 (Int32.toNatClampNeg (q37.1 162 11)))) fun w40 => jl (jsetI w40 162 30 ((w40.1 162 30) + 1)) fun w41 => jbd (f_X12_goesOn w41) fun q42 => (l_X12_expression n1' 0 0 1 q42)))) := fun b q l cc F' e1 e2 l55 e3 e4 f1 f2 f3 f4 f5 f6 f7 => by
      have q11 : q.1 162 11 = nI j := by rw [e4.2.2.1 11 (by decide) (by decide)]; exact r1
      have q13 : q.1 162 13 = 0 := by rw [e4.2.2.1 13 (by decide) (by decide)]; exact r3
      have q12 : q.1 162 12 = nI r.length := by rw [e4.2.2.1 12 (by decide) (by decide)]; exact r2'
      have qT := zTRx_fr r6 (zfEx_m e4)
      rw [e1, z_jbd, q11, e2.1, z_jg (z_in (show j < 403 by omega) (by decide)), z_jg (z_in (show l.length < 64 by omega) (by decide)), nI_clamp (by omega), nI_clamp (by omega), zR_r qT g2 nk.2, z_jl, z_jl]
      rw [show (jsetX q 178 l.length (zkR (zt T j).1)).1 162 30 = nI l.length from e2.1, nI_1]
      have pw := zWt_push e2 (zkR (zt T j).1)
      have pf : zfEx cb wm (jsetI (jsetX q 178 l.length (zkR (zt T j).1)) 162 30 (nI (l.length + 1))) := zfEx_trans (zfEx_m e4) (zfEx_trans zfEx_X (zfEx_I (by omega)))
      have p11 : (jsetI (jsetX q 178 l.length (zkR (zt T j).1)) 162 30 (nI (l.length + 1))).1 162 11 = nI j := by rw [zI_ne (by decide)]; exact q11
      have p12 : (jsetI (jsetX q 178 l.length (zkR (zt T j).1)) 162 30 (nI (l.length + 1))).1 162 12 = nI r.length := by rw [zI_ne (by decide)]; exact q12
      have p13 : (jsetI (jsetX q 178 l.length (zkR (zt T j).1)) 162 30 (nI (l.length + 1))).1 162 13 = 0 := by rw [zI_ne (by decide)]; exact q13
      have pc : zCo cb cc (jsetI (jsetX q 178 l.length (zkR (zt T j).1)) 162 30 (nI (l.length + 1))) := zCo_fr e3 (by rw [zI_ne (by decide)]; rfl) (z_jX2 (by decide)) (z_jX2 (by decide))
      generalize hp : jsetI (jsetX q 178 l.length (zkR (zt T j).1)) 162 30 (nI (l.length + 1)) = p at pw pf p11 p12 p13 pc ⊢
      by_cases j4 : j < 400
      · obtain ⟨m', hm'⟩ : ∃ m', m = m' + 1 := ⟨m - 1, by omega⟩
        rw [z_takeC w j4, z_jbd, z_goR p11 j4, z_jbd, hn2', z_ex0 (by rw [zI_ne (by decide)]; exact p13)]
        have pf2 : zfEx cb wm (jsetI p 162 11 (nI (j + 1))) := zfEx_trans pf (zfEx_I (by omega))
        refine zOut_fr pf2 ?_
        refine ihD m' hm' (j + 1) F' r _ n1 n2' (cnt + 1) (by omega) (z_nx tk g2 nk.1 nk.2 j4) (f7 j4) ⟨by rw [List.length_cons]; omega, fun f hf => ?_⟩ ⟨by rw [zI_eq], by rw [zI_ne (by decide), List.length_cons, Nat.add_sub_cancel]; exact p12, by rw [zI_ne (by decide)]; exact p13, ?_, ?_, zTRx_fr r6 pf2, by rw [f5]; exact f6⟩ (by omega) (by omega) (by omega) (by omega)
        · rcases List.mem_cons.mp hf with z | z
          · rw [z]; exact ⟨f1, f2, f3⟩
          · have := gr f z
            exact ⟨this.1, by omega, by omega⟩
        · rw [f5]
          exact zCo_fr pc (by rw [zI_ne (by decide)]) rfl rfl
        · rw [f4]
          exact zWt_fr pw (by rw [zI_ne (by decide)]) rfl
      · have j0e : j = 400 := by omega
        subst j0e
        obtain ⟨v1, v2⟩ := zR_f p 2 (zt T 400).2.1
        rw [z_take4, z_jbd, z_goF (zTRx_fr r6 pf) p13 p11 g2 hl, z_jbd, hn2', z_ex0F (Or.inr v1), clF _ _ _ _ _ (by decide)]
        exact Or.inr ⟨400, 2, _, Or.inr rfl, g2, rfl, rfl, v1, v2, zfEx_trans pf (zR_ff _ _ _)⟩
    by_cases k19 : 19 ≤ (zt T j).1.1
    · rw [if_pos k19]
      obtain ⟨q, e1, e2, e3, e4, e5⟩ := z_out1 (cb := cb) (c := c) F1 F3 rl r5 r4 (by omega) (b := 1) (by decide)
      have kk := (z_kR (zt T j).1 k17).1 k19
      have k3 : (zt T j).1.1 - 18 ≠ 0 := by omega
      refine push 1 q _ _ (so, cs, sm, (zt T j).1.1 - 18, zpcc po cp c, pm + 1) e1 e2 (by omega) e3 e4 ⟨F1, F2, by show (zt T j).1.1 - 18 ≤ 3; omega, fun _ => hcp.1⟩ (by show sm ≤ j + 1; omega) (by show pm + 1 ≤ j + 1; omega) ?_ ?_ ?_ (fun j4 w' hw' => ?_)
      · show zwP ((zt T j).1.1 - 18) (zwS so (zwB r (zwt r))) = _
        unfold zwP
        rw [if_neg k3, kk]
      · show zco r ++ zcS so cs ++ zcS ((zt T j).1.1 - 18) (zpcc po cp c) = _
        rw [show zcS ((zt T j).1.1 - 18) (zpcc po cp c) = zpcc po cp c from by unfold zcS; rw [if_neg k3]]
      · show cb + _ + (zno r + (if so = 0 then 0 else 1) + (if (zt T j).1.1 - 18 = 0 then 0 else 1)) ≤ j + 1
        rw [if_neg k3]
        have := r7
        omega
      · have := g3 w' hw'
        rw [zU_mul hw' (by omega) rfl k19 (zenv w') F3 F4 hc (by omega)] at this
        rw [List.length_cons, Nat.add_sub_cancel]
        exact this
    · rw [if_neg k19]
      obtain ⟨q, e1, e2, e3, e4, e5⟩ := z_out0 (cb := cb) (c := c) F1 F3 rl r5 r4 (by omega)
      have kk := (z_kR (zt T j).1 k17).2 (by omega)
      have k3 : (zt T j).1.1 - 16 ≠ 0 := by omega
      refine push 0 q _ _ ((zt T j).1.1 - 16, zscc so cs (zpcc po cp c), sm + 1, 0, [], 0) e1 e2 (by omega) e3 e4 ⟨by show (zt T j).1.1 - 16 ≤ 2; omega, fun _ => hcs.1, (by decide : (0 : Nat) ≤ 3), fun q => absurd rfl q⟩ (by show sm + 1 ≤ j + 1; omega) (by show 0 ≤ j + 1; omega) ?_ ?_ ?_ (fun j4 w' hw' => ?_)
      · show zwP 0 (zwS ((zt T j).1.1 - 16) (zwB r (zwt r))) = _
        unfold zwP zwS
        rw [if_pos rfl, if_neg k3, kk]
      · show zco r ++ zcS ((zt T j).1.1 - 16) (zscc so cs (zpcc po cp c)) ++ zcS 0 [] = _
        rw [show zcS ((zt T j).1.1 - 16) (zscc so cs (zpcc po cp c)) = zscc so cs (zpcc po cp c) from by unfold zcS; rw [if_neg k3]]
        rw [show zcS 0 ([] : List zcd1) = [] from rfl, List.append_nil]
      · show cb + _ + (zno r + (if (zt T j).1.1 - 16 = 0 then 0 else 1) + 0) ≤ j + 1
        rw [if_neg k3]
        have := r7
        omega
      · have := g3 w' hw'
        have k78 : (zt T j).1 = 17 ∨ (zt T j).1 = 18 := by
          have : (zt T j).1.1 = 17 ∨ (zt T j).1.1 = 18 := by omega
          rcases this with z | z
          · exact Or.inl (Fin.ext z)
          · exact Or.inr (Fin.ext z)
        rw [zU_add hw' (by omega) rfl k78 (zenv w') F1 F2 F3 F4 hc (by omega) (by omega)] at this
        rw [List.length_cons, Nat.add_sub_cancel]
        exact this
  · rw [if_neg k17]
    obtain ⟨q, e1, e2, e3, e4, e5⟩ := z_out0 (cb := cb) (c := c) F1 F3 rl r5 r4 (by omega)
    have q11 : q.1 162 11 = nI j := by rw [e4.2.2.1 11 (by decide) (by decide)]; exact r1
    have q12 : q.1 162 12 = nI r.length := by rw [e4.2.2.1 12 (by decide) (by decide)]; exact r2'
    have q13 : q.1 162 13 = 0 := by rw [e4.2.2.1 13 (by decide) (by decide)]; exact r3
    by_cases r0 : r.length = 0
    · rw [if_pos (show nI r.length = 0 by rw [r0]; rfl), if_neg (fun z => z.2 r0), if_neg k17, if_pos r0, z_jbd, e1, z_jbd]
      have rn : r = [] := List.length_eq_zero_iff.mp r0
      subst rn
      refine Or.inl ⟨j, zscc so cs (zpcc po cp c), q, rfl, rfl, g9, g2, ⟨hcs.1, fun w' hw' => ?_⟩, q11, q12, q13, ?_, ?_, zfEx_m e4⟩
      · have := g3 w' hw'
        rw [zU_end hw' (by omega) (by omega) (zenv w') F1 F2 F3 F4 hc (by omega) (by omega), if_pos (show ([] : List zFm).length = 0 from rfl)] at this
        exact this
      · exact e3
      · have e6 : cb + (zscc so cs (zpcc po cp c)).length + 0 ≤ _ := e5
        have := r7
        omega
    · rw [if_neg (show ¬ nI r.length = 0 from fun z => r0 ((nI_eq (a := r.length) (b := 0) (by omega) (by decide)).mp z))]
      obtain ⟨G, r', rfl⟩ : ∃ G r', r = G :: r' := by
        cases r with
        | nil => exact absurd rfl r0
        | cons G r' => exact ⟨G, r', rfl⟩
      have wB : zwB (G :: r') (zwt (G :: r')) = 6 :: zwt (G :: r') := by unfold zwB; rw [if_neg r0]
      rw [wB] at e2
      by_cases kr : (zt T j).1 = kRp
      · rw [if_pos kr, if_pos ⟨kr, r0⟩, e1, z_jbd, z_jl, z_jl]
        have nk := z_kne (T := T) kr (by decide)
        have l6 : (zwt (G :: r')).length < 60 := by omega
        obtain ⟨t1, t2, t3, t4⟩ := zWt_t e2 l6
        rw [t4, show (jsetI q 162 30 (nI (zwt (G :: r')).length)).1 162 12 = nI (G :: r').length from by rw [zI_ne (by decide)]; exact q12, show nI (G :: r').length - 1 = nI r'.length from pk_sub (a := r'.length + 1) (b := 1) (by omega), show nI (G :: r').length + -1 = nI r'.length from pk_m1 _]
        have pw : zWt (zwt (G :: r')) (jsetI (jsetI q 162 30 (nI (zwt (G :: r')).length)) 162 12 (nI r'.length)) := ⟨by rw [zI_ne (by decide), zI_eq], fun a x hx => by
          have al : a < (zwt (G :: r')).length := (List.getElem?_eq_some_iff.mp hx).1
          have := e2.2 (a + 1) x hx
          rw [List.length_cons, show (zwt (G :: r')).length + 1 - 1 - (a + 1) = (zwt (G :: r')).length - 1 - a by omega] at this
          exact this⟩
        have pf : zfEx cb wm (jsetI (jsetI q 162 30 (nI (zwt (G :: r')).length)) 162 12 (nI r'.length)) := zfEx_trans (zfEx_m e4) (zfEx_trans (zfEx_I (by omega)) (zfEx_I (by omega)))
        have p11 : (jsetI (jsetI q 162 30 (nI (zwt (G :: r')).length)) 162 12 (nI r'.length)).1 162 11 = nI j := by rw [zI_ne (by decide), zI_ne (by decide)]; exact q11
        have p12 : (jsetI (jsetI q 162 30 (nI (zwt (G :: r')).length)) 162 12 (nI r'.length)).1 162 12 = nI r'.length := by rw [zI_eq]
        have p13 : (jsetI (jsetI q 162 30 (nI (zwt (G :: r')).length)) 162 12 (nI r'.length)).1 162 13 = 0 := by rw [zI_ne (by decide), zI_ne (by decide)]; exact q13
        have pc : zCo cb (zco (G :: r') ++ zscc so cs (zpcc po cp c)) (jsetI (jsetI q 162 30 (nI (zwt (G :: r')).length)) 162 12 (nI r'.length)) := zCo_fr e3 (by rw [zI_ne (by decide), zI_ne (by decide)]) rfl rfl
        generalize hp : jsetI (jsetI q 162 30 (nI (zwt (G :: r')).length)) 162 12 (nI r'.length) = p at pw pf p11 p12 p13 pc ⊢
        by_cases j4 : j < 400
        · obtain ⟨m', hm'⟩ : ∃ m', m = m' + 1 := ⟨m - 1, by omega⟩
          rw [z_takeC w j4, z_jbd, z_goR p11 j4, z_jbd]
          have pf2 : zfEx cb wm (jsetI p 162 11 (nI (j + 1))) := zfEx_trans pf (zfEx_I (by omega))
          refine zOut_fr pf2 ?_
          refine ihH m' hm' (j + 1) G r' (zscc so cs (zpcc po cp c)) _ n1 n1' (cnt + 1) (by omega) (z_nx tk g2 nk.1 nk.2 j4) (fun w' hw' => ?_) hcs.1 ⟨by omega, fun f hf => ?_⟩ ⟨by rw [zI_eq], by rw [zI_ne (by decide), List.length_cons, Nat.add_sub_cancel]; exact p12, by rw [zI_ne (by decide)]; exact p13, zCo_fr pc (by rw [zI_ne (by decide)]) rfl rfl, zWt_fr pw (by rw [zI_ne (by decide)]) rfl, zTRx_fr r6 pf2, by omega⟩ (by omega) (by omega) (by omega) (by omega)
          · have := g3 w' hw'
            rw [zU_end hw' (by omega) (by omega) (zenv w') F1 F2 F3 F4 hc (by omega) (by omega), if_neg r0] at this
            exact this
          · have := gr f hf
            exact ⟨this.1, by omega, by omega⟩
        · have j0e : j = 400 := by omega
          subst j0e
          obtain ⟨v1, v2⟩ := zR_f p 2 (zt T 400).2.1
          have pc2 : zCo cb (zco (G :: r') ++ zscc so cs (zpcc po cp c)) (jsetI (jsetI p 162 13 2) 162 14 (zt T 400).2.1) := zCo_fr pc (by rw [zI_ne (by decide), zI_ne (by decide)]) rfl rfl
          have pw2 : zWt (zwt (G :: r')) (jsetI (jsetI p 162 13 2) 162 14 (zt T 400).2.1) := zWt_fr pw (by rw [zI_ne (by decide), zI_ne (by decide)]) rfl
          obtain ⟨G1, G2, G3⟩ := gr G List.mem_cons_self
          obtain ⟨u1, u2, u3, u4, u5, u6⟩ := G
          obtain ⟨q', e1', e2', e3', e4', e5'⟩ := z_out0 (cb := cb) (so := u1) (po := u4) G1.1 G1.2.2.1 (by rw [List.length_cons] at rl; omega) pw2 pc2 (by omega)
          rw [z_take4, z_jbd, z_goF (zTRx_fr r6 pf) p13 p11 g2 hl, z_jbd, hn2', z_ex2F (Or.inr v1), e1', z_jbd, clF _ _ _ _ _ (by decide)]
          refine Or.inr ⟨400, 2, q', Or.inr rfl, g2, rfl, rfl, by rw [e4'.2.2.1 13 (by decide) (by decide)]; exact v1, by rw [e4'.2.2.1 14 (by decide) (by decide)]; exact v2, zfEx_trans pf (zfEx_trans (zR_ff _ _ _) (zfEx_m e4'))⟩
      · rw [if_neg kr, if_neg (fun z => kr z.1), if_neg k17, if_neg r0, z_failC, z_jbd, z_takeF w j (by decide), z_jbd, z_failR r6 r3 r1 g2 hl, z_jbd, z_jbd]
        obtain ⟨v1, v2⟩ := zR_f wm 1 (zt T j).2.1
        have pc2 : zCo cb (zco ((so, cs, sm, po, cp, pm) :: G :: r') ++ c) (jsetI (jsetI wm 162 13 1) 162 14 (zt T j).2.1) := zCo_fr r4 (by rw [zI_ne (by decide), zI_ne (by decide)]) rfl rfl
        have pw2 : zWt (zwt ((so, cs, sm, po, cp, pm) :: G :: r')) (jsetI (jsetI wm 162 13 1) 162 14 (zt T j).2.1) := zWt_fr r5 (by rw [zI_ne (by decide), zI_ne (by decide)]) rfl
        obtain ⟨q', e1', e2', e3', e4', e5'⟩ := z_out0 (cb := cb) F1 F3 rl pw2 pc2 (by omega)
        rw [e1', z_jbd, clF _ _ _ _ _ (by decide)]
        exact Or.inr ⟨j, 1, q', Or.inl rfl, g2, rfl, rfl, by rw [e4'.2.2.1 13 (by decide) (by decide)]; exact v1, by rw [e4'.2.2.1 14 (by decide) (by decide)]; exact v2, zfEx_trans (zR_ff _ _ _) (zfEx_m e4')⟩
theorem z_DH (tk : zTok T) (hC : zTC T w) : ∀ m, zDst T cb i0 w m ∧ zHst T cb i0 w m := by
  intro m
  induction m with
  | zero => exact ⟨z_Dst tk hC 0 (fun m' h => by omega) (fun m' h => by omega), z_Hst tk hC 0 (fun m' h => by omega) (fun m' h => by omega)⟩
  | succ m ih =>
    have hD : ∀ m', m + 1 = m' + 1 → zDst T cb i0 w m' := fun m' h => by have : m' = m := by omega
                                                                         subst this; exact ih.1
    have hH : ∀ m', m + 1 = m' + 1 → zHst T cb i0 w m' := fun m' h => by have : m' = m := by omega
                                                                         subst this; exact ih.2
    exact ⟨z_Dst tk hC (m + 1) hD hH, z_Hst tk hC (m + 1) hD hH⟩
/-- both expressions, from a place without a fault -/
theorem z_expr (tk : zTok T) (hC : zTC T w) {wm : jw} {i : Nat} (hi : i < T.length) (hT : zTRx T wm) (h11 : wm.1 162 11 = nI i) (h12 : wm.1 162 12 = 0) (h13 : wm.1 162 13 = 0) (h26 : wm.1 162 26 = nI cb) (hcb : cb ≤ i) : zOut T cb i w wm (f_X7_parseExpression (zpA w i 0)) (f_X12_expression wm) := by
  have hl := tk.2.1
  unfold f_X7_parseExpression f_X12_expression
  rw [z_jl, z_jl, show (jsetI wm 162 30 0).1 162 12 = 0 from by rw [zI_ne (by decide)]; exact h12]
  rw [show l_X12_expression jfu 0 0 1 (jsetI wm 162 30 0) = l_X12_expression 39999 1 0 1 (jsetI wm 162 30 0) from z_ex0 (by rw [zI_ne (by decide)]; exact h13) 39999 0]
  have f : zfEx cb wm (jsetI wm 162 30 0) := zfEx_I (by omega)
  refine zOut_fr f ?_
  refine (z_DH tk hC (400 - i)).1 i zF0 [] _ jfu 39999 0 (by omega) hi (fun w' hw' => zU_start hw' i) ⟨by decide, fun q hq => ?_⟩ ⟨by rw [zI_ne (by decide)]; exact h11, by rw [zI_ne (by decide)]; exact h12, by rw [zI_ne (by decide)]; exact h13, ⟨by rw [zI_ne (by decide)]; exact h26, fun i x hx => by cases hx⟩, ⟨by rw [zI_eq]; rfl, fun i x hx => by cases hx⟩, zTRx_fr hT f, by show cb + 0 + 0 ≤ i; omega⟩ (show _ < 40000 by omega) (by omega) (by omega) (Nat.le_refl _)
  rw [List.mem_singleton.mp hq]
  exact ⟨⟨by decide, fun q => absurd rfl q, by decide, fun q => absurd rfl q⟩, by show 0 ≤ i; omega, by show 0 ≤ i; omega⟩
end
