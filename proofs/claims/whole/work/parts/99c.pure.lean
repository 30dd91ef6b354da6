section
/-! a term: both parsers to its end -/
theorem zI_ne {w : jw} {a j k : Nat} {x : Int32} (h : k ≠ j) : (jsetI w a j x).1 a k = w.1 a k := by rw [z_jI1, zup_ne h]
theorem zI_eq (w : jw) (a j : Nat) (x : Int32) : (jsetI w a j x).1 a j = x := by rw [z_jI1, zup_eq]
theorem zWt_fr {l : List Int32} {w w' : jw} (h : zWt l w) (h1 : w'.1 162 30 = w.1 162 30) (h2 : w'.2.1 178 = w.2.1 178) : zWt l w' := ⟨by rw [h1]; exact h.1, by rw [h2]; exact h.2⟩
theorem zCo_fr {cb : Nat} {cc : List zcd1} {w w' : jw} (h : zCo cb cc w) (h1 : w'.1 162 26 = w.1 162 26) (h2 : w'.2.1 176 = w.2.1 176) (h3 : w'.2.1 177 = w.2.1 177) : zCo cb cc w' := ⟨by rw [h1]; exact h.1, fun i x hx => by rw [h2, h3]; exact h.2 i x hx⟩
theorem zWt_push {l : List Int32} {w : jw} (h : zWt l w) (x : Int32) : zWt (x :: l) (jsetI (jsetX w 178 l.length x) 162 30 (nI (l.length + 1))) := by
  refine ⟨by rw [zI_eq]; rfl, fun j y hy => ?_⟩
  show (jsetX w 178 l.length x).2.1 178 _ = y
  rw [z_jX1, List.length_cons]
  cases j with
  | zero => cases hy; rw [show l.length + 1 - 1 - 0 = l.length by omega, zup_eq]
  | succ j =>
    have : j + 1 < l.length + 1 := (List.getElem?_eq_some_iff.mp hy).1
    rw [zup_ne (by omega), show l.length + 1 - 1 - (j + 1) = l.length - 1 - j by omega]
    exact h.2 j y hy
theorem z_kne {T : List zT} {i : Nat} {b : zK} (h : (zt T i).1 = b) (hb : b ≠ kStop ∧ b ≠ kNo) : (zt T i).1 ≠ kStop ∧ (zt T i).1 ≠ kNo := by rw [h]; exact hb
theorem zR_r {T : List zT} {w : jw} (hT : zTRx T w) {i : Nat} (hi : i < T.length) (h : (zt T i).1 ≠ kNo) : w.2.1 165 i = zkR (zt T i).1 := by
  rcases (hT i _ (zt_some hi)).1 with z | ⟨z, _⟩
  · exact z
  · exact absurd z h
def zDst (T : List zT) (cb i0 : Nat) (w : jw) (m : Nat) : Prop := ∀ (i : Nat) (F : zFm) (r : List zFm) (wm : jw) (n n' cnt : Nat), i + m = 400 → i < T.length → zDu T i0 (F :: r) i → zFr (F :: r) i → zRs T cb (F :: r) (zco (F :: r)) i wm → m + 1 < n → 3 * m + 3 < n' → cnt ≤ i → i0 ≤ i → zOut T cb i0 w wm (l_X7_parseExpression n (nI r.length) 1 (nI cnt) (zpA w i 0)) (l_X12_expression n' 1 0 1 wm)
def zHst (T : List zT) (cb i0 : Nat) (w : jw) (m : Nat) : Prop := ∀ (j : Nat) (F : zFm) (r : List zFm) (c : List zcd1) (wm : jw) (n n' cnt : Nat), j + m = 400 → j < T.length → zHa T i0 (F :: r) c j → zCd c → zFr (F :: r) (j - 1) → zRs T cb (F :: r) (zco (F :: r) ++ c) j wm → m + 1 < n → 3 * m + 3 < n' → cnt ≤ j → i0 < j → zOut T cb i0 w wm (l_X7_parseExpression n (nI r.length) 0 (nI cnt) (zpA w j 0)) (l_X12_expression n' 2 0 1 wm)
variable {T : List zT} {cb i0 : Nat} {w : jw}
theorem z_Dst (tk : zTok T) (hC : zTC T w) (m : Nat) (ihD : ∀ m', m = m' + 1 → zDst T cb i0 w m') (ihH : ∀ m', m = m' + 1 → zHst T cb i0 w m') : zDst T cb i0 w m := by
  intro i F r wm n n' cnt g1 g2 g3 g4 g5 g6 g7 g8 g9
  have hl := tk.2.1
  obtain ⟨r1, r2, r3, r4, r5, r6, r7⟩ := g5
  have rl : r.length ≤ 6 := by have := g4.1; rw [List.length_cons] at this; omega
  have wl := zwt_len (F :: r)
  rw [List.length_cons] at wl
  obtain ⟨n1, rfl⟩ : ∃ n1, n = n1 + 1 := ⟨n - 1, by omega⟩
  obtain ⟨n1', rfl⟩ : ∃ n1', n' = n1' + 1 := ⟨n' - 1, by omega⟩
  obtain ⟨n2', hn2'⟩ : ∃ n2', n1' = n2' + 1 := ⟨n1' - 1, by omega⟩
  rw [z_peDue hC (by omega) (by omega), z_ex1 r6 r3 r1 g2 hl]
  have r2' : wm.1 162 12 = nI r.length := by rw [r2, List.length_cons, Nat.add_sub_cancel]
  by_cases c : (zt T i).1 = kLp
  · rw [if_pos c, if_pos c, nI_1, r2']
    by_cases d6 : r.length < 6
    · rw [if_pos (show nI (r.length + 1) ≤ 6 from nI_le (b := 6) (by omega) (by decide)), z_jbd, if_neg (show ¬ nI r.length = 6 from fun z => by have := (nI_eq (a := r.length) (b := 6) (by omega) (by decide)).mp z; omega), z_jbd, z_jl, r2', nI_1]
      have a11 : (jsetI wm 162 12 (nI (r.length + 1))).1 162 11 = nI i := by rw [zI_ne (by decide)]; exact r1
      have a13 : (jsetI wm 162 12 (nI (r.length + 1))).1 162 13 = 0 := by rw [zI_ne (by decide)]; exact r3
      by_cases i4 : i < 400
      · obtain ⟨m', hm'⟩ : ∃ m', m = m' + 1 := ⟨m - 1, by omega⟩
        rw [z_takeC w i4, z_jbd, z_goR a11 i4, z_jbd]
        have e30 : (jsetI (jsetI wm 162 12 (nI (r.length + 1))) 162 11 (nI (i + 1))).1 162 30 = nI (zwt (F :: r)).length := by rw [zI_ne (by decide), zI_ne (by decide)]; exact r5.1
        rw [e30, z_jg (z_in (by omega) (by decide)), nI_clamp (by omega), z_jl, z_jl]
        rw [show (jsetX (jsetI (jsetI wm 162 12 (nI (r.length + 1))) 162 11 (nI (i + 1))) 178 (zwt (F :: r)).length 6).1 162 30 = nI (zwt (F :: r)).length from e30, nI_1]
        have fr1 : zfEx cb wm (jsetI (jsetI wm 162 12 (nI (r.length + 1))) 162 11 (nI (i + 1))) := zfEx_trans (zfEx_I (by omega)) (zfEx_I (by omega))
        have fr2 : zfEx cb wm (jsetI (jsetX (jsetI (jsetI wm 162 12 (nI (r.length + 1))) 162 11 (nI (i + 1))) 178 (zwt (F :: r)).length 6) 162 30 (nI ((zwt (F :: r)).length + 1))) := zfEx_trans fr1 (zfEx_trans zfEx_X (zfEx_I (by omega)))
        refine zOut_fr fr2 ?_
        have wt0 : zWt (zwt (F :: r)) (jsetI (jsetI wm 162 12 (nI (r.length + 1))) 162 11 (nI (i + 1))) := zWt_fr r5 (by rw [zI_ne (by decide), zI_ne (by decide)]) rfl
        refine ihD m' hm' (i + 1) zF0 (F :: r) _ n1 n1' (cnt + 1) (by omega) (z_nx tk g2 (z_kne c (by decide)).1 (z_kne c (by decide)).2 i4) (fun w' hw' => ?_) ⟨by rw [List.length_cons, List.length_cons]; omega, fun f hf => ?_⟩ ⟨?_, ?_, ?_, ?_, ?_, zTRx_fr r6 fr2, ?_⟩ (by omega) (by omega) (by omega) (by omega)
        · have := g3 w' hw'
          rw [List.length_cons, Nat.add_sub_cancel, zU_open hw' (by omega) c d6] at this
          exact this
        · rcases List.mem_cons.mp hf with z | z
          · rw [z]
            exact ⟨⟨by decide, fun q => absurd rfl q, by decide, fun q => absurd rfl q⟩, by show 0 ≤ _; omega, by show 0 ≤ _; omega⟩
          · have := g4.2 f z
            exact ⟨this.1, by omega, by omega⟩
        · rw [zI_ne (by decide)]
          show (jsetI (jsetI wm 162 12 (nI (r.length + 1))) 162 11 (nI (i + 1))).1 162 11 = _
          rw [zI_eq]
        · rw [zI_ne (by decide)]
          show (jsetI (jsetI wm 162 12 (nI (r.length + 1))) 162 11 (nI (i + 1))).1 162 12 = _
          rw [zI_ne (by decide), zI_eq]
          rfl
        · rw [zI_ne (by decide)]
          show (jsetI (jsetI wm 162 12 (nI (r.length + 1))) 162 11 (nI (i + 1))).1 162 13 = _
          rw [zI_ne (by decide)]
          exact a13
        · rw [show zco (zF0 :: F :: r) = zco (F :: r) from by show zco (F :: r) ++ [] ++ [] = _; rw [List.append_nil, List.append_nil]]
          refine zCo_fr r4 ?_ (z_jX2 (by decide)) (z_jX2 (by decide))
          rw [zI_ne (by decide)]
          show (jsetI (jsetI wm 162 12 (nI (r.length + 1))) 162 11 (nI (i + 1))).1 162 26 = _
          rw [zI_ne (by decide), zI_ne (by decide)]
        · exact zWt_push wt0 6
        · rw [show zco (zF0 :: F :: r) = zco (F :: r) from by show zco (F :: r) ++ [] ++ [] = _; rw [List.append_nil, List.append_nil]]
          show cb + (zco (F :: r)).length + (zno (F :: r) + 0 + 0) ≤ i + 1
          omega
      · have i0e : i = 400 := by omega
        subst i0e
        have fT : zTRx T (jsetI wm 162 12 (nI (r.length + 1))) := zTRx_fr (cb := cb) r6 (zfEx_I (by omega))
        rw [z_take4, z_jbd, z_goF fT a13 a11 g2 hl, z_jbd]
        obtain ⟨v1, v2⟩ := zR_f (jsetI wm 162 12 (nI (r.length + 1))) 2 (zt T 400).2.1
        have vf : zfEx cb wm (jsetI (jsetI (jsetI wm 162 12 (nI (r.length + 1))) 162 13 2) 162 14 (zt T 400).2.1) := zfEx_trans (zfEx_I (by omega)) (zR_ff _ _ _)
        have v30 : (jsetI (jsetI (jsetI wm 162 12 (nI (r.length + 1))) 162 13 2) 162 14 (zt T 400).2.1).1 162 30 = nI (zwt (F :: r)).length := by rw [zI_ne (by decide), zI_ne (by decide), zI_ne (by decide)]; exact r5.1
        generalize hq : (jsetI (jsetI (jsetI wm 162 12 (nI (r.length + 1))) 162 13 2) 162 14 (zt T 400).2.1) = q at v1 v2 vf v30 ⊢
        obtain ⟨k1, hk1⟩ : ∃ k1, n1 = k1 + 1 ∨ n1 = 0 := ⟨n1 - 1, by omega⟩
        rw [v30, z_jg (z_in (by omega) (by decide)), nI_clamp (by omega), z_jl, z_jl, hn2']
        rw [z_ex1F (Or.inr (by rw [zI_ne (by decide)]; exact v1))]
        have cl : ∀ x y z, l_X7_parseExpression n1 x y z (zpA w 400 2) = some (zpA w 400 2) := fun x y z => by
          obtain ⟨k1, rfl⟩ : ∃ k1, n1 = k1 + 1 := ⟨n1 - 1, by omega⟩
          exact z_peF w 400 k1 x y z (by decide)
        rw [cl]
        refine Or.inr ⟨400, 2, _, Or.inr rfl, g2, rfl, rfl, ?_, ?_, zfEx_trans vf (zfEx_trans zfEx_X (zfEx_I (by omega)))⟩
        · rw [zI_ne (by decide)]; exact v1
        · rw [zI_ne (by decide)]; exact v2
    · have d7 : r.length = 6 := by omega
      rw [if_neg (show ¬ nI (r.length + 1) ≤ 6 from nI_ge (a := 6) (by omega) (by omega)), z_failC, z_jbd, z_jbd, z_takeF w i (by decide), z_jbd, if_pos (show nI r.length = 6 by rw [d7]; rfl), z_failR r6 r3 r1 g2 hl, z_jbd, z_jbd, z_jl]
      obtain ⟨v1, v2⟩ := zR_f wm 2 (zt T i).2.1
      have vf : zfEx cb wm (jsetI (jsetI wm 162 13 2) 162 14 (zt T i).2.1) := zR_ff _ _ _
      have v30 : (jsetI (jsetI wm 162 13 2) 162 14 (zt T i).2.1).1 162 30 = nI (zwt (F :: r)).length := by rw [zI_ne (by decide), zI_ne (by decide)]; exact r5.1
      have v11 : (jsetI (jsetI wm 162 13 2) 162 14 (zt T i).2.1).1 162 11 = nI i := by rw [zI_ne (by decide), zI_ne (by decide)]; exact r1
      generalize hq : (jsetI (jsetI wm 162 13 2) 162 14 (zt T i).2.1) = q at v1 v2 vf v30 v11 ⊢
      have go : ∃ q2, f_X12_goesOn (jsetI q 162 12 (q.1 162 12 + 1)) = some q2 ∧ q2.1 162 13 = 2 ∧ q2.1 162 14 = (zt T i).2.1 ∧ q2.1 162 30 = nI (zwt (F :: r)).length ∧ zfEx cb q q2 := by
        have u11 : (jsetI q 162 12 (q.1 162 12 + 1)).1 162 11 = nI i := by rw [zI_ne (by decide)]; exact v11
        by_cases i4 : i < 400
        · exact ⟨_, z_goR u11 i4, by rw [zI_ne (by decide), zI_ne (by decide)]; exact v1, by rw [zI_ne (by decide), zI_ne (by decide)]; exact v2, by rw [zI_ne (by decide), zI_ne (by decide)]; exact v30, zfEx_trans (zfEx_I (by omega)) (zfEx_I (by omega))⟩
        · have : i = 400 := by omega
          subst this
          refine ⟨jsetI q 162 12 (q.1 162 12 + 1), ?_, by rw [zI_ne (by decide)]; exact v1, by rw [zI_ne (by decide)]; exact v2, by rw [zI_ne (by decide)]; exact v30, zfEx_I (by omega)⟩
          rw [z_goR4 u11, z_failR2 (by rw [zI_ne (by decide), v1]; decide), z_jbd]
      obtain ⟨q2, q3, q4, q5, q6, q7⟩ := go
      rw [q3, z_jbd, q6, z_jg (z_in (by omega) (by decide)), nI_clamp (by omega), z_jl, z_jl, hn2']
      rw [z_ex1F (Or.inr (by rw [zI_ne (by decide)]; exact q4))]
      have cl : ∀ x y z, l_X7_parseExpression n1 x y z (zpA w i 2) = some (zpA w i 2) := fun x y z => by
        by_cases n0 : n1 = 0
        · omega
        · obtain ⟨k1, rfl⟩ : ∃ k1, n1 = k1 + 1 := ⟨n1 - 1, by omega⟩
          exact z_peF w i k1 x y z (by decide)
      rw [cl]
      refine Or.inr ⟨i, 2, _, Or.inr rfl, g2, rfl, rfl, ?_, ?_, zfEx_trans vf (zfEx_trans q7 (zfEx_trans zfEx_X (zfEx_I (by omega))))⟩
      · rw [zI_ne (by decide)]; exact q4
      · rw [zI_ne (by decide)]; exact q5
  · rw [if_neg c, if_neg c, z_unitR r6 r3 r1 g2 hl]
    have unit : ∀ (a v : Int32), zCd [(a, v)] → (zt T i).1 ≠ kStop ∧ (zt T i).1 ≠ kNo → (∀ w', zTC T w' → f_X10_unit (f_X10_totalN (7 - ((F :: r).length - 1))) (nI ((F :: r).length - 1)) (zat w' i) = some (zvl (zenv w') [(a, v)], zat w' (i + 1))) → zOut T cb i0 w wm (jbd (f_X7_take (zpA w i 0)) fun q96 => l_X7_parseExpression n1 (nI r.length) 0 (nI (cnt + 1)) q96) (jbd (jbd (f_X12_emit a v wm) fun q17 => jbd (f_X12_goesOn q17) fun q18 => some q18) fun q7 => (if (q7.1 162 13) ≤ 0 then (l_X12_expression n1' 2 0 1 q7) else some q7)) := fun a v hc nk hu => by
      obtain ⟨w1, e1, e2, e3, e4⟩ := z_emit r4 (by omega) a v
      have f11 : w1.1 162 11 = nI i := by rw [e3.2.2.1 11 (by decide) (by decide)]; exact r1
      have f13 : w1.1 162 13 = 0 := by rw [e3.2.2.1 13 (by decide) (by decide)]; exact r3
      have fT := zTRx_fr r6 (zfEx_m e3)
      rw [e1, z_jbd]
      by_cases i4 : i < 400
      · obtain ⟨m', hm'⟩ : ∃ m', m = m' + 1 := ⟨m - 1, by omega⟩
        rw [z_takeC w i4, z_jbd, z_goR f11 i4, z_jbd, z_jbd, if_pos (by rw [zI_ne (by decide), f13]; decide)]
        have fr2 : zfEx cb wm (jsetI w1 162 11 (nI (i + 1))) := zfEx_trans (zfEx_m e3) (zfEx_I (by omega))
        refine zOut_fr fr2 ?_
        refine ihH m' hm' (i + 1) F r [(a, v)] _ n1 n1' (cnt + 1) (by omega) (z_nx tk g2 nk.1 nk.2 i4) (fun w' hw' => ?_) hc ⟨g4.1, fun f hf => ?_⟩ ⟨by rw [zI_eq], ?_, by rw [zI_ne (by decide)]; exact f13, zCo_fr e2 (by rw [zI_ne (by decide)]) rfl rfl, zWt_fr r5 (by rw [zI_ne (by decide), e4]) (e3.2.2.2.1 178 (by decide) (by decide)), zTRx_fr r6 fr2, ?_⟩ (by omega) (by omega) (by omega) (by omega)
        · have := g3 w' hw'
          rw [hu w' hw', z_jbd2] at this
          exact this
        · exact g4.2 f hf
        · rw [zI_ne (by decide), e3.2.2.1 12 (by decide) (by decide)]; exact r2
        · rw [List.length_append, List.length_singleton]; omega
      · have i0e : i = 400 := by omega
        subst i0e
        rw [z_take4, z_jbd, z_goF fT f13 f11 g2 hl, z_jbd, z_jbd]
        obtain ⟨v1, v2⟩ := zR_f w1 2 (zt T 400).2.1
        rw [if_neg (by rw [v1]; decide)]
        have cl : ∀ x y z, l_X7_parseExpression n1 x y z (zpA w 400 2) = some (zpA w 400 2) := fun x y z => by
          obtain ⟨k1, rfl⟩ : ∃ k1, n1 = k1 + 1 := ⟨n1 - 1, by omega⟩
          exact z_peF w 400 k1 x y z (by decide)
        rw [cl]
        exact Or.inr ⟨400, 2, _, Or.inr rfl, g2, rfl, rfl, v1, v2, zfEx_trans (zfEx_m e3) (zR_ff _ _ _)⟩
    by_cases k1 : (zt T i).1 = kInt
    · rw [if_pos k1, if_pos (Or.inl k1)]
      exact unit 0 (zt T i).2.2 (zCd_int _) (z_kne k1 (by decide)) (fun w' hw' => by rw [z_unit_i hw' (by omega) k1, zvl_int])
    · rw [if_neg k1]
      by_cases k2 : 8 ≤ (zt T i).1.1 ∧ (zt T i).1.1 ≤ 13
      · rw [if_pos k2, if_pos (Or.inr k2)]
        exact unit 1 (nI ((zt T i).1.1 - 8)) (zCd_var (by omega)) ⟨fun z => by rw [z] at k2; exact absurd k2 (by decide), fun z => by rw [z] at k2; exact absurd k2 (by decide)⟩ (fun w' hw' => by rw [z_unit_v hw' (by omega) k2, zvl_var _ (by omega)])
      · rw [if_neg k2, if_neg (by rintro (z | z); exact k1 z; exact k2 z), z_failC, z_jbd, z_takeF w i (by decide), z_jbd, z_failR r6 r3 r1 g2 hl, z_jbd, z_jbd]
        obtain ⟨v1, v2⟩ := zR_f wm 1 (zt T i).2.1
        rw [if_neg (by rw [v1]; decide)]
        have cl : ∀ x y z, l_X7_parseExpression n1 x y z (zpA w i 1) = some (zpA w i 1) := fun x y z => by
          obtain ⟨k1, rfl⟩ : ∃ k1, n1 = k1 + 1 := ⟨n1 - 1, by omega⟩
          exact z_peF w i k1 x y z (by decide)
        rw [cl]
        exact Or.inr ⟨i, 1, _, Or.inl rfl, g2, rfl, rfl, v1, v2, zR_ff _ _ _⟩
end
