section
/-! runs: both go on to the next put or cut -/
def zPcl (T : List zT) (N : Nat) (P : zPrg) (w : jw) : Prop := zTC T w ∧ (∀ p, p < N → qso P p = 3 → (w.2.2.2 13).getD (qps P p) 0 = nI (qps P (qmt P p)) ∧ (w.2.2.2 13).getD (qps P (qmt P p)) 0 = nI (qps P p)) ∧ ∀ p, p < N → qso P p = 2 → (w.2.2.2 15).getD (qps P p) 0 = if qac P p = true then 1 else 0
def zCs (T : List zT) (N : Nat) (P : zPrg) (k : Nat) (rr : List Int32) (w : jw) : Prop := zPcl T N P w ∧ w.1 48 4 = nI (qps P k) ∧ w.2.2.2 49 = rr
def zfGo (w w' : jw) : Prop := (∀ a, a ≠ 48 → w'.1 a = w.1 a) ∧ w'.1 48 5 = w.1 48 5 ∧ w'.2.1 = w.2.1 ∧ w'.2.2.1 = w.2.2.1 ∧ ∀ k, k ≠ 49 → w'.2.2.2 k = w.2.2.2 k
theorem zfGo_rfl (w : jw) : zfGo w w := ⟨fun _ _ => rfl, rfl, rfl, rfl, fun _ _ => rfl⟩
theorem zfGo_trans {a b c : jw} (h : zfGo a b) (g : zfGo b c) : zfGo a c := ⟨fun x hx => (g.1 x hx).trans (h.1 x hx), g.2.1.trans h.2.1, g.2.2.1.trans h.2.2.1, g.2.2.2.1.trans h.2.2.2.1, fun k hk => (g.2.2.2.2 k hk).trans (h.2.2.2.2 k hk)⟩
theorem zPcl_fr {T : List zT} {N : Nat} {P : zPrg} {w w' : jw} (h : zPcl T N P w) (f : ∀ k, k = 4 ∨ k = 6 ∨ k = 8 ∨ k = 13 ∨ k = 15 → w'.2.2.2 k = w.2.2.2 k) : zPcl T N P w' := ⟨⟨by rw [f 4 (by omega)]; exact h.1.1, by rw [f 6 (by omega)]; exact h.1.2.1, by rw [f 8 (by omega)]; exact h.1.2.2⟩, by rw [f 13 (by omega)]; exact h.2.1, by rw [f 15 (by omega)]; exact h.2.2⟩
def zMs (N : Nat) (P : zPrg) (rr : List Int32) (wm : jw) : Prop := zPm N P wm ∧ ∀ (i : Nat) (x : Int32), rr[i]? = some x → wm.2.1 181 i = x
variable {T : List zT} {N : Nat} {P : zPrg} {k c : Nat} {rr : List Int32} {w : jw}
theorem zPq_ps (hP : zPq T N P) (hl : T.length ≤ 401) : ∀ p, p ≤ N → qps P p ≤ 400 := fun p hp => by
  have mono : ∀ d, p + d ≤ N → qps P p ≤ qps P (p + d) := fun d => by
    induction d with
    | zero => intro _; exact Nat.le_refl _
    | succ d ih => intro hd; have := ih (by omega); have := hP.2.2.2.2.2 (p + d) (by omega); rw [show p + (d + 1) = p + d + 1 by omega]; omega
  have := mono (N - p) (by omega)
  rw [show p + (N - p) = N by omega] at this
  have := hP.2.2.2.2.1
  omega
theorem z_g0 (hl : qps P k ≤ 400) (h : zCs T N P k rr w) (hc : c < 10000) (n : Nat) : l_X10_goOn (n + 1) (nI c) w = jl (jsetI w 48 6 (zkC (zt T (qps P k)).1)) fun w2 => (if (zkC (zt T (qps P k)).1).toInt = 4 then jl (jsetI w2 48 4 ((w2.1 48 4) + 1)) fun w4 => jbd2 (f_X10_total 0 w4) fun x6 w7 => jl (jsetI w7 48 7 (fmq x6)) fun w8 => jbd2 (f_X10_total 0 w8) fun x10 w11 => jl (jsetI w11 48 8 x10) fun w12 => jl (jsetI w12 48 5 (w12.1 48 7)) fun w13 => jl (jsetI w13 48 4 ((w13.1 48 4) + 1)) fun w14 => some (true, w14) else (if (zkC (zt T (qps P k)).1).toInt = 5 then jl (jsetI w2 48 4 ((w2.1 48 4) + 1)) fun w16 => jbd2 (f_X10_total 0 w16) fun x18 w19 => jl (jsetI w19 48 7 (fmq x18)) fun w20 => jl (jsetI w20 48 4 ((w20.1 48 4) + 1)) fun w21 => some (true, w21) else (if (zkC (zt T (qps P k)).1).toInt = 6 then jbd (f_X10_beginDo w2) fun q23 => (l_X10_goOn n (nI (c + 1)) q23) else (if (zkC (zt T (qps P k)).1).toInt = 7 then jbd (f_X10_endRound w2) fun q26 => (l_X10_goOn n (nI (c + 1)) q26) else some (false, w2))))) := by
  obtain ⟨⟨h1, h2, h3⟩, h4, h5⟩ := h
  rw [show l_X10_goOn (n + 1) (nI c) w = _ from by unfold l_X10_goOn; exact rfl]
  rw [if_neg (show ¬ (10000 : Int32) ≤ nI c from nI_ge (b := 10000) hc (by decide)), h4, zTC_k h1 (by omega), z_jl, z_jl]
  rw [show (jsetI w 48 6 (zkC (zt T (qps P k)).1)).1 48 6 = zkC (zt T (qps P k)).1 from zI_eq _ _ _ _]
  simp only [z_jl, nI_1]
/-- a do whose rounds act -/
theorem zg_doA (hP : zPq T N P) (hl : T.length ≤ 401) (h : zCs T N P k rr w) (hk : k < N) (s : qso P k = 2) (a : qac P k = true) (hr : rr.length ≤ 3) (hc : c < 10000) : ∃ w', (∀ n, l_X10_goOn (n + 1) (nI c) w = l_X10_goOn n (nI (c + 1)) w') ∧ zCs T N P (k + 1) (rr ++ [0]) w' ∧ zfGo w w' := by
  have pk := zPq_ps hP hl k (by omega)
  have td := zPq_d hP hk s
  have h' := h
  obtain ⟨hp, h4, h5⟩ := h
  have e : f_X10_beginDo (jsetI w 48 6 (zkC (zt T (qps P k)).1)) = some (jsetI (jsetR (jsetI w 48 6 (zkC (zt T (qps P k)).1)) 49 (rr ++ [0])) 48 4 (nI (qps P (k + 1)))) := by
    unfold f_X10_beginDo
    rw [show (jsetI w 48 6 (zkC (zt T (qps P k)).1)).1 48 4 = nI (qps P k) from by rw [zI_ne (by decide)]; exact h4, show rat ((jsetI w 48 6 (zkC (zt T (qps P k)).1)).2.2.2 15) (nI (qps P k)) = 1 from by show rat (w.2.2.2 15) _ = 1; rw [z_rat (by omega), hp.2.2 k hk s, if_pos a], if_pos rfl, show ((jsetI w 48 6 (zkC (zt T (qps P k)).1)).2.2.2 49) = rr from h5, z_jg (decide_eq_true (by omega)), z_jl, z_jl]
    rw [show (jsetR (jsetI w 48 6 (zkC (zt T (qps P k)).1)) 49 (rr ++ [0])).1 48 4 = nI (qps P k) from by show (jsetI w 48 6 (zkC (zt T (qps P k)).1)).1 48 4 = _; rw [zI_ne (by decide)]; exact h4, nI_p3, td.2.2.2.1]
  refine ⟨jsetI (jsetR (jsetI w 48 6 (zkC (zt T (qps P k)).1)) 49 (rr ++ [0])) 48 4 (nI (qps P (k + 1))), fun n => ?_, ⟨zPcl_fr hp (fun j hj => z_jR2 (by omega)), zI_eq _ _ _ _, z_jR1 _ _ _⟩, ⟨fun x hx => by rw [z_jI2 hx]; show (jsetI w 48 6 (zkC (zt T (qps P k)).1)).1 x = _; rw [z_jI2 hx], by rw [zI_ne (by decide)]; show (jsetI w 48 6 (zkC (zt T (qps P k)).1)).1 48 5 = _; rw [zI_ne (by decide)], rfl, rfl, fun j hj => z_jR2 hj⟩⟩
  rw [z_g0 pk h' hc, z_jl, if_neg (by rw [td.2.1]; decide), if_neg (by rw [td.2.1]; decide), if_pos (by rw [td.2.1]; decide), e, z_jbd]
theorem zg_doN (hP : zPq T N P) (hl : T.length ≤ 401) (h : zCs T N P k rr w) (hk : k < N) (s : qso P k = 2) (a : qac P k = false) (hc : c < 10000) : ∃ w', (∀ n, l_X10_goOn (n + 1) (nI c) w = l_X10_goOn n (nI (c + 1)) w') ∧ zCs T N P (qmt P k + 1) rr w' ∧ zfGo w w' := by
  have pk := zPq_ps hP hl k (by omega)
  have td := zPq_d hP hk s
  obtain ⟨m1, m2, m3, m4⟩ := zPq_do hP hk s
  have te := zPq_e hP m2 m3
  have h' := h
  obtain ⟨hp, h4, h5⟩ := h
  have pt := (hp.2.1 _ m2 m3).2
  rw [m4] at pt
  have e : f_X10_beginDo (jsetI w 48 6 (zkC (zt T (qps P k)).1)) = some (jsetI (jsetI w 48 6 (zkC (zt T (qps P k)).1)) 48 4 (nI (qps P (qmt P k + 1)))) := by
    unfold f_X10_beginDo
    rw [show (jsetI w 48 6 (zkC (zt T (qps P k)).1)).1 48 4 = nI (qps P k) from by rw [zI_ne (by decide)]; exact h4, show rat ((jsetI w 48 6 (zkC (zt T (qps P k)).1)).2.2.2 15) (nI (qps P k)) = 0 from by show rat (w.2.2.2 15) _ = 0; rw [z_rat (by omega), hp.2.2 k hk s, if_neg (by rw [a]; decide)], if_neg (by decide), show rat ((jsetI w 48 6 (zkC (zt T (qps P k)).1)).2.2.2 13) (nI (qps P k)) = nI (qps P (qmt P k)) from by show rat (w.2.2.2 13) _ = _; rw [z_rat (by omega), pt], nI_p2, z_jl, te.2.2.1]
  refine ⟨jsetI (jsetI w 48 6 (zkC (zt T (qps P k)).1)) 48 4 (nI (qps P (qmt P k + 1))), fun n => ?_, ⟨zPcl_fr hp (fun j hj => rfl), zI_eq _ _ _ _, h5⟩, ⟨fun x hx => by rw [z_jI2 hx, z_jI2 hx], by rw [zI_ne (by decide), zI_ne (by decide)], rfl, rfl, fun j hj => rfl⟩⟩
  rw [z_g0 pk h' hc, z_jl, if_neg (by rw [td.2.1]; decide), if_neg (by rw [td.2.1]; decide), if_pos (by rw [td.2.1]; decide), e, z_jbd]
theorem zg_end {r0 : List Int32} {x : Int32} (hP : zPq T N P) (hl : T.length ≤ 401) (h : zCs T N P k (r0 ++ [x]) w) (hk : k < N) (s : qso P k = 3) (hr : r0.length ≤ 3) (hc : c < 10000) : ∃ w', (∀ n, l_X10_goOn (n + 1) (nI c) w = l_X10_goOn n (nI (c + 1)) w') ∧ (if qvv P (qmt P k) ≤ x + 1 then zCs T N P (k + 1) r0 w' else zCs T N P (qmt P k + 1) (r0 ++ [x + 1]) w') ∧ zfGo w w' := by
  have pk := zPq_ps hP hl k (by omega)
  have te := zPq_e hP hk s
  have ml := te.2.2.2.1
  have pm := zPq_ps hP hl (qmt P k) (by omega)
  have td := zPq_d hP (show qmt P k < N by omega) te.2.2.2.2.2.1
  have h' := h
  obtain ⟨hp, h4, h5⟩ := h
  have pt := (hp.2.1 k hk s).1
  have b4 : (jsetI w 48 6 (zkC (zt T (qps P k)).1)).1 48 4 = nI (qps P k) := by rw [zI_ne (by decide)]; exact h4
  have r49 : (jsetI w 48 6 (zkC (zt T (qps P k)).1)).2.2.2 49 = r0 ++ [x] := h5
  have rl : nI (r0 ++ [x]).length - 1 = nI r0.length := by rw [List.length_append]; exact pk_sub (a := r0.length + 1) (b := 1) (by omega)
  have rx : rat (r0 ++ [x]) (nI r0.length) = x := by
    rw [z_rat (by omega), List.getD_eq_getElem?_getD, List.getElem?_append_right (Nat.le_refl _), Nat.sub_self]; rfl
  have rv : rat ((jsetI w 48 6 (zkC (zt T (qps P k)).1)).2.2.2 6) (nI (qps P (qmt P k) + 1)) = qvv P (qmt P k) := by
    show rat (w.2.2.2 6) _ = _
    rw [zTC_v hp.1 (by omega), td.2.2.1]
  have rc : rcut (r0 ++ [x]) (nI r0.length) = r0 := by
    unfold rcut
    rw [if_neg (nI_pos (by omega)), nI_clamp (by omega), List.take_left']
    rfl
  have rs : rset (r0 ++ [x]) (nI r0.length) (x + 1) = r0 ++ [x + 1] := by
    rw [z_rset (by omega), List.set_append_right _ _ (Nat.le_refl _), Nat.sub_self]
    rfl
  have e : f_X10_endRound (jsetI w 48 6 (zkC (zt T (qps P k)).1)) = if qvv P (qmt P k) ≤ x + 1 then some (jsetI (jsetR (jsetI w 48 6 (zkC (zt T (qps P k)).1)) 49 r0) 48 4 (nI (qps P (k + 1)))) else some (jsetI (jsetR (jsetI w 48 6 (zkC (zt T (qps P k)).1)) 49 (r0 ++ [x + 1])) 48 4 (nI (qps P (qmt P k + 1)))) := by
    unfold f_X10_endRound
    rw [b4, show rat ((jsetI w 48 6 (zkC (zt T (qps P k)).1)).2.2.2 13) (nI (qps P k)) = nI (qps P (qmt P k)) from by show rat (w.2.2.2 13) _ = _; rw [z_rat (by omega), pt], z_jl, r49, rl, rx, z_jl, nI_1, rv, rc, rs, nI_p3, td.2.2.2.1, z_jl, z_jl, z_jl, z_jl]
    rw [show (jsetR (jsetI w 48 6 (zkC (zt T (qps P k)).1)) 49 r0).1 48 4 = nI (qps P k) from b4, nI_p2, te.2.2.1]
  have st : ∀ n, l_X10_goOn (n + 1) (nI c) w = jbd (f_X10_endRound (jsetI w 48 6 (zkC (zt T (qps P k)).1))) fun q26 => (l_X10_goOn n (nI (c + 1)) q26) := fun n => by
    rw [z_g0 pk h' hc, z_jl, if_neg (by rw [te.2.1]; decide), if_neg (by rw [te.2.1]; decide), if_neg (by rw [te.2.1]; decide), if_pos (by rw [te.2.1]; decide)]
  have fr : ∀ (L : List Int32) (y : Int32), zfGo w (jsetI (jsetR (jsetI w 48 6 (zkC (zt T (qps P k)).1)) 49 L) 48 4 y) := fun L y => ⟨fun z hz => by rw [z_jI2 hz]; show (jsetI w 48 6 (zkC (zt T (qps P k)).1)).1 z = _; rw [z_jI2 hz], by rw [zI_ne (by decide)]; show (jsetI w 48 6 (zkC (zt T (qps P k)).1)).1 48 5 = _; rw [zI_ne (by decide)], rfl, rfl, fun j hj => z_jR2 hj⟩
  by_cases d : qvv P (qmt P k) ≤ x + 1
  · refine ⟨jsetI (jsetR (jsetI w 48 6 (zkC (zt T (qps P k)).1)) 49 r0) 48 4 (nI (qps P (k + 1))), fun n => by rw [st, e, if_pos d, z_jbd], ?_, fr _ _⟩
    rw [if_pos d]
    exact ⟨zPcl_fr hp (fun j hj => z_jR2 (by omega)), zI_eq _ _ _ _, z_jR1 _ _ _⟩
  · refine ⟨jsetI (jsetR (jsetI w 48 6 (zkC (zt T (qps P k)).1)) 49 (r0 ++ [x + 1])) 48 4 (nI (qps P (qmt P k + 1))), fun n => by rw [st, e, if_neg d, z_jbd], ?_, fr _ _⟩
    rw [if_neg d]
    exact ⟨zPcl_fr hp (fun j hj => z_jR2 (by omega)), zI_eq _ _ _ _, z_jR1 _ _ _⟩
end
