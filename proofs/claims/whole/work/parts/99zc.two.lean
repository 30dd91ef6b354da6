/-! the two makers that the law calls -/
theorem arrV_to {cI : ClassId} {N : Nat} {f g : Nat → Value} (h : ∀ j, j < N → f j = g j) : arrV cI N f = arrV cI N g := by
  unfold arrV
  congr 1
  apply Array.ext
  · simp
  · intro i h1 h2
    simp only [Array.getElem_ofFn]
    exact h i (by simpa using h1)
/-- the bytes that are left are those of a world -/
theorem jy_sw {E : jE} {M : jm} {k pc b m z : Nat} {ls : List (Nat × Value)} {H0 : Heap} {xs : jxs} {w w' : jw} {h : jh} (hX : jX E M k pc ls [] w none w') (hO : jOk E w h) (hm : h.2.2.1 = m) (hz : h.2.2.2 = z) (hR : ∀ H : Heap, jraw E b H0 m xs H → jRel E w h H) :
    ∃ h' : jh, jOk E w' h' ∧ h.2.2.1 ≤ h'.2.2.1 ∧ h.2.2.2 ≤ h'.2.2.2 ∧ jY E M k pc ls [] b H0 m z xs h'.2.2.1 h'.2.2.2 (jRel E w' h') := by
  subst hm
  subst hz
  obtain ⟨h', o1, c1, s1, a4⟩ := hX h hO
  refine ⟨h', o1, c1, s1, c1, s1, fun p e R s mm args below meth c H locs cells slots lsA Q b1 b2 b3 b4 b5 b6 b7 b8 b9 b10 => ?_⟩
  refine a4 p e R s mm args below meth c H locs cells slots lsA Q b1 (hR H b3) b4 b5 b6 b7 b8 b9 (fun H1 locs1 pc1 lsA1 st1 d1 d2 d3 => ?_)
  obtain ⟨d1, rfl⟩ := d1
  exact b10 H1 locs1 pc1 lsA1 d1 d2 d3
def jw0 : jw := (fun k j => if k = 0 ∧ j = 9 then -1 else (jgo k j).2, fun _ _ => 0, fun _ _ => 0, fun _ => [])
theorem jv_gv (B : Nat) (w : jw) (k j : Nat) : jv B w k j = jgv B (sref k j, w.1 k j) := by
  unfold jv jgv
  cases sref k j <;> rfl
theorem kd_rows : (List.range 162).all (fun k => match kd k with
  | some q => if 6 ≤ q.1 then decide (k + 1 < 162) && (kd (k + 1)).isNone && decide (q.2 ≤ 1000) && decide (1 ≤ q.2) else true
  | none => true) = true := by decide +kernel
theorem kdy_row {k : Nat} {q : Nat × Nat} (h : k < 162) (hk : kd k = some q) (h6 : 6 ≤ q.1) : k + 1 < 162 ∧ kd (k + 1) = none ∧ q.2 ≤ 1000 ∧ 1 ≤ q.2 := by
  have z := List.all_eq_true.mp kd_rows k (List.mem_range.mpr h)
  rw [hk] at z
  simp only [h6, if_true, Bool.and_eq_true, decide_eq_true_eq, Option.isNone_iff_eq_none] at z
  exact ⟨z.1.1.1, z.1.1.2, z.1.2, z.2⟩
theorem kd_lts : kdl.all (fun q => decide (q.1 < 193)) = true := by decide +kernel
theorem kdy_lt {k : Nat} {q : Nat × Nat} (h : kd k = some q) : k < 193 := by
  unfold kd at h
  cases hf : kdl.find? (fun q => q.1 == k) with
  | none => rw [hf] at h; cases h
  | some x =>
    have h1 := List.find?_some hf
    have h2 := List.all_eq_true.mp kd_lts x (List.mem_of_find?_eq_some hf)
    have e1 : x.1 = k := by simpa using h1
    rw [← e1]
    exact of_decide_eq_true h2
theorem kd_his : (List.range 31).all (fun k => match kd (162 + k) with
  | some q => decide (q.1 < 5)
  | none => true) = true := by decide +kernel
theorem kdy_hi {k : Nat} {q : Nat × Nat} (h : 162 ≤ k) (hk : kd k = some q) : q.1 < 5 := by
  have h2 := kdy_lt hk
  have z := List.all_eq_true.mp kd_his (k - 162) (List.mem_range.mpr (by omega))
  rw [show 162 + (k - 162) = k by omega, hk] at z
  exact of_decide_eq_true z
theorem kd_no6 : (List.range 30).all (fun k => match kd (163 + k) with
  | some q => decide (q ≠ (0, 6))
  | none => true) = true := by decide +kernel
theorem jkd_nf {E : jE} {k : Nat} {q : Nat × Nat} (hf : ¬ jfull E) (h : jkd E k = some q) : k < 162 := by
  unfold jkd at h
  split at h
  · rename_i g
    rcases g with g | g
    · exact g
    · exact absurd g hf
  · cases h
theorem jh0_room {k : Nat} {q : Nat × Nat} (h : kd k = some q) : jh0.2.1 k = q.2 := by
  show (match kd k with
  | some q => q.2
  | none => 0) = _
  rw [h]
theorem jOk0 {E : jE} (hf : ¬ jfull E) : jOk E jw0 jh0 := by
  refine ⟨fun k q hk h6 => ?_, fun k n hk => ?_, fun k n hk => ?_, fun k k' q q' _ _ _ _ e => ?_, fun k q hk => jkd_nf hf hk, ?_, ?_, fun _ => rfl⟩
  · obtain ⟨r1, r2, r3, r4⟩ := kdy_row (jkd_nf hf hk) (jkd_kd hk) h6
    refine ⟨Nat.zero_le _, by rw [jh0_room (jkd_kd hk)]; exact Nat.le_refl _, r1, ?_⟩
    show jkd E (k + 1) = none
    unfold jkd
    rw [r2]
    split <;> rfl
  · obtain ⟨r1, r2, r3, r4⟩ := kdy_row (jkd_nf hf hk) (jkd_kd hk) (Nat.le_refl 6)
    rw [jh0_room (jkd_kd hk)]
    exact ⟨Nat.le_trans r3 (by decide), 0, by simp⟩
  · obtain ⟨r1, r2, r3, r4⟩ := kdy_row (jkd_nf hf hk) (jkd_kd hk) (show 6 ≤ 7 by decide)
    rw [jh0_room (jkd_kd hk)]
    exact Nat.le_trans r3 (by decide)
  · have : k + 1 = k' + 1 := e
    omega
  · exact Nat.le_trans (by decide : 162 ≤ 193) (Nat.le_add_right _ _)
  · exact Nat.le_trans (by decide : 3875 ≤ 300000) (Nat.le_add_right _ _)
/-- a cell that is made is as the world has it -/
theorem jcell_raw {E : jE} {w : jw} {h : jh} {H : Heap} {k t n : Nat} (hk : kd k = some (t, n)) (hr : jrc E H k (jgF E.2.2.2 k).1 (jgF E.2.2.2 k).2.1 (jgF E.2.2.2 k).2.2) (hI : ∀ j, sref k j = none → w.1 k j = (jgo k j).2) (hX : w.2.1 k = fun _ => 0) (hL : w.2.2.1 k = fun _ => 0)
    (h6 : 6 ≤ t → w.2.2.2 k = [] ∧ h.1 k = k + 1 ∧ h.2.1 k = n ∧ kd (k + 1) = none ∧ jrc E H (k + 1) (jgF E.2.2.2 (k + 1)).1 (jgF E.2.2.2 (k + 1)).2.1 (jgF E.2.2.2 (k + 1)).2.2) : jcell E w h H k (t, n) := by
  match t, hk, hr, h6 with
  | 0, hk, hr, _ =>
    rw [jgF_o hk] at hr
    obtain ⟨C, hC, hO⟩ := hr
    refine ⟨C, hC, hO.to (fun j hj => ?_)⟩
    rw [jv_gv]
    show jgv _ (sref k j, (jgo k j).2) = jgv _ (sref k j, w.1 k j)
    cases hs : sref k j with
    | some r => rfl
    | none => rw [hI j hs]
  | 1, hk, hr, _ => rw [jgF_1 hk] at hr; show _ = _; rw [hX]; exact hr
  | 2, hk, hr, _ => rw [jgF_2 hk] at hr; show _ = _; rw [hX]; exact hr
  | 3, hk, hr, _ => rw [jgF_3 hk] at hr; show _ = _; rw [hX]; exact hr
  | 4, hk, hr, _ => rw [jgF_4 hk] at hr; show _ = _; rw [hL]; exact hr
  | 5, hk, hr, _ => rw [jgF_5 hk] at hr; exact hr
  | t + 6, hk, hr, h6 =>
    obtain ⟨e1, e2, e3, e4, e5⟩ := h6 (by omega)
    rw [jgF_r hk (by omega)] at hr
    rw [jgF_n e4 hk] at e5
    obtain ⟨C, hC, hO⟩ := hr
    have eC : C.2.2 = 2 := by cases hC; rfl
    rw [eC] at hO
    refine ⟨hO.to (fun j hj => ?_), fun _ => 0, fun i v hv => ?_, ?_⟩
    · unfold jrv
      rw [e1, e2]
      rfl
    · rw [e1] at hv; cases hv
    · rw [e2, e3]; exact e5
set_option maxRecDepth 20000 in
theorem jRel0 {E : jE} {H0 H : Heap} (hf : ¬ jfull E) (h : jraw E 0 H0 162 ((68, [.ref (E.2.2.2 + 69), .ref (E.2.2.2 + 100), .ref (E.2.2.2 + 131)]) :: (0, [.ref (E.2.2.2 + 1), .ref (E.2.2.2 + 3), .ref (E.2.2.2 + 10), .ref (E.2.2.2 + 48), .ref (E.2.2.2 + 17), .ref (E.2.2.2 + 51), .ref (E.2.2.2 + 58), .ref (E.2.2.2 + 63), .ref (E.2.2.2 + 68), .int (-1), .int (nI 0), .int (nI 0)]) :: []) H) : jRel E jw0 jh0 H := by
  obtain ⟨h1, h2, h3, h4, h5, h6⟩ := h
  refine ⟨h1, fun k q hk => ?_⟩
  have hlt := jkd_nf hf hk
  have hk' := jkd_kd hk
  obtain ⟨t, n⟩ := q
  by_cases k0 : k = 0
  · subst k0
    cases hk'.symm.trans kd_0
    have hr := (h5 _ (List.mem_cons_of_mem _ List.mem_cons_self)).2.2
    rw [jgF_o kd_0] at hr
    obtain ⟨C, hC, hO⟩ := hr
    refine ⟨C, hC, hO.to (fun j hj => ?_)⟩
    have e12 : C.2.2 = 12 := by cases hC; rfl
    rw [e12] at hj
    rw [jv_gv]
    have ho : (List.range 12).map (fun j => (sref 0 j, jw0.1 0 j)) = [(some 1, 0), (some 3, 0), (some 10, 0), (some 48, 0), (some 17, 0), (some 51, 0), (some 58, 0), (some 63, 0), (some 68, 0), (none, -1), (none, 0), (none, 0)] := by decide +kernel
    have hv : [.ref (E.2.2.2 + 1), .ref (E.2.2.2 + 3), .ref (E.2.2.2 + 10), .ref (E.2.2.2 + 48), .ref (E.2.2.2 + 17), .ref (E.2.2.2 + 51), .ref (E.2.2.2 + 58), .ref (E.2.2.2 + 63), .ref (E.2.2.2 + 68), .int (-1), .int (nI 0), .int (nI 0)] = ((List.range 12).map (fun j => (sref 0 j, jw0.1 0 j))).map (jgv E.2.2.2) := by rw [ho]; rfl
    show vp_V [.ref (E.2.2.2 + 1), .ref (E.2.2.2 + 3), .ref (E.2.2.2 + 10), .ref (E.2.2.2 + 48), .ref (E.2.2.2 + 17), .ref (E.2.2.2 + 51), .ref (E.2.2.2 + 58), .ref (E.2.2.2 + 63), .ref (E.2.2.2 + 68), .int (-1), .int (nI 0), .int (nI 0)] j = _
    rw [hv]
    simp [vp_V, hj]
  by_cases k1 : k = 68
  · subst k1
    cases hk'.symm.trans kd_68
    have hr := (h5 _ List.mem_cons_self).2.2
    rw [jgF_5 kd_68] at hr
    show H[_]? = _
    rw [show H[E.2.2.2 + 68]? = _ from hr]
    refine congrArg some (arrV_to (fun j hj => ?_))
    match j, hj with
    | 0, _ => rfl
    | 1, _ => rfl
    | 2, _ => rfl
  have nx : ∀ q, q < 162 → q ≠ 0 → q ≠ 68 → jrc E H q (jgF E.2.2.2 q).1 (jgF E.2.2.2 q).2.1 (jgF E.2.2.2 q).2.2 := fun q q1 q2 q3 => h4 q (Nat.zero_le _) q1 (by
    intro x hx
    simp only [List.mem_cons, List.not_mem_nil, or_false] at hx
    rcases hx with rfl | rfl
    · exact fun e => q3 e.symm
    · exact fun e => q2 e.symm)
  refine jcell_raw hk' (nx k hlt k0 k1) (fun j _ => by show (if k = 0 ∧ j = 9 then (-1 : Int32) else _) = _; rw [if_neg (fun e => k0 e.1)]) rfl rfl (fun g6 => ?_)
  obtain ⟨r1, r2, r3, r4⟩ := kdy_row hlt hk' g6
  refine ⟨rfl, rfl, jh0_room hk', r2, nx (k + 1) r1 (by omega) (fun e => ?_)⟩
  rw [e, kd_68] at r2
  cases r2
set_option maxRecDepth 20000 in
theorem i_X11 {E : jE} {H0 : Heap} {w' : jw} (hf : ¬ jfull E) (hq : f_X9_reset_c 8 jw0 = some w') : jOk E w' jh0 ∧ jD E m_X11_initA 5 [.ref (E.2.2.2 + 0)] 0 H0 1 12 ((0, [.null, .null, .null, .null, .null, .null, .null, .null, .null, .int 0, .int 0, .int 0]) :: []) 162 3875 (jRel E w' jh0) := by
  have hX : jX E m_X11_initA 5 179 [(0, .ref (E.2.2.2 + 0)), (1, .int (nI 3))] [] jw0 none w' := by
    refine jx_aload_n dX11_init_179 rfl ?_
    refine jx_getr dX11_init_180 fl_X11_39 kj_0 sr_0_4 ?_
    refine jx_bipush (v := 8) dX11_init_183 (by decide) ?_
    refine jx_cVv (a := 17) (As := [.int 8]) (rest := []) dX11_init_185 ml_X11_95 mv_X9_reset (s_X9_reset_c hq) rfl rfl jc_17 (by decide) (Nat.le_of_ble_eq_true rfl) ?_
    exact jx_vret dX11_init_188 rfl rfl
  obtain ⟨h', o1, c1, s1, hY⟩ := jy_sw (b := 0) (H0 := H0) (m := 162) (z := 3875) hX (jOk0 hf) rfl rfl (fun H h => jRel0 hf h)
  have e1 : h' = jh0 := o1.2.2.2.2.2.2.2 hf
  subst e1
  refine ⟨o1, jD_of (ls := [(0, .ref (E.2.2.2 + 0))]) (by decide) rfl rfl rfl (Nat.le_of_ble_eq_true rfl) rfl ?_⟩
  refine jy_aload_n dX11_init_0 rfl ?_
  refine jy_obj dX11_init_1 ol_X11_1 (by decide) (by decide) ?_
  refine jy_aload_n dX11_init_4 rfl ?_
  refine jy_new (ci := 8) (V := [.null, .int 0]) dX11_init_5 rfl cl_X11_7 ni_8 nd_8 (jgk_r kd_1 (by decide)) (hv_of rfl) ?_
  refine jy_dup dX11_init_8 rfl ?_
  refine jy_sipush (v := nI 128) dX11_init_9 (by decide) ?_
  refine jy_ctor (a := 1) (As := [.int (nI 128)]) (rest := [.ref (E.2.2.2 + 1), .ref (E.2.2.2 + 0)]) (m1 := 3) (z1 := 142) (xs1 := (0, [.null, .null, .null, .null, .null, .null, .null, .null, .null, .int 0, .int 0, .int 0]) :: []) dX11_init_12 ml_X11_9 mi_X8 (i_X8 (n := 128) (z := 14) kd_1 (by decide) (by decide +kernel) (by decide) (by decide)) rfl rfl (by decide) (Nat.le_of_ble_eq_true rfl) ?_
  refine jy_putF (ci := 11) (j := 0) (a := 0) (i := 0) (xs1 := (0, [.ref (E.2.2.2 + 1), .null, .null, .null, .null, .null, .null, .null, .null, .int 0, .int 0, .int 0]) :: []) dX11_init_15 ff_X11_12 rfl (jgk_o kd_0) (Nat.lt_of_succ_le (Nat.le_of_ble_eq_true rfl)) rfl rfl rfl ?_
  refine jy_aload_n dX11_init_18 rfl ?_
  refine jy_new (ci := 4) (V := [.null, .null, .null, .null]) dX11_init_19 rfl cl_X11_18 ni_4 nd_4 (jgk_o kd_3) (hv_of rfl) ?_
  refine jy_dup dX11_init_22 rfl ?_
  refine jy_aload_n dX11_init_23 rfl ?_
  refine jy_get (ci := 11) (j := 0) (a := 0) (i := 1) (v := .ref (E.2.2.2 + 1)) dX11_init_24 fl_X11_12 rfl (jgk_o kd_0) rfl ?_
  refine jy_ctor (a := 3) (As := [.ref (E.2.2.2 + 1)]) (rest := [.ref (E.2.2.2 + 3), .ref (E.2.2.2 + 0)]) (m1 := 10) (z1 := 344) (xs1 := (0, [.ref (E.2.2.2 + 1), .null, .null, .null, .null, .null, .null, .null, .null, .int 0, .int 0, .int 0]) :: []) dX11_init_27 ml_X11_20 mi_X4 (i_X4_3) rfl rfl (by decide) (Nat.le_of_ble_eq_true rfl) ?_
  refine jy_putF (ci := 11) (j := 1) (a := 0) (i := 0) (xs1 := (0, [.ref (E.2.2.2 + 1), .ref (E.2.2.2 + 3), .null, .null, .null, .null, .null, .null, .null, .int 0, .int 0, .int 0]) :: []) dX11_init_30 ff_X11_23 rfl (jgk_o kd_0) (Nat.lt_of_succ_le (Nat.le_of_ble_eq_true rfl)) rfl rfl rfl ?_
  refine jy_aload_n dX11_init_33 rfl ?_
  refine jy_new (ci := 7) (V := [.null, .null, .null, .null, .int 0, .int 0, .int 0, .int 0, .int 0]) dX11_init_34 rfl cl_X11_27 ni_7 nd_7 (jgk_o kd_10) (hv_of rfl) ?_
  refine jy_dup dX11_init_37 rfl ?_
  refine jy_aload_n dX11_init_38 rfl ?_
  refine jy_get (ci := 11) (j := 1) (a := 0) (i := 1) (v := .ref (E.2.2.2 + 3)) dX11_init_39 fl_X11_23 rfl (jgk_o kd_0) rfl ?_
  refine jy_ctor (a := 10) (As := [.ref (E.2.2.2 + 3)]) (rest := [.ref (E.2.2.2 + 10), .ref (E.2.2.2 + 0)]) (m1 := 17) (z1 := 490) (xs1 := (0, [.ref (E.2.2.2 + 1), .ref (E.2.2.2 + 3), .null, .null, .null, .null, .null, .null, .null, .int 0, .int 0, .int 0]) :: []) dX11_init_42 ml_X11_29 mi_X7 (i_X7_10) rfl rfl (by decide) (Nat.le_of_ble_eq_true rfl) ?_
  refine jy_putF (ci := 11) (j := 2) (a := 0) (i := 0) (xs1 := (0, [.ref (E.2.2.2 + 1), .ref (E.2.2.2 + 3), .ref (E.2.2.2 + 10), .null, .null, .null, .null, .null, .null, .int 0, .int 0, .int 0]) :: []) dX11_init_45 ff_X11_32 rfl (jgk_o kd_0) (Nat.lt_of_succ_le (Nat.le_of_ble_eq_true rfl)) rfl rfl rfl ?_
  refine jy_aload_n dX11_init_48 rfl ?_
  refine jy_new (ci := 9) (V := [.null, .null, .null, .null, .int 0]) dX11_init_49 rfl cl_X11_36 ni_9 nd_9 (jgk_o kd_17) (hv_of rfl) ?_
  refine jy_dup dX11_init_52 rfl ?_
  refine jy_ctor (a := 17) (As := []) (rest := [.ref (E.2.2.2 + 17), .ref (E.2.2.2 + 0)]) (m1 := 48) (z1 := 777) (xs1 := (0, [.ref (E.2.2.2 + 1), .ref (E.2.2.2 + 3), .ref (E.2.2.2 + 10), .null, .null, .null, .null, .null, .null, .int 0, .int 0, .int 0]) :: []) dX11_init_53 ml_X11_38 mi_X9 (i_X9_17) rfl rfl (by decide) (Nat.le_of_ble_eq_true rfl) ?_
  refine jy_putF (ci := 11) (j := 4) (a := 0) (i := 0) (xs1 := (0, [.ref (E.2.2.2 + 1), .ref (E.2.2.2 + 3), .ref (E.2.2.2 + 10), .null, .ref (E.2.2.2 + 17), .null, .null, .null, .null, .int 0, .int 0, .int 0]) :: []) dX11_init_56 ff_X11_39 rfl (jgk_o kd_0) (Nat.lt_of_succ_le (Nat.le_of_ble_eq_true rfl)) rfl rfl rfl ?_
  refine jy_aload_n dX11_init_59 rfl ?_
  refine jy_new (ci := 10) (V := [.null, .null, .null, .null, .int 0, .int 0, .int 0, .int 0, .int 0]) dX11_init_60 rfl cl_X11_43 ni_10 nd_10 (jgk_o kd_48) (hv_of rfl) ?_
  refine jy_dup dX11_init_63 rfl ?_
  refine jy_aload_n dX11_init_64 rfl ?_
  refine jy_get (ci := 11) (j := 1) (a := 0) (i := 1) (v := .ref (E.2.2.2 + 3)) dX11_init_65 fl_X11_23 rfl (jgk_o kd_0) rfl ?_
  refine jy_aload_n dX11_init_68 rfl ?_
  refine jy_get (ci := 11) (j := 2) (a := 0) (i := 1) (v := .ref (E.2.2.2 + 10)) dX11_init_69 fl_X11_32 rfl (jgk_o kd_0) rfl ?_
  refine jy_aload_n dX11_init_72 rfl ?_
  refine jy_get (ci := 11) (j := 4) (a := 0) (i := 1) (v := .ref (E.2.2.2 + 17)) dX11_init_73 fl_X11_39 rfl (jgk_o kd_0) rfl ?_
  refine jy_ctor (a := 48) (As := [.ref (E.2.2.2 + 3), .ref (E.2.2.2 + 10), .ref (E.2.2.2 + 17)]) (rest := [.ref (E.2.2.2 + 48), .ref (E.2.2.2 + 0)]) (m1 := 51) (z1 := 791) (xs1 := (0, [.ref (E.2.2.2 + 1), .ref (E.2.2.2 + 3), .ref (E.2.2.2 + 10), .null, .ref (E.2.2.2 + 17), .null, .null, .null, .null, .int 0, .int 0, .int 0]) :: []) dX11_init_76 ml_X11_45 mi_X10 (i_X10_48) rfl rfl (by decide) (Nat.le_of_ble_eq_true rfl) ?_
  refine jy_putF (ci := 11) (j := 3) (a := 0) (i := 0) (xs1 := (0, [.ref (E.2.2.2 + 1), .ref (E.2.2.2 + 3), .ref (E.2.2.2 + 10), .ref (E.2.2.2 + 48), .ref (E.2.2.2 + 17), .null, .null, .null, .null, .int 0, .int 0, .int 0]) :: []) dX11_init_79 ff_X11_48 rfl (jgk_o kd_0) (Nat.lt_of_succ_le (Nat.le_of_ble_eq_true rfl)) rfl rfl rfl ?_
  refine jy_aload_n dX11_init_82 rfl ?_
  refine jy_new (ci := 1) (V := [.null, .null, .null, .null, .int 0, .int 0, .int 0]) dX11_init_83 rfl cl_X11_52 ni_1 nd_1 (jgk_o kd_51) (hv_of rfl) ?_
  refine jy_dup dX11_init_86 rfl ?_
  refine jy_aload_n dX11_init_87 rfl ?_
  refine jy_get (ci := 11) (j := 4) (a := 0) (i := 1) (v := .ref (E.2.2.2 + 17)) dX11_init_88 fl_X11_39 rfl (jgk_o kd_0) rfl ?_
  refine jy_ctor (a := 51) (As := [.ref (E.2.2.2 + 17)]) (rest := [.ref (E.2.2.2 + 51), .ref (E.2.2.2 + 0)]) (m1 := 58) (z1 := 940) (xs1 := (0, [.ref (E.2.2.2 + 1), .ref (E.2.2.2 + 3), .ref (E.2.2.2 + 10), .ref (E.2.2.2 + 48), .ref (E.2.2.2 + 17), .null, .null, .null, .null, .int 0, .int 0, .int 0]) :: []) dX11_init_91 ml_X11_54 mi_X1 (i_X1_51 (Nat.zero_le _)) rfl rfl (by decide) (Nat.le_of_ble_eq_true rfl) ?_
  refine jy_putF (ci := 11) (j := 5) (a := 0) (i := 0) (xs1 := (0, [.ref (E.2.2.2 + 1), .ref (E.2.2.2 + 3), .ref (E.2.2.2 + 10), .ref (E.2.2.2 + 48), .ref (E.2.2.2 + 17), .ref (E.2.2.2 + 51), .null, .null, .null, .int 0, .int 0, .int 0]) :: []) dX11_init_94 ff_X11_57 rfl (jgk_o kd_0) (Nat.lt_of_succ_le (Nat.le_of_ble_eq_true rfl)) rfl rfl rfl ?_
  refine jy_aload_n dX11_init_97 rfl ?_
  refine jy_new (ci := 3) (V := [.null, .null, .null]) dX11_init_98 rfl cl_X11_61 ni_3 nd_3 (jgk_o kd_58) (hv_of rfl) ?_
  refine jy_dup dX11_init_101 rfl ?_
  refine jy_aload_n dX11_init_102 rfl ?_
  refine jy_get (ci := 11) (j := 4) (a := 0) (i := 1) (v := .ref (E.2.2.2 + 17)) dX11_init_103 fl_X11_39 rfl (jgk_o kd_0) rfl ?_
  refine jy_getF (ci := 9) (j := 1) (a := 17) (v := .ref (E.2.2.2 + 35)) dX11_init_106 fl_X11_63 (by simp) (by decide) (by decide) (jgk_o kd_17) (by rw [jgF_o kd_17]; show jgv _ (jgo 17 1) = _; rw [show jgo 17 1 = (some 35, 0) by decide +kernel]; rfl) ?_
  refine jy_ctor (a := 58) (As := [.ref (E.2.2.2 + 35)]) (rest := [.ref (E.2.2.2 + 58), .ref (E.2.2.2 + 0)]) (m1 := 63) (z1 := 2947) (xs1 := (0, [.ref (E.2.2.2 + 1), .ref (E.2.2.2 + 3), .ref (E.2.2.2 + 10), .ref (E.2.2.2 + 48), .ref (E.2.2.2 + 17), .ref (E.2.2.2 + 51), .null, .null, .null, .int 0, .int 0, .int 0]) :: []) dX11_init_109 ml_X11_67 mi_X3 (i_X3_58) rfl rfl (by decide) (Nat.le_of_ble_eq_true rfl) ?_
  refine jy_putF (ci := 11) (j := 6) (a := 0) (i := 0) (xs1 := (0, [.ref (E.2.2.2 + 1), .ref (E.2.2.2 + 3), .ref (E.2.2.2 + 10), .ref (E.2.2.2 + 48), .ref (E.2.2.2 + 17), .ref (E.2.2.2 + 51), .ref (E.2.2.2 + 58), .null, .null, .int 0, .int 0, .int 0]) :: []) dX11_init_112 ff_X11_70 rfl (jgk_o kd_0) (Nat.lt_of_succ_le (Nat.le_of_ble_eq_true rfl)) rfl rfl rfl ?_
  refine jy_aload_n dX11_init_115 rfl ?_
  refine jy_new (ci := 5) (V := [.null, .null, .null, .null]) dX11_init_116 rfl cl_X11_74 ni_5 nd_5 (jgk_o kd_63) (hv_of rfl) ?_
  refine jy_dup dX11_init_119 rfl ?_
  refine jy_aload_n dX11_init_120 rfl ?_
  refine jy_get (ci := 11) (j := 4) (a := 0) (i := 1) (v := .ref (E.2.2.2 + 17)) dX11_init_121 fl_X11_39 rfl (jgk_o kd_0) rfl ?_
  refine jy_ctor (a := 63) (As := [.ref (E.2.2.2 + 17)]) (rest := [.ref (E.2.2.2 + 63), .ref (E.2.2.2 + 0)]) (m1 := 68) (z1 := 3011) (xs1 := (0, [.ref (E.2.2.2 + 1), .ref (E.2.2.2 + 3), .ref (E.2.2.2 + 10), .ref (E.2.2.2 + 48), .ref (E.2.2.2 + 17), .ref (E.2.2.2 + 51), .ref (E.2.2.2 + 58), .null, .null, .int 0, .int 0, .int 0]) :: []) dX11_init_124 ml_X11_76 mi_X5 (i_X5_63 (Nat.zero_le _)) rfl rfl (by decide) (Nat.le_of_ble_eq_true rfl) ?_
  refine jy_putF (ci := 11) (j := 7) (a := 0) (i := 0) (xs1 := (0, [.ref (E.2.2.2 + 1), .ref (E.2.2.2 + 3), .ref (E.2.2.2 + 10), .ref (E.2.2.2 + 48), .ref (E.2.2.2 + 17), .ref (E.2.2.2 + 51), .ref (E.2.2.2 + 58), .ref (E.2.2.2 + 63), .null, .int 0, .int 0, .int 0]) :: []) dX11_init_127 ff_X11_77 rfl (jgk_o kd_0) (Nat.lt_of_succ_le (Nat.le_of_ble_eq_true rfl)) rfl rfl rfl ?_
  refine jy_aload_n dX11_init_130 rfl ?_
  refine jy_iconst (v := nI 3) dX11_init_131 (by decide) ?_
  refine jy_anew (n := 3) (V := [.null, .null, .null]) dX11_init_132 cl_X11_36 (fun U h => h) (by decide) (jgk_5 kd_68) rfl ?_
  refine jy_putF (ci := 11) (j := 8) (a := 0) (i := 1) (xs1 := (68, [.null, .null, .null]) :: (0, [.ref (E.2.2.2 + 1), .ref (E.2.2.2 + 3), .ref (E.2.2.2 + 10), .ref (E.2.2.2 + 48), .ref (E.2.2.2 + 17), .ref (E.2.2.2 + 51), .ref (E.2.2.2 + 58), .ref (E.2.2.2 + 63), .ref (E.2.2.2 + 68), .int 0, .int 0, .int 0]) :: []) dX11_init_135 ff_X11_81 rfl (jgk_o kd_0) (Nat.lt_of_succ_le (Nat.le_of_ble_eq_true rfl)) rfl rfl rfl ?_
  refine jy_iconst (v := nI 0) dX11_init_138 (by decide) ?_
  refine jy_istore_n (ls' := [(0, .ref (E.2.2.2 + 0)), (1, .int (nI 0))]) dX11_init_139 (by decide) rfl ?_
  refine jy_iload_n dX11_init_140 rfl ?_
  refine jy_iconst (v := nI 3) dX11_init_141 (by decide) ?_
  refine jy_icmp_ge_f (tgt := 164) dX11_init_142 (by decide) (by decide) ?_
  refine jy_aload_n dX11_init_145 rfl ?_
  refine jy_get (ci := 11) (j := 8) (a := 0) (i := 1) (v := .ref (E.2.2.2 + 68)) dX11_init_146 fl_X11_81 rfl (jgk_o kd_0) rfl ?_
  refine jy_iload_n dX11_init_149 rfl ?_
  refine jy_new (ci := 9) (V := [.null, .null, .null, .null, .int 0]) dX11_init_150 rfl cl_X11_36 ni_9 nd_9 (jgk_o kd_69) (hv_of rfl) ?_
  refine jy_dup dX11_init_153 rfl ?_
  refine jy_ctor (a := 69) (As := []) (rest := [.ref (E.2.2.2 + 69), .int (nI 0), .ref (E.2.2.2 + 68)]) (m1 := 100) (z1 := 3301) (xs1 := (68, [.null, .null, .null]) :: (0, [.ref (E.2.2.2 + 1), .ref (E.2.2.2 + 3), .ref (E.2.2.2 + 10), .ref (E.2.2.2 + 48), .ref (E.2.2.2 + 17), .ref (E.2.2.2 + 51), .ref (E.2.2.2 + 58), .ref (E.2.2.2 + 63), .ref (E.2.2.2 + 68), .int 0, .int 0, .int 0]) :: []) dX11_init_154 ml_X11_38 mi_X9 (i_X9_69) rfl rfl (by decide) (Nat.le_of_ble_eq_true rfl) ?_
  refine jy_aast (n := 3) (a := 68) (v := 69) (i := 0) (j := 0) (xs1 := (68, [.ref (E.2.2.2 + 69), .null, .null]) :: (0, [.ref (E.2.2.2 + 1), .ref (E.2.2.2 + 3), .ref (E.2.2.2 + 10), .ref (E.2.2.2 + 48), .ref (E.2.2.2 + 17), .ref (E.2.2.2 + 51), .ref (E.2.2.2 + 58), .ref (E.2.2.2 + 63), .ref (E.2.2.2 + 68), .int 0, .int 0, .int 0]) :: []) dX11_init_157 rfl (jgk_5 kd_68) (by decide) (by simp) (by decide) (by simp) (by decide) (by decide) (jgk_o kd_69) rfl ?_
  refine jy_iinc (v := nI 1) (ls' := [(0, .ref (E.2.2.2 + 0)), (1, .int (nI 1))]) dX11_init_158 rfl (by decide) (by decide) rfl ?_
  refine jy_goto (tgt := 140) dX11_init_161 (by decide) ?_
  refine jy_iload_n dX11_init_140 rfl ?_
  refine jy_iconst (v := nI 3) dX11_init_141 (by decide) ?_
  refine jy_icmp_ge_f (tgt := 164) dX11_init_142 (by decide) (by decide) ?_
  refine jy_aload_n dX11_init_145 rfl ?_
  refine jy_get (ci := 11) (j := 8) (a := 0) (i := 1) (v := .ref (E.2.2.2 + 68)) dX11_init_146 fl_X11_81 rfl (jgk_o kd_0) rfl ?_
  refine jy_iload_n dX11_init_149 rfl ?_
  refine jy_new (ci := 9) (V := [.null, .null, .null, .null, .int 0]) dX11_init_150 rfl cl_X11_36 ni_9 nd_9 (jgk_o kd_100) (hv_of rfl) ?_
  refine jy_dup dX11_init_153 rfl ?_
  refine jy_ctor (a := 100) (As := []) (rest := [.ref (E.2.2.2 + 100), .int (nI 1), .ref (E.2.2.2 + 68)]) (m1 := 131) (z1 := 3588) (xs1 := (68, [.ref (E.2.2.2 + 69), .null, .null]) :: (0, [.ref (E.2.2.2 + 1), .ref (E.2.2.2 + 3), .ref (E.2.2.2 + 10), .ref (E.2.2.2 + 48), .ref (E.2.2.2 + 17), .ref (E.2.2.2 + 51), .ref (E.2.2.2 + 58), .ref (E.2.2.2 + 63), .ref (E.2.2.2 + 68), .int 0, .int 0, .int 0]) :: []) dX11_init_154 ml_X11_38 mi_X9 (i_X9_100) rfl rfl (by decide) (Nat.le_of_ble_eq_true rfl) ?_
  refine jy_aast (n := 3) (a := 68) (v := 100) (i := 0) (j := 1) (xs1 := (68, [.ref (E.2.2.2 + 69), .ref (E.2.2.2 + 100), .null]) :: (0, [.ref (E.2.2.2 + 1), .ref (E.2.2.2 + 3), .ref (E.2.2.2 + 10), .ref (E.2.2.2 + 48), .ref (E.2.2.2 + 17), .ref (E.2.2.2 + 51), .ref (E.2.2.2 + 58), .ref (E.2.2.2 + 63), .ref (E.2.2.2 + 68), .int 0, .int 0, .int 0]) :: []) dX11_init_157 rfl (jgk_5 kd_68) (by decide) (by simp) (by decide) (by simp) (by decide) (by decide) (jgk_o kd_100) rfl ?_
  refine jy_iinc (v := nI 2) (ls' := [(0, .ref (E.2.2.2 + 0)), (1, .int (nI 2))]) dX11_init_158 rfl (by decide) (by decide) rfl ?_
  refine jy_goto (tgt := 140) dX11_init_161 (by decide) ?_
  refine jy_iload_n dX11_init_140 rfl ?_
  refine jy_iconst (v := nI 3) dX11_init_141 (by decide) ?_
  refine jy_icmp_ge_f (tgt := 164) dX11_init_142 (by decide) (by decide) ?_
  refine jy_aload_n dX11_init_145 rfl ?_
  refine jy_get (ci := 11) (j := 8) (a := 0) (i := 1) (v := .ref (E.2.2.2 + 68)) dX11_init_146 fl_X11_81 rfl (jgk_o kd_0) rfl ?_
  refine jy_iload_n dX11_init_149 rfl ?_
  refine jy_new (ci := 9) (V := [.null, .null, .null, .null, .int 0]) dX11_init_150 rfl cl_X11_36 ni_9 nd_9 (jgk_o kd_131) (hv_of rfl) ?_
  refine jy_dup dX11_init_153 rfl ?_
  refine jy_ctor (a := 131) (As := []) (rest := [.ref (E.2.2.2 + 131), .int (nI 2), .ref (E.2.2.2 + 68)]) (m1 := 162) (z1 := 3875) (xs1 := (68, [.ref (E.2.2.2 + 69), .ref (E.2.2.2 + 100), .null]) :: (0, [.ref (E.2.2.2 + 1), .ref (E.2.2.2 + 3), .ref (E.2.2.2 + 10), .ref (E.2.2.2 + 48), .ref (E.2.2.2 + 17), .ref (E.2.2.2 + 51), .ref (E.2.2.2 + 58), .ref (E.2.2.2 + 63), .ref (E.2.2.2 + 68), .int 0, .int 0, .int 0]) :: []) dX11_init_154 ml_X11_38 mi_X9 (i_X9_131) rfl rfl (by decide) (Nat.le_of_ble_eq_true rfl) ?_
  refine jy_aast (n := 3) (a := 68) (v := 131) (i := 0) (j := 2) (xs1 := (68, [.ref (E.2.2.2 + 69), .ref (E.2.2.2 + 100), .ref (E.2.2.2 + 131)]) :: (0, [.ref (E.2.2.2 + 1), .ref (E.2.2.2 + 3), .ref (E.2.2.2 + 10), .ref (E.2.2.2 + 48), .ref (E.2.2.2 + 17), .ref (E.2.2.2 + 51), .ref (E.2.2.2 + 58), .ref (E.2.2.2 + 63), .ref (E.2.2.2 + 68), .int 0, .int 0, .int 0]) :: []) dX11_init_157 rfl (jgk_5 kd_68) (by decide) (by simp) (by decide) (by simp) (by decide) (by decide) (jgk_o kd_131) rfl ?_
  refine jy_iinc (v := nI 3) (ls' := [(0, .ref (E.2.2.2 + 0)), (1, .int (nI 3))]) dX11_init_158 rfl (by decide) (by decide) rfl ?_
  refine jy_goto (tgt := 140) dX11_init_161 (by decide) ?_
  refine jy_iload_n dX11_init_140 rfl ?_
  refine jy_iconst (v := nI 3) dX11_init_141 (by decide) ?_
  refine jy_icmp_ge_t (tgt := 164) dX11_init_142 (by decide) (by decide) ?_
  refine jy_aload_n dX11_init_164 rfl ?_
  refine jy_iconst (v := -1) dX11_init_165 (by decide) ?_
  refine jy_put (ci := 11) (j := 9) (a := 0) (i := 1) (xs1 := (68, [.ref (E.2.2.2 + 69), .ref (E.2.2.2 + 100), .ref (E.2.2.2 + 131)]) :: (0, [.ref (E.2.2.2 + 1), .ref (E.2.2.2 + 3), .ref (E.2.2.2 + 10), .ref (E.2.2.2 + 48), .ref (E.2.2.2 + 17), .ref (E.2.2.2 + 51), .ref (E.2.2.2 + 58), .ref (E.2.2.2 + 63), .ref (E.2.2.2 + 68), .int (-1), .int 0, .int 0]) :: []) dX11_init_166 fp_X11_85 rfl (jgk_o kd_0) (Nat.lt_of_succ_le (Nat.le_of_ble_eq_true rfl)) rfl rfl rfl ?_
  refine jy_aload_n dX11_init_169 rfl ?_
  refine jy_iconst (v := nI 0) dX11_init_170 (by decide) ?_
  refine jy_put (ci := 11) (j := 10) (a := 0) (i := 1) (xs1 := (68, [.ref (E.2.2.2 + 69), .ref (E.2.2.2 + 100), .ref (E.2.2.2 + 131)]) :: (0, [.ref (E.2.2.2 + 1), .ref (E.2.2.2 + 3), .ref (E.2.2.2 + 10), .ref (E.2.2.2 + 48), .ref (E.2.2.2 + 17), .ref (E.2.2.2 + 51), .ref (E.2.2.2 + 58), .ref (E.2.2.2 + 63), .ref (E.2.2.2 + 68), .int (-1), .int (nI 0), .int 0]) :: []) dX11_init_171 fp_X11_89 rfl (jgk_o kd_0) (Nat.lt_of_succ_le (Nat.le_of_ble_eq_true rfl)) rfl rfl rfl ?_
  refine jy_aload_n dX11_init_174 rfl ?_
  refine jy_iconst (v := nI 0) dX11_init_175 (by decide) ?_
  refine jy_put (ci := 11) (j := 11) (a := 0) (i := 1) (xs1 := (68, [.ref (E.2.2.2 + 69), .ref (E.2.2.2 + 100), .ref (E.2.2.2 + 131)]) :: (0, [.ref (E.2.2.2 + 1), .ref (E.2.2.2 + 3), .ref (E.2.2.2 + 10), .ref (E.2.2.2 + 48), .ref (E.2.2.2 + 17), .ref (E.2.2.2 + 51), .ref (E.2.2.2 + 58), .ref (E.2.2.2 + 63), .ref (E.2.2.2 + 68), .int (-1), .int (nI 0), .int (nI 0)]) :: []) dX11_init_176 fp_X11_92 rfl (jgk_o kd_0) (Nat.lt_of_succ_le (Nat.le_of_ble_eq_true rfl)) rfl rfl rfl ?_
  exact hY
def f_X12_tail (w : jw) : Option jw := jbd2 (f_X12_letters 112 97 103 101 0 0 0 w) fun x2 w3 => jg (jin 0 11) (jl (jsetL w3 169 (Int32.toNatClampNeg 0) x2) fun w5 => jbd2 (f_X12_letters 112 117 116 0 0 0 0 w5) fun x7 w8 => jg (jin 1 11) (jl (jsetL w8 169 (Int32.toNatClampNeg 1) x7) fun w10 => jbd2 (f_X12_letters 99 117 116 0 0 0 0 w10) fun x12 w13 => jg (jin 2 11) (jl (jsetL w13 169 (Int32.toNatClampNeg 2) x12) fun w15 => jbd2 (f_X12_letters 100 111 0 0 0 0 0 w15) fun x17 w18 => jg (jin 3 11) (jl (jsetL w18 169 (Int32.toNatClampNeg 3) x17) fun w20 => jbd2 (f_X12_letters 101 110 100 0 0 0 0 w20) fun x22 w23 => jg (jin 4 11) (jl (jsetL w23 169 (Int32.toNatClampNeg 4) x22) fun w25 => jbd2 (f_X12_letters 105 0 0 0 0 0 0 w25) fun x27 w28 => jg (jin 5 11) (jl (jsetL w28 169 (Int32.toNatClampNeg 5) x27) fun w30 => jbd2 (f_X12_letters 106 0 0 0 0 0 0 w30) fun x32 w33 => jg (jin 6 11) (jl (jsetL w33 169 (Int32.toNatClampNeg 6) x32) fun w35 => jbd2 (f_X12_letters 116 105 109 101 0 0 0 w35) fun x37 w38 => jg (jin 7 11) (jl (jsetL w38 169 (Int32.toNatClampNeg 7) x37) fun w40 => jbd2 (f_X12_letters 108 105 118 101 0 0 0 w40) fun x42 w43 => jg (jin 8 11) (jl (jsetL w43 169 (Int32.toNatClampNeg 8) x42) fun w45 => jbd2 (f_X12_letters 108 97 115 116 0 0 0 w45) fun x47 w48 => jg (jin 9 11) (jl (jsetL w48 169 (Int32.toNatClampNeg 9) x47) fun w50 => jbd2 (f_X12_letters 112 97 103 101 115 0 0 w50) fun x52 w53 => jg (jin 10 11) (jl (jsetL w53 169 (Int32.toNatClampNeg 10) x52) fun w55 => jbd (f_X12_begins 8 w55) fun q56 => some q56)))))))))))
set_option maxRecDepth 20000 in
set_option maxHeartbeats 2000000 in
theorem s_X12_tail {E : jE} (hE : jfull E) {w w' : jw} (hf : f_X12_tail w = some w') : jX E m_X12_init 2 264 [(0, .ref (E.2.2.2 + 162))] [] w none w' := by
  unfold f_X12_tail at hf
  refine jx_aload_n dX12_init_264 rfl ?_
  refine jx_getr dX12_init_265 fl_X12_34 (kj_162 hE) sr_162_9 ?_
  refine jx_iconst (v := 0) dX12_init_268 (by decide) ?_
  refine jx_bipush (v := 112) dX12_init_269 (by decide) ?_
  refine jx_bipush (v := 97) dX12_init_271 (by decide) ?_
  refine jx_bipush (v := 103) dX12_init_273 (by decide) ?_
  refine jx_bipush (v := 101) dX12_init_275 (by decide) ?_
  refine jx_iconst (v := 0) dX12_init_277 (by decide) ?_
  refine jx_iconst (v := 0) dX12_init_278 (by decide) ?_
  refine jx_iconst (v := 0) dX12_init_279 (by decide) ?_
  obtain ⟨x2, w3, hq1, hf⟩ := jbd2_inv hf
  refine jx_cSl (As := [.int 112, .int 97, .int 103, .int 101, .int 0, .int 0, .int 0]) (rest := [.int 0, .ref (E.2.2.2 + 169)]) dX12_init_280 ml_X12_112 ms_X12_letters (s_X12_letters hE hq1) rfl rfl rfl (by decide) (Nat.le_of_ble_eq_true rfl) ?_
  obtain ⟨c4, hf⟩ := jg_inv hf
  refine jx_last dX12_init_283 (kj_169 hE) (jin_vp c4) ?_
  obtain ⟨w5, hw5, hf⟩ := jl_inv hf
  refine jx_nw hw5 ?_
  refine jx_aload_n dX12_init_284 rfl ?_
  refine jx_getr dX12_init_285 fl_X12_34 (kj_162 hE) sr_162_9 ?_
  refine jx_iconst (v := 1) dX12_init_288 (by decide) ?_
  refine jx_bipush (v := 112) dX12_init_289 (by decide) ?_
  refine jx_bipush (v := 117) dX12_init_291 (by decide) ?_
  refine jx_bipush (v := 116) dX12_init_293 (by decide) ?_
  refine jx_iconst (v := 0) dX12_init_295 (by decide) ?_
  refine jx_iconst (v := 0) dX12_init_296 (by decide) ?_
  refine jx_iconst (v := 0) dX12_init_297 (by decide) ?_
  refine jx_iconst (v := 0) dX12_init_298 (by decide) ?_
  obtain ⟨x7, w8, hq6, hf⟩ := jbd2_inv hf
  refine jx_cSl (As := [.int 112, .int 117, .int 116, .int 0, .int 0, .int 0, .int 0]) (rest := [.int 1, .ref (E.2.2.2 + 169)]) dX12_init_299 ml_X12_112 ms_X12_letters (s_X12_letters hE hq6) rfl rfl rfl (by decide) (Nat.le_of_ble_eq_true rfl) ?_
  obtain ⟨c9, hf⟩ := jg_inv hf
  refine jx_last dX12_init_302 (kj_169 hE) (jin_vp c9) ?_
  obtain ⟨w10, hw10, hf⟩ := jl_inv hf
  refine jx_nw hw10 ?_
  refine jx_aload_n dX12_init_303 rfl ?_
  refine jx_getr dX12_init_304 fl_X12_34 (kj_162 hE) sr_162_9 ?_
  refine jx_iconst (v := 2) dX12_init_307 (by decide) ?_
  refine jx_bipush (v := 99) dX12_init_308 (by decide) ?_
  refine jx_bipush (v := 117) dX12_init_310 (by decide) ?_
  refine jx_bipush (v := 116) dX12_init_312 (by decide) ?_
  refine jx_iconst (v := 0) dX12_init_314 (by decide) ?_
  refine jx_iconst (v := 0) dX12_init_315 (by decide) ?_
  refine jx_iconst (v := 0) dX12_init_316 (by decide) ?_
  refine jx_iconst (v := 0) dX12_init_317 (by decide) ?_
  obtain ⟨x12, w13, hq11, hf⟩ := jbd2_inv hf
  refine jx_cSl (As := [.int 99, .int 117, .int 116, .int 0, .int 0, .int 0, .int 0]) (rest := [.int 2, .ref (E.2.2.2 + 169)]) dX12_init_318 ml_X12_112 ms_X12_letters (s_X12_letters hE hq11) rfl rfl rfl (by decide) (Nat.le_of_ble_eq_true rfl) ?_
  obtain ⟨c14, hf⟩ := jg_inv hf
  refine jx_last dX12_init_321 (kj_169 hE) (jin_vp c14) ?_
  obtain ⟨w15, hw15, hf⟩ := jl_inv hf
  refine jx_nw hw15 ?_
  refine jx_aload_n dX12_init_322 rfl ?_
  refine jx_getr dX12_init_323 fl_X12_34 (kj_162 hE) sr_162_9 ?_
  refine jx_iconst (v := 3) dX12_init_326 (by decide) ?_
  refine jx_bipush (v := 100) dX12_init_327 (by decide) ?_
  refine jx_bipush (v := 111) dX12_init_329 (by decide) ?_
  refine jx_iconst (v := 0) dX12_init_331 (by decide) ?_
  refine jx_iconst (v := 0) dX12_init_332 (by decide) ?_
  refine jx_iconst (v := 0) dX12_init_333 (by decide) ?_
  refine jx_iconst (v := 0) dX12_init_334 (by decide) ?_
  refine jx_iconst (v := 0) dX12_init_335 (by decide) ?_
  obtain ⟨x17, w18, hq16, hf⟩ := jbd2_inv hf
  refine jx_cSl (As := [.int 100, .int 111, .int 0, .int 0, .int 0, .int 0, .int 0]) (rest := [.int 3, .ref (E.2.2.2 + 169)]) dX12_init_336 ml_X12_112 ms_X12_letters (s_X12_letters hE hq16) rfl rfl rfl (by decide) (Nat.le_of_ble_eq_true rfl) ?_
  obtain ⟨c19, hf⟩ := jg_inv hf
  refine jx_last dX12_init_339 (kj_169 hE) (jin_vp c19) ?_
  obtain ⟨w20, hw20, hf⟩ := jl_inv hf
  refine jx_nw hw20 ?_
  refine jx_aload_n dX12_init_340 rfl ?_
  refine jx_getr dX12_init_341 fl_X12_34 (kj_162 hE) sr_162_9 ?_
  refine jx_iconst (v := 4) dX12_init_344 (by decide) ?_
  refine jx_bipush (v := 101) dX12_init_345 (by decide) ?_
  refine jx_bipush (v := 110) dX12_init_347 (by decide) ?_
  refine jx_bipush (v := 100) dX12_init_349 (by decide) ?_
  refine jx_iconst (v := 0) dX12_init_351 (by decide) ?_
  refine jx_iconst (v := 0) dX12_init_352 (by decide) ?_
  refine jx_iconst (v := 0) dX12_init_353 (by decide) ?_
  refine jx_iconst (v := 0) dX12_init_354 (by decide) ?_
  obtain ⟨x22, w23, hq21, hf⟩ := jbd2_inv hf
  refine jx_cSl (As := [.int 101, .int 110, .int 100, .int 0, .int 0, .int 0, .int 0]) (rest := [.int 4, .ref (E.2.2.2 + 169)]) dX12_init_355 ml_X12_112 ms_X12_letters (s_X12_letters hE hq21) rfl rfl rfl (by decide) (Nat.le_of_ble_eq_true rfl) ?_
  obtain ⟨c24, hf⟩ := jg_inv hf
  refine jx_last dX12_init_358 (kj_169 hE) (jin_vp c24) ?_
  obtain ⟨w25, hw25, hf⟩ := jl_inv hf
  refine jx_nw hw25 ?_
  refine jx_aload_n dX12_init_359 rfl ?_
  refine jx_getr dX12_init_360 fl_X12_34 (kj_162 hE) sr_162_9 ?_
  refine jx_iconst (v := 5) dX12_init_363 (by decide) ?_
  refine jx_bipush (v := 105) dX12_init_364 (by decide) ?_
  refine jx_iconst (v := 0) dX12_init_366 (by decide) ?_
  refine jx_iconst (v := 0) dX12_init_367 (by decide) ?_
  refine jx_iconst (v := 0) dX12_init_368 (by decide) ?_
  refine jx_iconst (v := 0) dX12_init_369 (by decide) ?_
  refine jx_iconst (v := 0) dX12_init_370 (by decide) ?_
  refine jx_iconst (v := 0) dX12_init_371 (by decide) ?_
  obtain ⟨x27, w28, hq26, hf⟩ := jbd2_inv hf
  refine jx_cSl (As := [.int 105, .int 0, .int 0, .int 0, .int 0, .int 0, .int 0]) (rest := [.int 5, .ref (E.2.2.2 + 169)]) dX12_init_372 ml_X12_112 ms_X12_letters (s_X12_letters hE hq26) rfl rfl rfl (by decide) (Nat.le_of_ble_eq_true rfl) ?_
  obtain ⟨c29, hf⟩ := jg_inv hf
  refine jx_last dX12_init_375 (kj_169 hE) (jin_vp c29) ?_
  obtain ⟨w30, hw30, hf⟩ := jl_inv hf
  refine jx_nw hw30 ?_
  refine jx_aload_n dX12_init_376 rfl ?_
  refine jx_getr dX12_init_377 fl_X12_34 (kj_162 hE) sr_162_9 ?_
  refine jx_bipush (v := 6) dX12_init_380 (by decide) ?_
  refine jx_bipush (v := 106) dX12_init_382 (by decide) ?_
  refine jx_iconst (v := 0) dX12_init_384 (by decide) ?_
  refine jx_iconst (v := 0) dX12_init_385 (by decide) ?_
  refine jx_iconst (v := 0) dX12_init_386 (by decide) ?_
  refine jx_iconst (v := 0) dX12_init_387 (by decide) ?_
  refine jx_iconst (v := 0) dX12_init_388 (by decide) ?_
  refine jx_iconst (v := 0) dX12_init_389 (by decide) ?_
  obtain ⟨x32, w33, hq31, hf⟩ := jbd2_inv hf
  refine jx_cSl (As := [.int 106, .int 0, .int 0, .int 0, .int 0, .int 0, .int 0]) (rest := [.int 6, .ref (E.2.2.2 + 169)]) dX12_init_390 ml_X12_112 ms_X12_letters (s_X12_letters hE hq31) rfl rfl rfl (by decide) (Nat.le_of_ble_eq_true rfl) ?_
  obtain ⟨c34, hf⟩ := jg_inv hf
  refine jx_last dX12_init_393 (kj_169 hE) (jin_vp c34) ?_
  obtain ⟨w35, hw35, hf⟩ := jl_inv hf
  refine jx_nw hw35 ?_
  refine jx_aload_n dX12_init_394 rfl ?_
  refine jx_getr dX12_init_395 fl_X12_34 (kj_162 hE) sr_162_9 ?_
  refine jx_bipush (v := 7) dX12_init_398 (by decide) ?_
  refine jx_bipush (v := 116) dX12_init_400 (by decide) ?_
  refine jx_bipush (v := 105) dX12_init_402 (by decide) ?_
  refine jx_bipush (v := 109) dX12_init_404 (by decide) ?_
  refine jx_bipush (v := 101) dX12_init_406 (by decide) ?_
  refine jx_iconst (v := 0) dX12_init_408 (by decide) ?_
  refine jx_iconst (v := 0) dX12_init_409 (by decide) ?_
  refine jx_iconst (v := 0) dX12_init_410 (by decide) ?_
  obtain ⟨x37, w38, hq36, hf⟩ := jbd2_inv hf
  refine jx_cSl (As := [.int 116, .int 105, .int 109, .int 101, .int 0, .int 0, .int 0]) (rest := [.int 7, .ref (E.2.2.2 + 169)]) dX12_init_411 ml_X12_112 ms_X12_letters (s_X12_letters hE hq36) rfl rfl rfl (by decide) (Nat.le_of_ble_eq_true rfl) ?_
  obtain ⟨c39, hf⟩ := jg_inv hf
  refine jx_last dX12_init_414 (kj_169 hE) (jin_vp c39) ?_
  obtain ⟨w40, hw40, hf⟩ := jl_inv hf
  refine jx_nw hw40 ?_
  refine jx_aload_n dX12_init_415 rfl ?_
  refine jx_getr dX12_init_416 fl_X12_34 (kj_162 hE) sr_162_9 ?_
  refine jx_bipush (v := 8) dX12_init_419 (by decide) ?_
  refine jx_bipush (v := 108) dX12_init_421 (by decide) ?_
  refine jx_bipush (v := 105) dX12_init_423 (by decide) ?_
  refine jx_bipush (v := 118) dX12_init_425 (by decide) ?_
  refine jx_bipush (v := 101) dX12_init_427 (by decide) ?_
  refine jx_iconst (v := 0) dX12_init_429 (by decide) ?_
  refine jx_iconst (v := 0) dX12_init_430 (by decide) ?_
  refine jx_iconst (v := 0) dX12_init_431 (by decide) ?_
  obtain ⟨x42, w43, hq41, hf⟩ := jbd2_inv hf
  refine jx_cSl (As := [.int 108, .int 105, .int 118, .int 101, .int 0, .int 0, .int 0]) (rest := [.int 8, .ref (E.2.2.2 + 169)]) dX12_init_432 ml_X12_112 ms_X12_letters (s_X12_letters hE hq41) rfl rfl rfl (by decide) (Nat.le_of_ble_eq_true rfl) ?_
  obtain ⟨c44, hf⟩ := jg_inv hf
  refine jx_last dX12_init_435 (kj_169 hE) (jin_vp c44) ?_
  obtain ⟨w45, hw45, hf⟩ := jl_inv hf
  refine jx_nw hw45 ?_
  refine jx_aload_n dX12_init_436 rfl ?_
  refine jx_getr dX12_init_437 fl_X12_34 (kj_162 hE) sr_162_9 ?_
  refine jx_bipush (v := 9) dX12_init_440 (by decide) ?_
  refine jx_bipush (v := 108) dX12_init_442 (by decide) ?_
  refine jx_bipush (v := 97) dX12_init_444 (by decide) ?_
  refine jx_bipush (v := 115) dX12_init_446 (by decide) ?_
  refine jx_bipush (v := 116) dX12_init_448 (by decide) ?_
  refine jx_iconst (v := 0) dX12_init_450 (by decide) ?_
  refine jx_iconst (v := 0) dX12_init_451 (by decide) ?_
  refine jx_iconst (v := 0) dX12_init_452 (by decide) ?_
  obtain ⟨x47, w48, hq46, hf⟩ := jbd2_inv hf
  refine jx_cSl (As := [.int 108, .int 97, .int 115, .int 116, .int 0, .int 0, .int 0]) (rest := [.int 9, .ref (E.2.2.2 + 169)]) dX12_init_453 ml_X12_112 ms_X12_letters (s_X12_letters hE hq46) rfl rfl rfl (by decide) (Nat.le_of_ble_eq_true rfl) ?_
  obtain ⟨c49, hf⟩ := jg_inv hf
  refine jx_last dX12_init_456 (kj_169 hE) (jin_vp c49) ?_
  obtain ⟨w50, hw50, hf⟩ := jl_inv hf
  refine jx_nw hw50 ?_
  refine jx_aload_n dX12_init_457 rfl ?_
  refine jx_getr dX12_init_458 fl_X12_34 (kj_162 hE) sr_162_9 ?_
  refine jx_bipush (v := 10) dX12_init_461 (by decide) ?_
  refine jx_bipush (v := 112) dX12_init_463 (by decide) ?_
  refine jx_bipush (v := 97) dX12_init_465 (by decide) ?_
  refine jx_bipush (v := 103) dX12_init_467 (by decide) ?_
  refine jx_bipush (v := 101) dX12_init_469 (by decide) ?_
  refine jx_bipush (v := 115) dX12_init_471 (by decide) ?_
  refine jx_iconst (v := 0) dX12_init_473 (by decide) ?_
  refine jx_iconst (v := 0) dX12_init_474 (by decide) ?_
  obtain ⟨x52, w53, hq51, hf⟩ := jbd2_inv hf
  refine jx_cSl (As := [.int 112, .int 97, .int 103, .int 101, .int 115, .int 0, .int 0]) (rest := [.int 10, .ref (E.2.2.2 + 169)]) dX12_init_475 ml_X12_112 ms_X12_letters (s_X12_letters hE hq51) rfl rfl rfl (by decide) (Nat.le_of_ble_eq_true rfl) ?_
  obtain ⟨c54, hf⟩ := jg_inv hf
  refine jx_last dX12_init_478 (kj_169 hE) (jin_vp c54) ?_
  obtain ⟨w55, hw55, hf⟩ := jl_inv hf
  refine jx_nw hw55 ?_
  refine jx_aload_n dX12_init_479 rfl ?_
  refine jx_bipush (v := 8) dX12_init_480 (by decide) ?_
  obtain ⟨q56, hq56, hf⟩ := jbd_inv hf
  refine jx_cVv (a := 162) (As := [.int 8]) (rest := []) dX12_init_482 ml_X12_116 mv_X12_begins (s_X12_begins hE hq56) rfl rfl (jc_162 hE) (by decide) (Nat.le_of_ble_eq_true rfl) ?_
  cases hf
  exact jx_vret dX12_init_485 rfl rfl
/-- the class's part of a world, beside the model's as it begins -/
def jwj (w : jw) : jw := (fun k j => if k < 162 then w.1 k j else if k = 162 ∧ j = 17 then -1 else 0, fun k => if k < 162 then w.2.1 k else fun _ => 0, fun k => if k < 162 then w.2.2.1 k else fun _ => 0, w.2.2.2)
def jh1 : jh := (jh0.1, jh0.2.1, 193, 161005)
def jE1 (E : jE) : jE := (E.1, E.2.1, fun i => if i = 999 then 0 else E.2.2.1 i, E.2.2.2)
theorem jE1_full (E : jE) : jfull (jE1 E) := rfl
theorem jcell_E1 {E : jE} {w : jw} {h : jh} {H : Heap} {k : Nat} {q : Nat × Nat} (hc : jcell E w h H k q) : jcell (jE1 E) w h H k q := by
  obtain ⟨t, n⟩ := q
  match t, hc with
  | 0, hc => exact hc
  | 1, hc => exact hc
  | 2, hc => exact hc
  | 3, hc => exact hc
  | 4, hc => exact hc
  | 5, hc => exact hc
  | t + 6, hc => exact hc
theorem jOk1 {E : jE} {w : jw} (hf : ¬ jfull E) (hO : jOk E w jh0) : jOk (jE1 E) (jwj w) jh1 := by
  have lo : ∀ (k : Nat) (q : Nat × Nat), jkd (jE1 E) k = some q → 6 ≤ q.1 → k < 162 := fun k q hk h6 => by
    apply Nat.lt_of_not_le
    intro g
    have := kdy_hi g (jkd_kd hk)
    omega
  refine ⟨fun k q hk h6 => ?_, fun k n hk => ?_, fun k n hk => ?_, fun k k' q q' _ _ _ _ e => ?_, fun k q hk => kdy_lt (jkd_kd hk), ?_, ?_, fun q => absurd (jE1_full E) q⟩
  · have l1 := lo k q hk h6
    obtain ⟨r1, r2, r3, r4⟩ := kdy_row l1 (jkd_kd hk) h6
    have z := hO.1 k q (jkd_lo l1 (jkd_kd hk)) h6
    refine ⟨z.1, z.2.1, Nat.lt_trans r1 (by decide), ?_⟩
    show jkd (jE1 E) (k + 1) = none
    unfold jkd
    rw [r2]
    split <;> rfl
  · exact hO.2.1 k n (jkd_lo (lo k _ hk (Nat.le_refl 6)) (jkd_kd hk))
  · exact hO.2.2.1 k n (jkd_lo (lo k _ hk (show 6 ≤ 7 by decide)) (jkd_kd hk))
  · have : k + 1 = k' + 1 := e
    omega
  · exact Nat.le_add_right _ _
  · exact Nat.le_trans (Nat.le_of_ble_eq_true rfl : 161005 ≤ 300000) (Nat.le_add_right _ _)
set_option maxRecDepth 20000 in
theorem jRel1 {E : jE} {w : jw} {H0 H : Heap} (hf : ¬ jfull E) (hR : jRel E w jh0 H0) (h : jraw (jE1 E) 162 H0 193 [(162, [.int 0, .ref (E.2.2.2 + 163), .int 0, .ref (E.2.2.2 + 164), .int 0, .ref (E.2.2.2 + 165), .ref (E.2.2.2 + 166), .ref (E.2.2.2 + 167), .ref (E.2.2.2 + 168), .ref (E.2.2.2 + 169), .int 0, .int 0, .int 0, .int 0, .int 0, .int 0, .int 0, .int (-1), .int 0, .ref (E.2.2.2 + 170), .ref (E.2.2.2 + 171), .ref (E.2.2.2 + 172), .ref (E.2.2.2 + 173), .ref (E.2.2.2 + 174), .int 0, .ref (E.2.2.2 + 175), .int 0, .ref (E.2.2.2 + 176), .ref (E.2.2.2 + 177), .ref (E.2.2.2 + 178), .int 0, .ref (E.2.2.2 + 179), .ref (E.2.2.2 + 180), .ref (E.2.2.2 + 181), .ref (E.2.2.2 + 182), .ref (E.2.2.2 + 183), .int 0, .int 0, .ref (E.2.2.2 + 184), .ref (E.2.2.2 + 185), .ref (E.2.2.2 + 186), .ref (E.2.2.2 + 187), .ref (E.2.2.2 + 188), .ref (E.2.2.2 + 189), .ref (E.2.2.2 + 190), .int 0, .ref (E.2.2.2 + 191), .ref (E.2.2.2 + 192)])] H) : jRel (jE1 E) (jwj w) jh1 H := by
  obtain ⟨h1, h2, h3, h4, h5, h6⟩ := h
  refine ⟨h1, fun k q hk => ?_⟩
  have hk' := jkd_kd hk
  by_cases hlt : k < 162
  · have hc := jcell_E1 (hR.2 k q (jkd_lo hlt hk'))
    refine jcell_kept hc ⟨?_, ?_, ?_, rfl⟩ (fun _ => rfl) (fun _ => rfl) (h3 _ (Nat.add_lt_add_left hlt _)) (fun g6 => h3 _ (Nat.add_lt_add_left (kdy_row hlt hk' g6).1 _))
    · funext j; exact if_pos hlt
    · exact if_pos hlt
    · exact if_pos hlt
  · have hk2 := kdy_lt hk'
    obtain ⟨t, n⟩ := q
    by_cases k0 : k = 162
    · subst k0
      cases hk'.symm.trans kd_162
      have hr := (h5 _ List.mem_cons_self).2.2
      rw [jgF_o kd_162] at hr
      obtain ⟨C, hC, hO⟩ := hr
      refine ⟨C, hC, hO.to (fun j hj => ?_)⟩
      have e48 : C.2.2 = 48 := by cases hC; rfl
      rw [e48] at hj
      rw [jv_gv]
      have ew : ∀ j, (jwj w).1 162 j = if j = 17 then -1 else 0 := fun j => by
        show (if (162 : Nat) < 162 then w.1 162 j else if (162 : Nat) = 162 ∧ j = 17 then (-1 : Int32) else 0) = _
        rw [if_neg (by decide)]
        simp
      have ho : (List.range 48).map (fun j => (sref 162 j, if j = 17 then (-1 : Int32) else 0)) = [(none, 0), (some 163, 0), (none, 0), (some 164, 0), (none, 0), (some 165, 0), (some 166, 0), (some 167, 0), (some 168, 0), (some 169, 0), (none, 0), (none, 0), (none, 0), (none, 0), (none, 0), (none, 0), (none, 0), (none, -1), (none, 0), (some 170, 0), (some 171, 0), (some 172, 0), (some 173, 0), (some 174, 0), (none, 0), (some 175, 0), (none, 0), (some 176, 0), (some 177, 0), (some 178, 0), (none, 0), (some 179, 0), (some 180, 0), (some 181, 0), (some 182, 0), (some 183, 0), (none, 0), (none, 0), (some 184, 0), (some 185, 0), (some 186, 0), (some 187, 0), (some 188, 0), (some 189, 0), (some 190, 0), (none, 0), (some 191, 0), (some 192, 0)] := by decide +kernel
      have hv : [.int 0, .ref (E.2.2.2 + 163), .int 0, .ref (E.2.2.2 + 164), .int 0, .ref (E.2.2.2 + 165), .ref (E.2.2.2 + 166), .ref (E.2.2.2 + 167), .ref (E.2.2.2 + 168), .ref (E.2.2.2 + 169), .int 0, .int 0, .int 0, .int 0, .int 0, .int 0, .int 0, .int (-1), .int 0, .ref (E.2.2.2 + 170), .ref (E.2.2.2 + 171), .ref (E.2.2.2 + 172), .ref (E.2.2.2 + 173), .ref (E.2.2.2 + 174), .int 0, .ref (E.2.2.2 + 175), .int 0, .ref (E.2.2.2 + 176), .ref (E.2.2.2 + 177), .ref (E.2.2.2 + 178), .int 0, .ref (E.2.2.2 + 179), .ref (E.2.2.2 + 180), .ref (E.2.2.2 + 181), .ref (E.2.2.2 + 182), .ref (E.2.2.2 + 183), .int 0, .int 0, .ref (E.2.2.2 + 184), .ref (E.2.2.2 + 185), .ref (E.2.2.2 + 186), .ref (E.2.2.2 + 187), .ref (E.2.2.2 + 188), .ref (E.2.2.2 + 189), .ref (E.2.2.2 + 190), .int 0, .ref (E.2.2.2 + 191), .ref (E.2.2.2 + 192)] = ((List.range 48).map (fun j => (sref 162 j, (jwj w).1 162 j))).map (jgv E.2.2.2) := by
        rw [show (fun j => (sref 162 j, (jwj w).1 162 j)) = (fun j => (sref 162 j, if j = 17 then (-1 : Int32) else 0)) from funext fun j => by rw [ew], ho]
        rfl
      show vp_V [.int 0, .ref (E.2.2.2 + 163), .int 0, .ref (E.2.2.2 + 164), .int 0, .ref (E.2.2.2 + 165), .ref (E.2.2.2 + 166), .ref (E.2.2.2 + 167), .ref (E.2.2.2 + 168), .ref (E.2.2.2 + 169), .int 0, .int 0, .int 0, .int 0, .int 0, .int 0, .int 0, .int (-1), .int 0, .ref (E.2.2.2 + 170), .ref (E.2.2.2 + 171), .ref (E.2.2.2 + 172), .ref (E.2.2.2 + 173), .ref (E.2.2.2 + 174), .int 0, .ref (E.2.2.2 + 175), .int 0, .ref (E.2.2.2 + 176), .ref (E.2.2.2 + 177), .ref (E.2.2.2 + 178), .int 0, .ref (E.2.2.2 + 179), .ref (E.2.2.2 + 180), .ref (E.2.2.2 + 181), .ref (E.2.2.2 + 182), .ref (E.2.2.2 + 183), .int 0, .int 0, .ref (E.2.2.2 + 184), .ref (E.2.2.2 + 185), .ref (E.2.2.2 + 186), .ref (E.2.2.2 + 187), .ref (E.2.2.2 + 188), .ref (E.2.2.2 + 189), .ref (E.2.2.2 + 190), .int 0, .ref (E.2.2.2 + 191), .ref (E.2.2.2 + 192)] j = jgv E.2.2.2 _
      rw [hv]
      simp [vp_V, hj]
    · have g6 := kdy_hi (Nat.le_of_not_lt hlt) hk'
      refine jcell_raw hk' (h4 k (Nat.le_of_not_lt hlt) hk2 (fun x hx => ?_)) (fun j _ => ?_) (if_neg hlt) (if_neg hlt) (fun q6 => absurd q6 (by simp only at g6; omega))
      · simp only [List.mem_cons, List.not_mem_nil, or_false] at hx
        subst hx
        exact fun e => k0 e.symm
      · show (if k < 162 then _ else if k = 162 ∧ j = 17 then (-1 : Int32) else 0) = (if kd k = some (0, 6) ∧ j = 8 then 8 else 0)
        rw [if_neg hlt, if_neg (fun e => k0 e.1), if_neg (fun e => ?_)]
        have z := List.all_eq_true.mp kd_no6 (k - 163) (List.mem_range.mpr (by omega))
        rw [show 163 + (k - 163) = k by omega, e.1] at z
        exact absurd z (by decide)
set_option maxRecDepth 20000 in
theorem i_X12 {E : jE} {H0 : Heap} {w w' : jw} (hf : ¬ jfull E) (hR : jRel E w jh0 H0) (hO : jOk E w jh0) (hq : f_X12_tail (jwj w) = some w') : ∃ h' : jh, jOk (jE1 E) w' h' ∧ 193 ≤ h'.2.2.1 ∧ 161005 ≤ h'.2.2.2 ∧ jD (jE1 E) m_X12_init 2 [.ref ((jE1 E).2.2.2 + 162)] 162 H0 163 3923 ((162, [.int 0, .null, .int 0, .null, .int 0, .null, .null, .null, .null, .null, .int 0, .int 0, .int 0, .int 0, .int 0, .int 0, .int 0, .int 0, .int 0, .null, .null, .null, .null, .null, .int 0, .null, .int 0, .null, .null, .null, .int 0, .null, .null, .null, .null, .null, .int 0, .int 0, .null, .null, .null, .null, .null, .null, .null, .int 0, .null, .null]) :: []) h'.2.2.1 h'.2.2.2 (jRel (jE1 E) w' h') := by
  obtain ⟨h', o1, c1, s1, hY⟩ := jy_sw (b := 162) (H0 := H0) (m := 193) (z := 161005) (s_X12_tail (jE1_full E) hq) (jOk1 hf hO) rfl rfl (fun H h => jRel1 hf hR h)
  refine ⟨h', o1, c1, s1, jD_of (ls := [(0, .ref ((jE1 E).2.2.2 + 162))]) (by decide) rfl rfl rfl (Nat.le_of_ble_eq_true rfl) rfl ?_⟩
  refine jy_aload_n dX12_init_0 rfl ?_
  refine jy_obj dX12_init_1 ol_X12_7 (by decide) (by decide) ?_
  refine jy_aload_n dX12_init_4 rfl ?_
  refine jy_sipush (v := nI 2000) dX12_init_5 (by decide) ?_
  refine jy_newa (atype := .byte) (t := 1) (n := 2000) dX12_init_8 tw_aB rfl (by decide) (jgk_2 kd_163) (by decide) (fun U cA h => h) ?_
  refine jy_putF (ci := 12) (j := 1) (a := 162) (i := 0) (xs1 := (162, [.int 0, .ref ((jE1 E).2.2.2 + 163), .int 0, .null, .int 0, .null, .null, .null, .null, .null, .int 0, .int 0, .int 0, .int 0, .int 0, .int 0, .int 0, .int 0, .int 0, .null, .null, .null, .null, .null, .int 0, .null, .int 0, .null, .null, .null, .int 0, .null, .null, .null, .null, .null, .int 0, .int 0, .null, .null, .null, .null, .null, .null, .null, .int 0, .null, .null]) :: []) dX12_init_10 ff_X12_13 rfl (jgk_o kd_162) (Nat.lt_of_succ_le (Nat.le_of_ble_eq_true rfl)) rfl rfl rfl ?_
  refine jy_aload_n dX12_init_13 rfl ?_
  refine jy_sipush (v := nI 2000) dX12_init_14 (by decide) ?_
  refine jy_newa (atype := .byte) (t := 1) (n := 2000) dX12_init_17 tw_aB rfl (by decide) (jgk_2 kd_164) (by decide) (fun U cA h => h) ?_
  refine jy_putF (ci := 12) (j := 3) (a := 162) (i := 0) (xs1 := (162, [.int 0, .ref ((jE1 E).2.2.2 + 163), .int 0, .ref ((jE1 E).2.2.2 + 164), .int 0, .null, .null, .null, .null, .null, .int 0, .int 0, .int 0, .int 0, .int 0, .int 0, .int 0, .int 0, .int 0, .null, .null, .null, .null, .null, .int 0, .null, .int 0, .null, .null, .null, .int 0, .null, .null, .null, .null, .null, .int 0, .int 0, .null, .null, .null, .null, .null, .null, .null, .int 0, .null, .null]) :: []) dX12_init_19 ff_X12_17 rfl (jgk_o kd_162) (Nat.lt_of_succ_le (Nat.le_of_ble_eq_true rfl)) rfl rfl rfl ?_
  refine jy_aload_n dX12_init_22 rfl ?_
  refine jy_sipush (v := nI 403) dX12_init_23 (by decide) ?_
  refine jy_newa (atype := .int) (t := 0) (n := 403) dX12_init_26 tw_aI rfl (by decide) (jgk_1 kd_165) (by decide) (fun U cA h => h) ?_
  refine jy_putF (ci := 12) (j := 5) (a := 162) (i := 0) (xs1 := (162, [.int 0, .ref ((jE1 E).2.2.2 + 163), .int 0, .ref ((jE1 E).2.2.2 + 164), .int 0, .ref ((jE1 E).2.2.2 + 165), .null, .null, .null, .null, .int 0, .int 0, .int 0, .int 0, .int 0, .int 0, .int 0, .int 0, .int 0, .null, .null, .null, .null, .null, .int 0, .null, .int 0, .null, .null, .null, .int 0, .null, .null, .null, .null, .null, .int 0, .int 0, .null, .null, .null, .null, .null, .null, .null, .int 0, .null, .null]) :: []) dX12_init_28 ff_X12_20 rfl (jgk_o kd_162) (Nat.lt_of_succ_le (Nat.le_of_ble_eq_true rfl)) rfl rfl rfl ?_
  refine jy_aload_n dX12_init_31 rfl ?_
  refine jy_sipush (v := nI 403) dX12_init_32 (by decide) ?_
  refine jy_newa (atype := .int) (t := 0) (n := 403) dX12_init_35 tw_aI rfl (by decide) (jgk_1 kd_166) (by decide) (fun U cA h => h) ?_
  refine jy_putF (ci := 12) (j := 6) (a := 162) (i := 0) (xs1 := (162, [.int 0, .ref ((jE1 E).2.2.2 + 163), .int 0, .ref ((jE1 E).2.2.2 + 164), .int 0, .ref ((jE1 E).2.2.2 + 165), .ref ((jE1 E).2.2.2 + 166), .null, .null, .null, .int 0, .int 0, .int 0, .int 0, .int 0, .int 0, .int 0, .int 0, .int 0, .null, .null, .null, .null, .null, .int 0, .null, .int 0, .null, .null, .null, .int 0, .null, .null, .null, .null, .null, .int 0, .int 0, .null, .null, .null, .null, .null, .null, .null, .int 0, .null, .null]) :: []) dX12_init_37 ff_X12_24 rfl (jgk_o kd_162) (Nat.lt_of_succ_le (Nat.le_of_ble_eq_true rfl)) rfl rfl rfl ?_
  refine jy_aload_n dX12_init_40 rfl ?_
  refine jy_sipush (v := nI 403) dX12_init_41 (by decide) ?_
  refine jy_newa (atype := .int) (t := 0) (n := 403) dX12_init_44 tw_aI rfl (by decide) (jgk_1 kd_167) (by decide) (fun U cA h => h) ?_
  refine jy_putF (ci := 12) (j := 7) (a := 162) (i := 0) (xs1 := (162, [.int 0, .ref ((jE1 E).2.2.2 + 163), .int 0, .ref ((jE1 E).2.2.2 + 164), .int 0, .ref ((jE1 E).2.2.2 + 165), .ref ((jE1 E).2.2.2 + 166), .ref ((jE1 E).2.2.2 + 167), .null, .null, .int 0, .int 0, .int 0, .int 0, .int 0, .int 0, .int 0, .int 0, .int 0, .null, .null, .null, .null, .null, .int 0, .null, .int 0, .null, .null, .null, .int 0, .null, .null, .null, .null, .null, .int 0, .int 0, .null, .null, .null, .null, .null, .null, .null, .int 0, .null, .null]) :: []) dX12_init_46 ff_X12_27 rfl (jgk_o kd_162) (Nat.lt_of_succ_le (Nat.le_of_ble_eq_true rfl)) rfl rfl rfl ?_
  refine jy_aload_n dX12_init_49 rfl ?_
  refine jy_sipush (v := nI 403) dX12_init_50 (by decide) ?_
  refine jy_newa (atype := .long) (t := 2) (n := 403) dX12_init_53 tw_aL rfl (by decide) (jgk_4 kd_168) (by decide) (fun U cA h => h) ?_
  refine jy_putF (ci := 12) (j := 8) (a := 162) (i := 0) (xs1 := (162, [.int 0, .ref ((jE1 E).2.2.2 + 163), .int 0, .ref ((jE1 E).2.2.2 + 164), .int 0, .ref ((jE1 E).2.2.2 + 165), .ref ((jE1 E).2.2.2 + 166), .ref ((jE1 E).2.2.2 + 167), .ref ((jE1 E).2.2.2 + 168), .null, .int 0, .int 0, .int 0, .int 0, .int 0, .int 0, .int 0, .int 0, .int 0, .null, .null, .null, .null, .null, .int 0, .null, .int 0, .null, .null, .null, .int 0, .null, .null, .null, .null, .null, .int 0, .int 0, .null, .null, .null, .null, .null, .null, .null, .int 0, .null, .null]) :: []) dX12_init_55 ff_X12_30 rfl (jgk_o kd_162) (Nat.lt_of_succ_le (Nat.le_of_ble_eq_true rfl)) rfl rfl rfl ?_
  refine jy_aload_n dX12_init_58 rfl ?_
  refine jy_bipush (v := nI 11) dX12_init_59 (by decide) ?_
  refine jy_newa (atype := .long) (t := 2) (n := 11) dX12_init_61 tw_aL rfl (by decide) (jgk_4 kd_169) (by decide) (fun U cA h => h) ?_
  refine jy_putF (ci := 12) (j := 9) (a := 162) (i := 0) (xs1 := (162, [.int 0, .ref ((jE1 E).2.2.2 + 163), .int 0, .ref ((jE1 E).2.2.2 + 164), .int 0, .ref ((jE1 E).2.2.2 + 165), .ref ((jE1 E).2.2.2 + 166), .ref ((jE1 E).2.2.2 + 167), .ref ((jE1 E).2.2.2 + 168), .ref ((jE1 E).2.2.2 + 169), .int 0, .int 0, .int 0, .int 0, .int 0, .int 0, .int 0, .int 0, .int 0, .null, .null, .null, .null, .null, .int 0, .null, .int 0, .null, .null, .null, .int 0, .null, .null, .null, .null, .null, .int 0, .int 0, .null, .null, .null, .null, .null, .null, .null, .int 0, .null, .null]) :: []) dX12_init_63 ff_X12_34 rfl (jgk_o kd_162) (Nat.lt_of_succ_le (Nat.le_of_ble_eq_true rfl)) rfl rfl rfl ?_
  refine jy_aload_n dX12_init_66 rfl ?_
  refine jy_iconst (v := -1) dX12_init_67 (by decide) ?_
  refine jy_put (ci := 12) (j := 17) (a := 162) (i := 0) (xs1 := (162, [.int 0, .ref ((jE1 E).2.2.2 + 163), .int 0, .ref ((jE1 E).2.2.2 + 164), .int 0, .ref ((jE1 E).2.2.2 + 165), .ref ((jE1 E).2.2.2 + 166), .ref ((jE1 E).2.2.2 + 167), .ref ((jE1 E).2.2.2 + 168), .ref ((jE1 E).2.2.2 + 169), .int 0, .int 0, .int 0, .int 0, .int 0, .int 0, .int 0, .int (-1), .int 0, .null, .null, .null, .null, .null, .int 0, .null, .int 0, .null, .null, .null, .int 0, .null, .null, .null, .null, .null, .int 0, .int 0, .null, .null, .null, .null, .null, .null, .null, .int 0, .null, .null]) :: []) dX12_init_68 fp_X12_37 rfl (jgk_o kd_162) (Nat.lt_of_succ_le (Nat.le_of_ble_eq_true rfl)) rfl rfl rfl ?_
  refine jy_aload_n dX12_init_71 rfl ?_
  refine jy_sipush (v := nI 210) dX12_init_72 (by decide) ?_
  refine jy_newa (atype := .int) (t := 0) (n := 210) dX12_init_75 tw_aI rfl (by decide) (jgk_1 kd_170) (by decide) (fun U cA h => h) ?_
  refine jy_putF (ci := 12) (j := 19) (a := 162) (i := 0) (xs1 := (162, [.int 0, .ref ((jE1 E).2.2.2 + 163), .int 0, .ref ((jE1 E).2.2.2 + 164), .int 0, .ref ((jE1 E).2.2.2 + 165), .ref ((jE1 E).2.2.2 + 166), .ref ((jE1 E).2.2.2 + 167), .ref ((jE1 E).2.2.2 + 168), .ref ((jE1 E).2.2.2 + 169), .int 0, .int 0, .int 0, .int 0, .int 0, .int 0, .int 0, .int (-1), .int 0, .ref ((jE1 E).2.2.2 + 170), .null, .null, .null, .null, .int 0, .null, .int 0, .null, .null, .null, .int 0, .null, .null, .null, .null, .null, .int 0, .int 0, .null, .null, .null, .null, .null, .null, .null, .int 0, .null, .null]) :: []) dX12_init_77 ff_X12_40 rfl (jgk_o kd_162) (Nat.lt_of_succ_le (Nat.le_of_ble_eq_true rfl)) rfl rfl rfl ?_
  refine jy_aload_n dX12_init_80 rfl ?_
  refine jy_sipush (v := nI 210) dX12_init_81 (by decide) ?_
  refine jy_newa (atype := .int) (t := 0) (n := 210) dX12_init_84 tw_aI rfl (by decide) (jgk_1 kd_171) (by decide) (fun U cA h => h) ?_
  refine jy_putF (ci := 12) (j := 20) (a := 162) (i := 0) (xs1 := (162, [.int 0, .ref ((jE1 E).2.2.2 + 163), .int 0, .ref ((jE1 E).2.2.2 + 164), .int 0, .ref ((jE1 E).2.2.2 + 165), .ref ((jE1 E).2.2.2 + 166), .ref ((jE1 E).2.2.2 + 167), .ref ((jE1 E).2.2.2 + 168), .ref ((jE1 E).2.2.2 + 169), .int 0, .int 0, .int 0, .int 0, .int 0, .int 0, .int 0, .int (-1), .int 0, .ref ((jE1 E).2.2.2 + 170), .ref ((jE1 E).2.2.2 + 171), .null, .null, .null, .int 0, .null, .int 0, .null, .null, .null, .int 0, .null, .null, .null, .null, .null, .int 0, .int 0, .null, .null, .null, .null, .null, .null, .null, .int 0, .null, .null]) :: []) dX12_init_86 ff_X12_43 rfl (jgk_o kd_162) (Nat.lt_of_succ_le (Nat.le_of_ble_eq_true rfl)) rfl rfl rfl ?_
  refine jy_aload_n dX12_init_89 rfl ?_
  refine jy_sipush (v := nI 210) dX12_init_90 (by decide) ?_
  refine jy_newa (atype := .int) (t := 0) (n := 210) dX12_init_93 tw_aI rfl (by decide) (jgk_1 kd_172) (by decide) (fun U cA h => h) ?_
  refine jy_putF (ci := 12) (j := 21) (a := 162) (i := 0) (xs1 := (162, [.int 0, .ref ((jE1 E).2.2.2 + 163), .int 0, .ref ((jE1 E).2.2.2 + 164), .int 0, .ref ((jE1 E).2.2.2 + 165), .ref ((jE1 E).2.2.2 + 166), .ref ((jE1 E).2.2.2 + 167), .ref ((jE1 E).2.2.2 + 168), .ref ((jE1 E).2.2.2 + 169), .int 0, .int 0, .int 0, .int 0, .int 0, .int 0, .int 0, .int (-1), .int 0, .ref ((jE1 E).2.2.2 + 170), .ref ((jE1 E).2.2.2 + 171), .ref ((jE1 E).2.2.2 + 172), .null, .null, .int 0, .null, .int 0, .null, .null, .null, .int 0, .null, .null, .null, .null, .null, .int 0, .int 0, .null, .null, .null, .null, .null, .null, .null, .int 0, .null, .null]) :: []) dX12_init_95 ff_X12_46 rfl (jgk_o kd_162) (Nat.lt_of_succ_le (Nat.le_of_ble_eq_true rfl)) rfl rfl rfl ?_
  refine jy_aload_n dX12_init_98 rfl ?_
  refine jy_sipush (v := nI 210) dX12_init_99 (by decide) ?_
  refine jy_newa (atype := .int) (t := 0) (n := 210) dX12_init_102 tw_aI rfl (by decide) (jgk_1 kd_173) (by decide) (fun U cA h => h) ?_
  refine jy_putF (ci := 12) (j := 22) (a := 162) (i := 0) (xs1 := (162, [.int 0, .ref ((jE1 E).2.2.2 + 163), .int 0, .ref ((jE1 E).2.2.2 + 164), .int 0, .ref ((jE1 E).2.2.2 + 165), .ref ((jE1 E).2.2.2 + 166), .ref ((jE1 E).2.2.2 + 167), .ref ((jE1 E).2.2.2 + 168), .ref ((jE1 E).2.2.2 + 169), .int 0, .int 0, .int 0, .int 0, .int 0, .int 0, .int 0, .int (-1), .int 0, .ref ((jE1 E).2.2.2 + 170), .ref ((jE1 E).2.2.2 + 171), .ref ((jE1 E).2.2.2 + 172), .ref ((jE1 E).2.2.2 + 173), .null, .int 0, .null, .int 0, .null, .null, .null, .int 0, .null, .null, .null, .null, .null, .int 0, .int 0, .null, .null, .null, .null, .null, .null, .null, .int 0, .null, .null]) :: []) dX12_init_104 ff_X12_49 rfl (jgk_o kd_162) (Nat.lt_of_succ_le (Nat.le_of_ble_eq_true rfl)) rfl rfl rfl ?_
  refine jy_aload_n dX12_init_107 rfl ?_
  refine jy_sipush (v := nI 210) dX12_init_108 (by decide) ?_
  refine jy_newa (atype := .int) (t := 0) (n := 210) dX12_init_111 tw_aI rfl (by decide) (jgk_1 kd_174) (by decide) (fun U cA h => h) ?_
  refine jy_putF (ci := 12) (j := 23) (a := 162) (i := 0) (xs1 := (162, [.int 0, .ref ((jE1 E).2.2.2 + 163), .int 0, .ref ((jE1 E).2.2.2 + 164), .int 0, .ref ((jE1 E).2.2.2 + 165), .ref ((jE1 E).2.2.2 + 166), .ref ((jE1 E).2.2.2 + 167), .ref ((jE1 E).2.2.2 + 168), .ref ((jE1 E).2.2.2 + 169), .int 0, .int 0, .int 0, .int 0, .int 0, .int 0, .int 0, .int (-1), .int 0, .ref ((jE1 E).2.2.2 + 170), .ref ((jE1 E).2.2.2 + 171), .ref ((jE1 E).2.2.2 + 172), .ref ((jE1 E).2.2.2 + 173), .ref ((jE1 E).2.2.2 + 174), .int 0, .null, .int 0, .null, .null, .null, .int 0, .null, .null, .null, .null, .null, .int 0, .int 0, .null, .null, .null, .null, .null, .null, .null, .int 0, .null, .null]) :: []) dX12_init_113 ff_X12_52 rfl (jgk_o kd_162) (Nat.lt_of_succ_le (Nat.le_of_ble_eq_true rfl)) rfl rfl rfl ?_
  refine jy_aload_n dX12_init_116 rfl ?_
  refine jy_iconst (v := nI 3) dX12_init_117 (by decide) ?_
  refine jy_newa (atype := .int) (t := 0) (n := 3) dX12_init_118 tw_aI rfl (by decide) (jgk_1 kd_175) (by decide) (fun U cA h => h) ?_
  refine jy_putF (ci := 12) (j := 25) (a := 162) (i := 0) (xs1 := (162, [.int 0, .ref ((jE1 E).2.2.2 + 163), .int 0, .ref ((jE1 E).2.2.2 + 164), .int 0, .ref ((jE1 E).2.2.2 + 165), .ref ((jE1 E).2.2.2 + 166), .ref ((jE1 E).2.2.2 + 167), .ref ((jE1 E).2.2.2 + 168), .ref ((jE1 E).2.2.2 + 169), .int 0, .int 0, .int 0, .int 0, .int 0, .int 0, .int 0, .int (-1), .int 0, .ref ((jE1 E).2.2.2 + 170), .ref ((jE1 E).2.2.2 + 171), .ref ((jE1 E).2.2.2 + 172), .ref ((jE1 E).2.2.2 + 173), .ref ((jE1 E).2.2.2 + 174), .int 0, .ref ((jE1 E).2.2.2 + 175), .int 0, .null, .null, .null, .int 0, .null, .null, .null, .null, .null, .int 0, .int 0, .null, .null, .null, .null, .null, .null, .null, .int 0, .null, .null]) :: []) dX12_init_120 ff_X12_55 rfl (jgk_o kd_162) (Nat.lt_of_succ_le (Nat.le_of_ble_eq_true rfl)) rfl rfl rfl ?_
  refine jy_aload_n dX12_init_123 rfl ?_
  refine jy_sipush (v := nI 420) dX12_init_124 (by decide) ?_
  refine jy_newa (atype := .int) (t := 0) (n := 420) dX12_init_127 tw_aI rfl (by decide) (jgk_1 kd_176) (by decide) (fun U cA h => h) ?_
  refine jy_putF (ci := 12) (j := 27) (a := 162) (i := 0) (xs1 := (162, [.int 0, .ref ((jE1 E).2.2.2 + 163), .int 0, .ref ((jE1 E).2.2.2 + 164), .int 0, .ref ((jE1 E).2.2.2 + 165), .ref ((jE1 E).2.2.2 + 166), .ref ((jE1 E).2.2.2 + 167), .ref ((jE1 E).2.2.2 + 168), .ref ((jE1 E).2.2.2 + 169), .int 0, .int 0, .int 0, .int 0, .int 0, .int 0, .int 0, .int (-1), .int 0, .ref ((jE1 E).2.2.2 + 170), .ref ((jE1 E).2.2.2 + 171), .ref ((jE1 E).2.2.2 + 172), .ref ((jE1 E).2.2.2 + 173), .ref ((jE1 E).2.2.2 + 174), .int 0, .ref ((jE1 E).2.2.2 + 175), .int 0, .ref ((jE1 E).2.2.2 + 176), .null, .null, .int 0, .null, .null, .null, .null, .null, .int 0, .int 0, .null, .null, .null, .null, .null, .null, .null, .int 0, .null, .null]) :: []) dX12_init_129 ff_X12_58 rfl (jgk_o kd_162) (Nat.lt_of_succ_le (Nat.le_of_ble_eq_true rfl)) rfl rfl rfl ?_
  refine jy_aload_n dX12_init_132 rfl ?_
  refine jy_sipush (v := nI 420) dX12_init_133 (by decide) ?_
  refine jy_newa (atype := .int) (t := 0) (n := 420) dX12_init_136 tw_aI rfl (by decide) (jgk_1 kd_177) (by decide) (fun U cA h => h) ?_
  refine jy_putF (ci := 12) (j := 28) (a := 162) (i := 0) (xs1 := (162, [.int 0, .ref ((jE1 E).2.2.2 + 163), .int 0, .ref ((jE1 E).2.2.2 + 164), .int 0, .ref ((jE1 E).2.2.2 + 165), .ref ((jE1 E).2.2.2 + 166), .ref ((jE1 E).2.2.2 + 167), .ref ((jE1 E).2.2.2 + 168), .ref ((jE1 E).2.2.2 + 169), .int 0, .int 0, .int 0, .int 0, .int 0, .int 0, .int 0, .int (-1), .int 0, .ref ((jE1 E).2.2.2 + 170), .ref ((jE1 E).2.2.2 + 171), .ref ((jE1 E).2.2.2 + 172), .ref ((jE1 E).2.2.2 + 173), .ref ((jE1 E).2.2.2 + 174), .int 0, .ref ((jE1 E).2.2.2 + 175), .int 0, .ref ((jE1 E).2.2.2 + 176), .ref ((jE1 E).2.2.2 + 177), .null, .int 0, .null, .null, .null, .null, .null, .int 0, .int 0, .null, .null, .null, .null, .null, .null, .null, .int 0, .null, .null]) :: []) dX12_init_138 ff_X12_61 rfl (jgk_o kd_162) (Nat.lt_of_succ_le (Nat.le_of_ble_eq_true rfl)) rfl rfl rfl ?_
  refine jy_aload_n dX12_init_141 rfl ?_
  refine jy_bipush (v := nI 64) dX12_init_142 (by decide) ?_
  refine jy_newa (atype := .int) (t := 0) (n := 64) dX12_init_144 tw_aI rfl (by decide) (jgk_1 kd_178) (by decide) (fun U cA h => h) ?_
  refine jy_putF (ci := 12) (j := 29) (a := 162) (i := 0) (xs1 := (162, [.int 0, .ref ((jE1 E).2.2.2 + 163), .int 0, .ref ((jE1 E).2.2.2 + 164), .int 0, .ref ((jE1 E).2.2.2 + 165), .ref ((jE1 E).2.2.2 + 166), .ref ((jE1 E).2.2.2 + 167), .ref ((jE1 E).2.2.2 + 168), .ref ((jE1 E).2.2.2 + 169), .int 0, .int 0, .int 0, .int 0, .int 0, .int 0, .int 0, .int (-1), .int 0, .ref ((jE1 E).2.2.2 + 170), .ref ((jE1 E).2.2.2 + 171), .ref ((jE1 E).2.2.2 + 172), .ref ((jE1 E).2.2.2 + 173), .ref ((jE1 E).2.2.2 + 174), .int 0, .ref ((jE1 E).2.2.2 + 175), .int 0, .ref ((jE1 E).2.2.2 + 176), .ref ((jE1 E).2.2.2 + 177), .ref ((jE1 E).2.2.2 + 178), .int 0, .null, .null, .null, .null, .null, .int 0, .int 0, .null, .null, .null, .null, .null, .null, .null, .int 0, .null, .null]) :: []) dX12_init_146 ff_X12_64 rfl (jgk_o kd_162) (Nat.lt_of_succ_le (Nat.le_of_ble_eq_true rfl)) rfl rfl rfl ?_
  refine jy_aload_n dX12_init_149 rfl ?_
  refine jy_bipush (v := nI 6) dX12_init_150 (by decide) ?_
  refine jy_newa (atype := .int) (t := 0) (n := 6) dX12_init_152 tw_aI rfl (by decide) (jgk_1 kd_179) (by decide) (fun U cA h => h) ?_
  refine jy_putF (ci := 12) (j := 31) (a := 162) (i := 0) (xs1 := (162, [.int 0, .ref ((jE1 E).2.2.2 + 163), .int 0, .ref ((jE1 E).2.2.2 + 164), .int 0, .ref ((jE1 E).2.2.2 + 165), .ref ((jE1 E).2.2.2 + 166), .ref ((jE1 E).2.2.2 + 167), .ref ((jE1 E).2.2.2 + 168), .ref ((jE1 E).2.2.2 + 169), .int 0, .int 0, .int 0, .int 0, .int 0, .int 0, .int 0, .int (-1), .int 0, .ref ((jE1 E).2.2.2 + 170), .ref ((jE1 E).2.2.2 + 171), .ref ((jE1 E).2.2.2 + 172), .ref ((jE1 E).2.2.2 + 173), .ref ((jE1 E).2.2.2 + 174), .int 0, .ref ((jE1 E).2.2.2 + 175), .int 0, .ref ((jE1 E).2.2.2 + 176), .ref ((jE1 E).2.2.2 + 177), .ref ((jE1 E).2.2.2 + 178), .int 0, .ref ((jE1 E).2.2.2 + 179), .null, .null, .null, .null, .int 0, .int 0, .null, .null, .null, .null, .null, .null, .null, .int 0, .null, .null]) :: []) dX12_init_154 ff_X12_67 rfl (jgk_o kd_162) (Nat.lt_of_succ_le (Nat.le_of_ble_eq_true rfl)) rfl rfl rfl ?_
  refine jy_aload_n dX12_init_157 rfl ?_
  refine jy_sipush (v := nI 400) dX12_init_158 (by decide) ?_
  refine jy_newa (atype := .int) (t := 0) (n := 400) dX12_init_161 tw_aI rfl (by decide) (jgk_1 kd_180) (by decide) (fun U cA h => h) ?_
  refine jy_putF (ci := 12) (j := 32) (a := 162) (i := 0) (xs1 := (162, [.int 0, .ref ((jE1 E).2.2.2 + 163), .int 0, .ref ((jE1 E).2.2.2 + 164), .int 0, .ref ((jE1 E).2.2.2 + 165), .ref ((jE1 E).2.2.2 + 166), .ref ((jE1 E).2.2.2 + 167), .ref ((jE1 E).2.2.2 + 168), .ref ((jE1 E).2.2.2 + 169), .int 0, .int 0, .int 0, .int 0, .int 0, .int 0, .int 0, .int (-1), .int 0, .ref ((jE1 E).2.2.2 + 170), .ref ((jE1 E).2.2.2 + 171), .ref ((jE1 E).2.2.2 + 172), .ref ((jE1 E).2.2.2 + 173), .ref ((jE1 E).2.2.2 + 174), .int 0, .ref ((jE1 E).2.2.2 + 175), .int 0, .ref ((jE1 E).2.2.2 + 176), .ref ((jE1 E).2.2.2 + 177), .ref ((jE1 E).2.2.2 + 178), .int 0, .ref ((jE1 E).2.2.2 + 179), .ref ((jE1 E).2.2.2 + 180), .null, .null, .null, .int 0, .int 0, .null, .null, .null, .null, .null, .null, .null, .int 0, .null, .null]) :: []) dX12_init_163 ff_X12_70 rfl (jgk_o kd_162) (Nat.lt_of_succ_le (Nat.le_of_ble_eq_true rfl)) rfl rfl rfl ?_
  refine jy_aload_n dX12_init_166 rfl ?_
  refine jy_iconst (v := nI 3) dX12_init_167 (by decide) ?_
  refine jy_newa (atype := .int) (t := 0) (n := 3) dX12_init_168 tw_aI rfl (by decide) (jgk_1 kd_181) (by decide) (fun U cA h => h) ?_
  refine jy_putF (ci := 12) (j := 33) (a := 162) (i := 0) (xs1 := (162, [.int 0, .ref ((jE1 E).2.2.2 + 163), .int 0, .ref ((jE1 E).2.2.2 + 164), .int 0, .ref ((jE1 E).2.2.2 + 165), .ref ((jE1 E).2.2.2 + 166), .ref ((jE1 E).2.2.2 + 167), .ref ((jE1 E).2.2.2 + 168), .ref ((jE1 E).2.2.2 + 169), .int 0, .int 0, .int 0, .int 0, .int 0, .int 0, .int 0, .int (-1), .int 0, .ref ((jE1 E).2.2.2 + 170), .ref ((jE1 E).2.2.2 + 171), .ref ((jE1 E).2.2.2 + 172), .ref ((jE1 E).2.2.2 + 173), .ref ((jE1 E).2.2.2 + 174), .int 0, .ref ((jE1 E).2.2.2 + 175), .int 0, .ref ((jE1 E).2.2.2 + 176), .ref ((jE1 E).2.2.2 + 177), .ref ((jE1 E).2.2.2 + 178), .int 0, .ref ((jE1 E).2.2.2 + 179), .ref ((jE1 E).2.2.2 + 180), .ref ((jE1 E).2.2.2 + 181), .null, .null, .int 0, .int 0, .null, .null, .null, .null, .null, .null, .null, .int 0, .null, .null]) :: []) dX12_init_170 ff_X12_73 rfl (jgk_o kd_162) (Nat.lt_of_succ_le (Nat.le_of_ble_eq_true rfl)) rfl rfl rfl ?_
  refine jy_aload_n dX12_init_173 rfl ?_
  refine jy_ldc (v := nI 34700) dX12_init_174 kc_X12_76 ?_
  refine jy_newa (atype := .int) (t := 0) (n := 34700) dX12_init_176 tw_aI rfl (by decide) (jgk_1 kd_182) (by decide) (fun U cA h => h) ?_
  refine jy_putF (ci := 12) (j := 34) (a := 162) (i := 0) (xs1 := (162, [.int 0, .ref ((jE1 E).2.2.2 + 163), .int 0, .ref ((jE1 E).2.2.2 + 164), .int 0, .ref ((jE1 E).2.2.2 + 165), .ref ((jE1 E).2.2.2 + 166), .ref ((jE1 E).2.2.2 + 167), .ref ((jE1 E).2.2.2 + 168), .ref ((jE1 E).2.2.2 + 169), .int 0, .int 0, .int 0, .int 0, .int 0, .int 0, .int 0, .int (-1), .int 0, .ref ((jE1 E).2.2.2 + 170), .ref ((jE1 E).2.2.2 + 171), .ref ((jE1 E).2.2.2 + 172), .ref ((jE1 E).2.2.2 + 173), .ref ((jE1 E).2.2.2 + 174), .int 0, .ref ((jE1 E).2.2.2 + 175), .int 0, .ref ((jE1 E).2.2.2 + 176), .ref ((jE1 E).2.2.2 + 177), .ref ((jE1 E).2.2.2 + 178), .int 0, .ref ((jE1 E).2.2.2 + 179), .ref ((jE1 E).2.2.2 + 180), .ref ((jE1 E).2.2.2 + 181), .ref ((jE1 E).2.2.2 + 182), .null, .int 0, .int 0, .null, .null, .null, .null, .null, .null, .null, .int 0, .null, .null]) :: []) dX12_init_178 ff_X12_77 rfl (jgk_o kd_162) (Nat.lt_of_succ_le (Nat.le_of_ble_eq_true rfl)) rfl rfl rfl ?_
  refine jy_aload_n dX12_init_181 rfl ?_
  refine jy_bipush (v := nI 40) dX12_init_182 (by decide) ?_
  refine jy_newa (atype := .int) (t := 0) (n := 40) dX12_init_184 tw_aI rfl (by decide) (jgk_1 kd_183) (by decide) (fun U cA h => h) ?_
  refine jy_putF (ci := 12) (j := 35) (a := 162) (i := 0) (xs1 := (162, [.int 0, .ref ((jE1 E).2.2.2 + 163), .int 0, .ref ((jE1 E).2.2.2 + 164), .int 0, .ref ((jE1 E).2.2.2 + 165), .ref ((jE1 E).2.2.2 + 166), .ref ((jE1 E).2.2.2 + 167), .ref ((jE1 E).2.2.2 + 168), .ref ((jE1 E).2.2.2 + 169), .int 0, .int 0, .int 0, .int 0, .int 0, .int 0, .int 0, .int (-1), .int 0, .ref ((jE1 E).2.2.2 + 170), .ref ((jE1 E).2.2.2 + 171), .ref ((jE1 E).2.2.2 + 172), .ref ((jE1 E).2.2.2 + 173), .ref ((jE1 E).2.2.2 + 174), .int 0, .ref ((jE1 E).2.2.2 + 175), .int 0, .ref ((jE1 E).2.2.2 + 176), .ref ((jE1 E).2.2.2 + 177), .ref ((jE1 E).2.2.2 + 178), .int 0, .ref ((jE1 E).2.2.2 + 179), .ref ((jE1 E).2.2.2 + 180), .ref ((jE1 E).2.2.2 + 181), .ref ((jE1 E).2.2.2 + 182), .ref ((jE1 E).2.2.2 + 183), .int 0, .int 0, .null, .null, .null, .null, .null, .null, .null, .int 0, .null, .null]) :: []) dX12_init_186 ff_X12_80 rfl (jgk_o kd_162) (Nat.lt_of_succ_le (Nat.le_of_ble_eq_true rfl)) rfl rfl rfl ?_
  refine jy_aload_n dX12_init_189 rfl ?_
  refine jy_bipush (v := nI 40) dX12_init_190 (by decide) ?_
  refine jy_newa (atype := .int) (t := 0) (n := 40) dX12_init_192 tw_aI rfl (by decide) (jgk_1 kd_184) (by decide) (fun U cA h => h) ?_
  refine jy_putF (ci := 12) (j := 38) (a := 162) (i := 0) (xs1 := (162, [.int 0, .ref ((jE1 E).2.2.2 + 163), .int 0, .ref ((jE1 E).2.2.2 + 164), .int 0, .ref ((jE1 E).2.2.2 + 165), .ref ((jE1 E).2.2.2 + 166), .ref ((jE1 E).2.2.2 + 167), .ref ((jE1 E).2.2.2 + 168), .ref ((jE1 E).2.2.2 + 169), .int 0, .int 0, .int 0, .int 0, .int 0, .int 0, .int 0, .int (-1), .int 0, .ref ((jE1 E).2.2.2 + 170), .ref ((jE1 E).2.2.2 + 171), .ref ((jE1 E).2.2.2 + 172), .ref ((jE1 E).2.2.2 + 173), .ref ((jE1 E).2.2.2 + 174), .int 0, .ref ((jE1 E).2.2.2 + 175), .int 0, .ref ((jE1 E).2.2.2 + 176), .ref ((jE1 E).2.2.2 + 177), .ref ((jE1 E).2.2.2 + 178), .int 0, .ref ((jE1 E).2.2.2 + 179), .ref ((jE1 E).2.2.2 + 180), .ref ((jE1 E).2.2.2 + 181), .ref ((jE1 E).2.2.2 + 182), .ref ((jE1 E).2.2.2 + 183), .int 0, .int 0, .ref ((jE1 E).2.2.2 + 184), .null, .null, .null, .null, .null, .null, .int 0, .null, .null]) :: []) dX12_init_194 ff_X12_83 rfl (jgk_o kd_162) (Nat.lt_of_succ_le (Nat.le_of_ble_eq_true rfl)) rfl rfl rfl ?_
  refine jy_aload_n dX12_init_197 rfl ?_
  refine jy_bipush (v := nI 40) dX12_init_198 (by decide) ?_
  refine jy_newa (atype := .int) (t := 0) (n := 40) dX12_init_200 tw_aI rfl (by decide) (jgk_1 kd_185) (by decide) (fun U cA h => h) ?_
  refine jy_putF (ci := 12) (j := 39) (a := 162) (i := 0) (xs1 := (162, [.int 0, .ref ((jE1 E).2.2.2 + 163), .int 0, .ref ((jE1 E).2.2.2 + 164), .int 0, .ref ((jE1 E).2.2.2 + 165), .ref ((jE1 E).2.2.2 + 166), .ref ((jE1 E).2.2.2 + 167), .ref ((jE1 E).2.2.2 + 168), .ref ((jE1 E).2.2.2 + 169), .int 0, .int 0, .int 0, .int 0, .int 0, .int 0, .int 0, .int (-1), .int 0, .ref ((jE1 E).2.2.2 + 170), .ref ((jE1 E).2.2.2 + 171), .ref ((jE1 E).2.2.2 + 172), .ref ((jE1 E).2.2.2 + 173), .ref ((jE1 E).2.2.2 + 174), .int 0, .ref ((jE1 E).2.2.2 + 175), .int 0, .ref ((jE1 E).2.2.2 + 176), .ref ((jE1 E).2.2.2 + 177), .ref ((jE1 E).2.2.2 + 178), .int 0, .ref ((jE1 E).2.2.2 + 179), .ref ((jE1 E).2.2.2 + 180), .ref ((jE1 E).2.2.2 + 181), .ref ((jE1 E).2.2.2 + 182), .ref ((jE1 E).2.2.2 + 183), .int 0, .int 0, .ref ((jE1 E).2.2.2 + 184), .ref ((jE1 E).2.2.2 + 185), .null, .null, .null, .null, .null, .int 0, .null, .null]) :: []) dX12_init_202 ff_X12_86 rfl (jgk_o kd_162) (Nat.lt_of_succ_le (Nat.le_of_ble_eq_true rfl)) rfl rfl rfl ?_
  refine jy_aload_n dX12_init_205 rfl ?_
  refine jy_bipush (v := nI 40) dX12_init_206 (by decide) ?_
  refine jy_newa (atype := .int) (t := 0) (n := 40) dX12_init_208 tw_aI rfl (by decide) (jgk_1 kd_186) (by decide) (fun U cA h => h) ?_
  refine jy_putF (ci := 12) (j := 40) (a := 162) (i := 0) (xs1 := (162, [.int 0, .ref ((jE1 E).2.2.2 + 163), .int 0, .ref ((jE1 E).2.2.2 + 164), .int 0, .ref ((jE1 E).2.2.2 + 165), .ref ((jE1 E).2.2.2 + 166), .ref ((jE1 E).2.2.2 + 167), .ref ((jE1 E).2.2.2 + 168), .ref ((jE1 E).2.2.2 + 169), .int 0, .int 0, .int 0, .int 0, .int 0, .int 0, .int 0, .int (-1), .int 0, .ref ((jE1 E).2.2.2 + 170), .ref ((jE1 E).2.2.2 + 171), .ref ((jE1 E).2.2.2 + 172), .ref ((jE1 E).2.2.2 + 173), .ref ((jE1 E).2.2.2 + 174), .int 0, .ref ((jE1 E).2.2.2 + 175), .int 0, .ref ((jE1 E).2.2.2 + 176), .ref ((jE1 E).2.2.2 + 177), .ref ((jE1 E).2.2.2 + 178), .int 0, .ref ((jE1 E).2.2.2 + 179), .ref ((jE1 E).2.2.2 + 180), .ref ((jE1 E).2.2.2 + 181), .ref ((jE1 E).2.2.2 + 182), .ref ((jE1 E).2.2.2 + 183), .int 0, .int 0, .ref ((jE1 E).2.2.2 + 184), .ref ((jE1 E).2.2.2 + 185), .ref ((jE1 E).2.2.2 + 186), .null, .null, .null, .null, .int 0, .null, .null]) :: []) dX12_init_210 ff_X12_89 rfl (jgk_o kd_162) (Nat.lt_of_succ_le (Nat.le_of_ble_eq_true rfl)) rfl rfl rfl ?_
  refine jy_aload_n dX12_init_213 rfl ?_
  refine jy_sipush (v := nI 1000) dX12_init_214 (by decide) ?_
  refine jy_newa (atype := .int) (t := 0) (n := 1000) dX12_init_217 tw_aI rfl (by decide) (jgk_1 kd_187) (by decide) (fun U cA h => h) ?_
  refine jy_putF (ci := 12) (j := 41) (a := 162) (i := 0) (xs1 := (162, [.int 0, .ref ((jE1 E).2.2.2 + 163), .int 0, .ref ((jE1 E).2.2.2 + 164), .int 0, .ref ((jE1 E).2.2.2 + 165), .ref ((jE1 E).2.2.2 + 166), .ref ((jE1 E).2.2.2 + 167), .ref ((jE1 E).2.2.2 + 168), .ref ((jE1 E).2.2.2 + 169), .int 0, .int 0, .int 0, .int 0, .int 0, .int 0, .int 0, .int (-1), .int 0, .ref ((jE1 E).2.2.2 + 170), .ref ((jE1 E).2.2.2 + 171), .ref ((jE1 E).2.2.2 + 172), .ref ((jE1 E).2.2.2 + 173), .ref ((jE1 E).2.2.2 + 174), .int 0, .ref ((jE1 E).2.2.2 + 175), .int 0, .ref ((jE1 E).2.2.2 + 176), .ref ((jE1 E).2.2.2 + 177), .ref ((jE1 E).2.2.2 + 178), .int 0, .ref ((jE1 E).2.2.2 + 179), .ref ((jE1 E).2.2.2 + 180), .ref ((jE1 E).2.2.2 + 181), .ref ((jE1 E).2.2.2 + 182), .ref ((jE1 E).2.2.2 + 183), .int 0, .int 0, .ref ((jE1 E).2.2.2 + 184), .ref ((jE1 E).2.2.2 + 185), .ref ((jE1 E).2.2.2 + 186), .ref ((jE1 E).2.2.2 + 187), .null, .null, .null, .int 0, .null, .null]) :: []) dX12_init_219 ff_X12_92 rfl (jgk_o kd_162) (Nat.lt_of_succ_le (Nat.le_of_ble_eq_true rfl)) rfl rfl rfl ?_
  refine jy_aload_n dX12_init_222 rfl ?_
  refine jy_sipush (v := nI 1000) dX12_init_223 (by decide) ?_
  refine jy_newa (atype := .int) (t := 0) (n := 1000) dX12_init_226 tw_aI rfl (by decide) (jgk_1 kd_188) (by decide) (fun U cA h => h) ?_
  refine jy_putF (ci := 12) (j := 42) (a := 162) (i := 0) (xs1 := (162, [.int 0, .ref ((jE1 E).2.2.2 + 163), .int 0, .ref ((jE1 E).2.2.2 + 164), .int 0, .ref ((jE1 E).2.2.2 + 165), .ref ((jE1 E).2.2.2 + 166), .ref ((jE1 E).2.2.2 + 167), .ref ((jE1 E).2.2.2 + 168), .ref ((jE1 E).2.2.2 + 169), .int 0, .int 0, .int 0, .int 0, .int 0, .int 0, .int 0, .int (-1), .int 0, .ref ((jE1 E).2.2.2 + 170), .ref ((jE1 E).2.2.2 + 171), .ref ((jE1 E).2.2.2 + 172), .ref ((jE1 E).2.2.2 + 173), .ref ((jE1 E).2.2.2 + 174), .int 0, .ref ((jE1 E).2.2.2 + 175), .int 0, .ref ((jE1 E).2.2.2 + 176), .ref ((jE1 E).2.2.2 + 177), .ref ((jE1 E).2.2.2 + 178), .int 0, .ref ((jE1 E).2.2.2 + 179), .ref ((jE1 E).2.2.2 + 180), .ref ((jE1 E).2.2.2 + 181), .ref ((jE1 E).2.2.2 + 182), .ref ((jE1 E).2.2.2 + 183), .int 0, .int 0, .ref ((jE1 E).2.2.2 + 184), .ref ((jE1 E).2.2.2 + 185), .ref ((jE1 E).2.2.2 + 186), .ref ((jE1 E).2.2.2 + 187), .ref ((jE1 E).2.2.2 + 188), .null, .null, .int 0, .null, .null]) :: []) dX12_init_228 ff_X12_95 rfl (jgk_o kd_162) (Nat.lt_of_succ_le (Nat.le_of_ble_eq_true rfl)) rfl rfl rfl ?_
  refine jy_aload_n dX12_init_231 rfl ?_
  refine jy_sipush (v := nI 7800) dX12_init_232 (by decide) ?_
  refine jy_newa (atype := .int) (t := 0) (n := 7800) dX12_init_235 tw_aI rfl (by decide) (jgk_1 kd_189) (by decide) (fun U cA h => h) ?_
  refine jy_putF (ci := 12) (j := 43) (a := 162) (i := 0) (xs1 := (162, [.int 0, .ref ((jE1 E).2.2.2 + 163), .int 0, .ref ((jE1 E).2.2.2 + 164), .int 0, .ref ((jE1 E).2.2.2 + 165), .ref ((jE1 E).2.2.2 + 166), .ref ((jE1 E).2.2.2 + 167), .ref ((jE1 E).2.2.2 + 168), .ref ((jE1 E).2.2.2 + 169), .int 0, .int 0, .int 0, .int 0, .int 0, .int 0, .int 0, .int (-1), .int 0, .ref ((jE1 E).2.2.2 + 170), .ref ((jE1 E).2.2.2 + 171), .ref ((jE1 E).2.2.2 + 172), .ref ((jE1 E).2.2.2 + 173), .ref ((jE1 E).2.2.2 + 174), .int 0, .ref ((jE1 E).2.2.2 + 175), .int 0, .ref ((jE1 E).2.2.2 + 176), .ref ((jE1 E).2.2.2 + 177), .ref ((jE1 E).2.2.2 + 178), .int 0, .ref ((jE1 E).2.2.2 + 179), .ref ((jE1 E).2.2.2 + 180), .ref ((jE1 E).2.2.2 + 181), .ref ((jE1 E).2.2.2 + 182), .ref ((jE1 E).2.2.2 + 183), .int 0, .int 0, .ref ((jE1 E).2.2.2 + 184), .ref ((jE1 E).2.2.2 + 185), .ref ((jE1 E).2.2.2 + 186), .ref ((jE1 E).2.2.2 + 187), .ref ((jE1 E).2.2.2 + 188), .ref ((jE1 E).2.2.2 + 189), .null, .int 0, .null, .null]) :: []) dX12_init_237 ff_X12_98 rfl (jgk_o kd_162) (Nat.lt_of_succ_le (Nat.le_of_ble_eq_true rfl)) rfl rfl rfl ?_
  refine jy_aload_n dX12_init_240 rfl ?_
  refine jy_sipush (v := nI 330) dX12_init_241 (by decide) ?_
  refine jy_newa (atype := .int) (t := 0) (n := 330) dX12_init_244 tw_aI rfl (by decide) (jgk_1 kd_190) (by decide) (fun U cA h => h) ?_
  refine jy_putF (ci := 12) (j := 44) (a := 162) (i := 0) (xs1 := (162, [.int 0, .ref ((jE1 E).2.2.2 + 163), .int 0, .ref ((jE1 E).2.2.2 + 164), .int 0, .ref ((jE1 E).2.2.2 + 165), .ref ((jE1 E).2.2.2 + 166), .ref ((jE1 E).2.2.2 + 167), .ref ((jE1 E).2.2.2 + 168), .ref ((jE1 E).2.2.2 + 169), .int 0, .int 0, .int 0, .int 0, .int 0, .int 0, .int 0, .int (-1), .int 0, .ref ((jE1 E).2.2.2 + 170), .ref ((jE1 E).2.2.2 + 171), .ref ((jE1 E).2.2.2 + 172), .ref ((jE1 E).2.2.2 + 173), .ref ((jE1 E).2.2.2 + 174), .int 0, .ref ((jE1 E).2.2.2 + 175), .int 0, .ref ((jE1 E).2.2.2 + 176), .ref ((jE1 E).2.2.2 + 177), .ref ((jE1 E).2.2.2 + 178), .int 0, .ref ((jE1 E).2.2.2 + 179), .ref ((jE1 E).2.2.2 + 180), .ref ((jE1 E).2.2.2 + 181), .ref ((jE1 E).2.2.2 + 182), .ref ((jE1 E).2.2.2 + 183), .int 0, .int 0, .ref ((jE1 E).2.2.2 + 184), .ref ((jE1 E).2.2.2 + 185), .ref ((jE1 E).2.2.2 + 186), .ref ((jE1 E).2.2.2 + 187), .ref ((jE1 E).2.2.2 + 188), .ref ((jE1 E).2.2.2 + 189), .ref ((jE1 E).2.2.2 + 190), .int 0, .null, .null]) :: []) dX12_init_246 ff_X12_101 rfl (jgk_o kd_162) (Nat.lt_of_succ_le (Nat.le_of_ble_eq_true rfl)) rfl rfl rfl ?_
  refine jy_aload_n dX12_init_249 rfl ?_
  refine jy_iconst (v := nI 3) dX12_init_250 (by decide) ?_
  refine jy_newa (atype := .boolean) (t := 3) (n := 3) dX12_init_251 tw_aZ rfl (by decide) (jgk_3 kd_191) (by decide) (fun U cA h => h) ?_
  refine jy_putF (ci := 12) (j := 46) (a := 162) (i := 0) (xs1 := (162, [.int 0, .ref ((jE1 E).2.2.2 + 163), .int 0, .ref ((jE1 E).2.2.2 + 164), .int 0, .ref ((jE1 E).2.2.2 + 165), .ref ((jE1 E).2.2.2 + 166), .ref ((jE1 E).2.2.2 + 167), .ref ((jE1 E).2.2.2 + 168), .ref ((jE1 E).2.2.2 + 169), .int 0, .int 0, .int 0, .int 0, .int 0, .int 0, .int 0, .int (-1), .int 0, .ref ((jE1 E).2.2.2 + 170), .ref ((jE1 E).2.2.2 + 171), .ref ((jE1 E).2.2.2 + 172), .ref ((jE1 E).2.2.2 + 173), .ref ((jE1 E).2.2.2 + 174), .int 0, .ref ((jE1 E).2.2.2 + 175), .int 0, .ref ((jE1 E).2.2.2 + 176), .ref ((jE1 E).2.2.2 + 177), .ref ((jE1 E).2.2.2 + 178), .int 0, .ref ((jE1 E).2.2.2 + 179), .ref ((jE1 E).2.2.2 + 180), .ref ((jE1 E).2.2.2 + 181), .ref ((jE1 E).2.2.2 + 182), .ref ((jE1 E).2.2.2 + 183), .int 0, .int 0, .ref ((jE1 E).2.2.2 + 184), .ref ((jE1 E).2.2.2 + 185), .ref ((jE1 E).2.2.2 + 186), .ref ((jE1 E).2.2.2 + 187), .ref ((jE1 E).2.2.2 + 188), .ref ((jE1 E).2.2.2 + 189), .ref ((jE1 E).2.2.2 + 190), .int 0, .ref ((jE1 E).2.2.2 + 191), .null]) :: []) dX12_init_253 ff_X12_104 rfl (jgk_o kd_162) (Nat.lt_of_succ_le (Nat.le_of_ble_eq_true rfl)) rfl rfl rfl ?_
  refine jy_aload_n dX12_init_256 rfl ?_
  refine jy_ldc (v := nI 104100) dX12_init_257 kc_X12_108 ?_
  refine jy_newa (atype := .int) (t := 0) (n := 104100) dX12_init_259 tw_aI rfl (by decide) (jgk_1 kd_192) (by decide) (fun U cA h => h) ?_
  refine jy_putF (ci := 12) (j := 47) (a := 162) (i := 0) (xs1 := (162, [.int 0, .ref ((jE1 E).2.2.2 + 163), .int 0, .ref ((jE1 E).2.2.2 + 164), .int 0, .ref ((jE1 E).2.2.2 + 165), .ref ((jE1 E).2.2.2 + 166), .ref ((jE1 E).2.2.2 + 167), .ref ((jE1 E).2.2.2 + 168), .ref ((jE1 E).2.2.2 + 169), .int 0, .int 0, .int 0, .int 0, .int 0, .int 0, .int 0, .int (-1), .int 0, .ref ((jE1 E).2.2.2 + 170), .ref ((jE1 E).2.2.2 + 171), .ref ((jE1 E).2.2.2 + 172), .ref ((jE1 E).2.2.2 + 173), .ref ((jE1 E).2.2.2 + 174), .int 0, .ref ((jE1 E).2.2.2 + 175), .int 0, .ref ((jE1 E).2.2.2 + 176), .ref ((jE1 E).2.2.2 + 177), .ref ((jE1 E).2.2.2 + 178), .int 0, .ref ((jE1 E).2.2.2 + 179), .ref ((jE1 E).2.2.2 + 180), .ref ((jE1 E).2.2.2 + 181), .ref ((jE1 E).2.2.2 + 182), .ref ((jE1 E).2.2.2 + 183), .int 0, .int 0, .ref ((jE1 E).2.2.2 + 184), .ref ((jE1 E).2.2.2 + 185), .ref ((jE1 E).2.2.2 + 186), .ref ((jE1 E).2.2.2 + 187), .ref ((jE1 E).2.2.2 + 188), .ref ((jE1 E).2.2.2 + 189), .ref ((jE1 E).2.2.2 + 190), .int 0, .ref ((jE1 E).2.2.2 + 191), .ref ((jE1 E).2.2.2 + 192)]) :: []) dX12_init_261 ff_X12_109 rfl (jgk_o kd_162) (Nat.lt_of_succ_le (Nat.le_of_ble_eq_true rfl)) rfl rfl rfl ?_
  exact hY
