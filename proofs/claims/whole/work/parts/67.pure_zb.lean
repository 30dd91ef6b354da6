section
/-- the class's CUT, behind what happens in the history -/
theorem z_cutC {B T P : Nat} {key : Int32} {pg : Nat → zP} {ro : List (Int32 × Int32)} {w : jw} (h : zIx B T P pg ro) (hP : P < 280) (hT : T + 1 < 100000) (k1 : ¬ key < 0) (k2 : key < 1000) (hC : zCw B P pg w) (hR : zCr ro w) :
    ∃ o : Nat × (Nat → zP) × List (Int32 × Int32), zIx B (T + 1) o.1 o.2.1 o.2.2 ∧ (∃ pa, o = zcutp B (nI (T + 1)) key P pg ro pa ∧ (∃ R lev, (∃ ro0 f, ro = ro0 ++ [(f, nI R)]) ∧ pa = (zpth pg key (nI (T + 1)) (lev R) R).reverse ∧ (∃ lo hi, zWf (zAt (nI (T + 1)) P pg) (zLt (nI (T + 1)) pg) (zKd pg) R lo hi lev) ∧ lev R ≤ 19 ∧ zgood B (nI (T + 1)) pa P (zleaf pg (pa.headD 0) key (nI (T + 1))) ro (zgat znw ((pg (pa.headD 0)).2.2.2.map (zen key (nI (T + 1)))) []))) ∧
      ∃ w', (jbd2 (f_X1_endLiving key (nI (T + 1)) w) fun x13 w14 => (if (nI (w14.2.2.2 52).length) ≤ 1 then some (true, w14) else jbd2 (f_X6_livingIn x13 (nI (T + 1)) w14) fun x17 w18 => jbd2 (f_X6_weak  w18) fun x20 w21 => (if x20 ≤ x17 then some (true, w21) else jl (jsetI w21 54 3 0) fun w23 => jbd (f_X1_gather x13 (nI (T + 1)) w23) fun q24 => jbd (f_X1_replaceUp (nI (T + 1)) q24) fun q25 => some (true, q25)))) = some (true, w') ∧ zfG w w' ∧ zCw B o.1 o.2.1 w' ∧ zCr o.2.2 w' := by
  obtain ⟨R, lo, hi, lev, ro0, f, p, up, o1, o2, o3, o4, o5, o6, o7, o8, o9, o10, o11, o12, o13, o14⟩ := z_opleaf (key := key) h hP hT k1 k2
  have h0 := id h
  obtain ⟨h1, h2, h3, h4, h5, h6, h7, _, h9⟩ := h
  have t2 := zt2 h3
  have G1 := zGl_up h3 h7
  have le : nI T ≤ nI (T + 1) := nI_le (by omega) (by omega)
  have rn : ro ≠ [] := by rw [o1]; simp
  have Ap : zal P pg p := ⟨o9, o10⟩
  have pw := o4.2.2.2.2.2 p Ap
  have nd : zkn (zLv pg p) := pw.2.2.2.2.2.1
  have sp := pw.2.2.2.2.2.2.1
  obtain ⟨b1, b2, b3, b4, b5, b6, _⟩ := z_cutrow (key := key) h3 G1 o9 nd sp
  obtain ⟨go, rs⟩ := o14 _ b1 b2 b3 (by omega) b5 b6
  obtain ⟨w1, e1, e2, e3, e4, e5⟩ := z_endLiving o5 G1 h2 (by omega) hC hR (by rw [o1]; exact zrt_f (Int32.le_trans o2 le)) rn (by omega) (by omega) k1 k2 o7 o9 nd
  have hd : (p :: up).headD 0 = p := rfl
  have lf : (zleaf pg p key (nI (T + 1)) p).2.2.2 = (pg p).2.2.2.map (zen key (nI (T + 1))) := by rw [zleaf_p]
  have hlB := (h7 p o9).1
  have GL := zGl_leaf (p := p) (key := key) G1
  have stay : zIx B (T + 1) P (zleaf pg p key (nI (T + 1))) ro := by
    refine zIx_next (o := (P, zleaf pg p key (nI (T + 1)), ro)) h0 hT o1 o2 (R := R) ?_
    refine ⟨R, lo, hi, lev, zWf_cg (zWf_leaf (l := (zLv pg p).filter (fun e => decide (e.1 ≠ key))) o4 Ap o11 (zkn_fil _ nd) (fun e he => sp e (List.mem_filter.mp he).1)) (fun x => ?_) (fun x hx => ⟨?_, ?_⟩), zpot_cg o6 o4.1.1 (fun x hx => ?_), GL, zmo_leaf, by show P ≤ 320; omega, h5, Or.inl ⟨rfl, rfl⟩⟩
    · unfold zal zleaf zup
      simp only []
      by_cases c1 : x = p
      · simp only [c1, if_true]
      · simp only [if_neg c1]
    · by_cases c1 : x = p
      · subst c1
        rw [zup_eq, zLv_leaf (P := P) t2]
      · rw [zup_ne c1]
        unfold zLv
        simp only []
        rw [zleaf_x c1]
    · unfold zKd zleaf zup
      simp only []
      by_cases c1 : x = p
      · simp only [c1, if_true]
      · simp only [if_neg c1]
    · by_cases c1 : x = p
      · refine ⟨?_, Or.inr (by rw [c1]; exact o11)⟩
        simp only []
        rw [c1, zleaf_p]
      · unfold zLv
        simp only []
        rw [zleaf_x c1]
        exact ⟨rfl, Or.inl rfl⟩
  refine ⟨zcutp B (nI (T + 1)) key P pg ro (p :: up), ?_, ⟨p :: up, rfl, R, lev, ⟨ro0, f, o1⟩, o7.symm, ⟨lo, hi, o5⟩, o3, by rw [hd]; exact go⟩, ?_⟩
  · unfold zcutp
    rw [hd]
    split
    · exact stay
    · split
      · exact stay
      · exact zIx_next h0 hT o1 o2 rs
  · have r52 : (w1.2.2.2 52).length = lev R + 1 := by rw [e5, List.length_map, zpth_len]
    rw [e1, z_jbd2, r52]
    unfold zcutp
    rw [hd, o8]
    by_cases c : lev R + 1 = 1
    · rw [if_pos c, if_pos (show nI (lev R + 1) ≤ 1 from nI_le (b := 1) (by omega) (by decide))]
      exact ⟨w1, rfl, e2, e3, e4⟩
    · rw [if_neg c, if_neg (show ¬ nI (lev R + 1) ≤ 1 from nI_ge (a := 1) (by omega) (by omega)), z_livingIn e3 o9 h2 (by omega), z_jbd2, lf, z_cnt (fun e he => zlv_nw ((GL p o9).2.1 e (by rw [lf]; exact he)).1), z_weak e3 h2, z_jbd2]
      have cl := List.countP_le_length (p := znw) (l := (pg p).2.2.2.map (zen key (nI (T + 1))))
      rw [List.length_map] at cl
      by_cases d : B / 4 ≤ ((pg p).2.2.2.map (zen key (nI (T + 1)))).countP znw
      · rw [if_pos d, if_pos (nI_le d (by omega))]
        exact ⟨w1, rfl, e2, e3, e4⟩
      · rw [if_neg d, if_neg (nI_ge (by omega) (by omega)), z_jl]
        obtain ⟨w2, f1, f2, f3⟩ := z_gather (t := nI (T + 1)) (w := jsetI w1 54 3 0) (zCw_I e3 (by decide)) o9 h2 (by omega) (zB_0 w1) (by rw [lf, List.length_map]; simp only [List.length_nil]; omega)
        rw [zgat_congr (ok' := znw) _ _ (fun e he => zlv_nw ((GL p o9).2.1 e he).1), lf] at f3
        rw [f1, z_jbd]
        have fr : zfL w1 w2 := zfL_trans (zfL_I (Or.inr rfl)) (zfL_B f2)
        have r52' : w2.2.2.2 52 = (zpth pg key (nI (T + 1)) (lev R) R).map nI := by rw [fr.2.2.2 52 (by decide)]; exact e5
        have hw : zway (w2.2.2.2 52) (p :: up) := by
          rw [← o7, r52']
          refine zway_of _ _ rfl (fun i x hx => ?_)
          simp [List.getD_eq_getElem?_getD, hx]
        obtain ⟨w4, u1, u2, u3, u4⟩ := z_replaceUp h1 h2 (p :: up) jfu P _ ro _ w2 go (by show _ < 40000; rw [o8]; omega) (by rw [o8]; omega) hw (zCw_fB (zCw_I e3 (by decide)) f2) (zCr_L e4 fr) f3
        have ru : f_X1_replaceUp (nI (T + 1)) w2 = some w4 := by
          unfold f_X1_replaceUp
          rw [z_jl, r52', List.length_map, zpth_len, nI_pred]
          rw [o8] at u1
          exact u1
        rw [ru, z_jbd]
        exact ⟨w4, rfl, zfG_trans e2 (zfG_trans (zfG_U (zfU_L fr)) (zfG_U u2)), u3, u4⟩
/-! the reference's -/
def zfE (w w' : jw) : Prop := w'.2.2 = w.2.2 ∧ (∀ a, a ≠ 162 → w'.1 a = w.1 a) ∧ (∀ j, j ≠ 36 → j ≠ 37 → w'.1 162 j = w.1 162 j) ∧ (∀ p, p ≠ 182 → p ≠ 183 → p ≠ 184 → p ≠ 185 → p ≠ 186 → w'.2.1 p = w.2.1 p) ∧ (∀ a, (a < 2 ∨ (3 < a ∧ a < 10) ∨ 18100 ≤ a) → w'.2.1 182 a = w.2.1 182 a)
theorem zfE_trans {a b c : jw} (h : zfE a b) (g : zfE b c) : zfE a c := ⟨g.1.trans h.1, fun x hx => (g.2.1 x hx).trans (h.2.1 x hx), fun x x1 x2 => (g.2.2.1 x x1 x2).trans (h.2.2.1 x x1 x2), fun p p1 p2 p3 p4 p5 => (g.2.2.2.1 p p1 p2 p3 p4 p5).trans (h.2.2.2.1 p p1 p2 p3 p4 p5), fun x hx => (g.2.2.2.2 x hx).trans (h.2.2.2.2 x hx)⟩
theorem zfE_D {w w' : jw} (h : zfD w w') : zfE w w' := ⟨h.1, h.2.1, fun j j1 _ => h.2.2.1 j j1, fun p _ p2 _ _ _ => h.2.2.2 p p2, fun a _ => by rw [h.2.2.2 182 (by decide)]⟩
theorem zfE_V {w w' : jw} (h : zfV w w') : zfE w w' := ⟨h.1, h.2.1, fun j _ j2 => h.2.2.1 j j2, fun p p1 _ p3 p4 p5 => h.2.2.2.1 p p1 p3 p4 p5, h.2.2.2.2⟩
section
variable {B T P R : Nat} {key v : Int32} {pg : Nat → zP} {ro ro0 : List (Int32 × Int32)} {f : Int32} {lo hi : Nat → Int} {lev : Nat → Nat} {w : jw}
/-- both begin so: the way down, the entry ends -/
theorem z_startM (h : zIx B T P pg ro) (hP : P < 280) (hT : T + 1 < 100000) (k1 : ¬ key < 0) (k2 : key < 1000) (o1 : ro = ro0 ++ [(f, nI R)]) (o5 : zWf (zAt (nI (T + 1)) P pg) (zLt (nI (T + 1)) pg) (zKd pg) R lo hi lev) (o3 : lev R ≤ 19) (hM : zM B P pg (w.2.1 182)) (hR : zMr ro (w.2.1 182)) (ht : w.2.1 182 0 = nI (T + 1)) {pa : List Nat} (hpa : pa = (zpth pg key (nI (T + 1)) (lev R) R).reverse) (hpP : pa.headD 0 < P) :
    ∃ w1, zfE w w1 ∧ w1.1 162 36 = nI (lev R + 1) ∧ zwayM (w1.2.1 183) pa ∧ zM B P (zleaf pg (pa.headD 0) key (nI (T + 1))) (w1.2.1 182) ∧ zMr ro (w1.2.1 182) ∧ w1.2.1 182 0 = nI (T + 1) ∧ pa.length = lev R + 1 ∧ ∀ {β : Type} (K : Int32 → jw → Option β), (jbd (f_X12_goesDown key w) fun q8 => jg (jin ((q8.1 162 36) - 1) 40) (jl (q8.2.1 183 (Int32.toNatClampNeg ((q8.1 162 36) - 1)) : Int32) fun x10 => jbd (f_X12_entryEnds x10 key q8) fun q11 => K x10 q11)) = K (nI (pa.headD 0)) w1 := by
  obtain ⟨h1, h2, h3, h4, h5, h6, h7, _, h9⟩ := h
  have G1 := zGl_up h3 h7
  have plen := zpth_len pg key (nI (T + 1)) (lev R) R
  have rl : ro0.length < 700 := by rw [o1] at h5; simp at h5; omega
  rw [o1] at hR
  obtain ⟨wa, a1, a2, a3, a4⟩ := z_gd (key := key) o5 G1 hM hR rl (by omega) k1 k2
  cases pa with
  | nil =>
    have := congrArg List.length hpa
    rw [List.length_reverse, plen] at this
    simp at this
  | cons p up =>
    have pl := zrev_last hpa.symm plen
    have x182 : wa.2.1 182 = w.2.1 182 := a2.2.2.2 182 (by decide)
    have hM1 : zM B P pg (wa.2.1 182) := by rw [x182]; exact hM
    have ta : wa.2.1 182 0 = nI (T + 1) := by rw [x182]; exact ht
    have hpP' : p < P := hpP
    have h12 := zM_12 hM1 hpP'
    obtain ⟨wb, b1, b2, b3⟩ := z_entryEnds_l (key := key) (T := nI (T + 1)) (pg p).2.2.2 jfu 0 wa pg hpP' hM1 ta rfl (Nat.zero_le _) (by show _ < 40000; omega)
    rw [List.take_zero, List.nil_append] at b3
    have fr : zfE w wb := zfE_trans (zfE_D a2) (zfE_V (zfV_N b2))
    refine ⟨wb, fr, by rw [b2.1]; exact a3, ?_, b3, ?_, by rw [b2.2.2.2 0 (by decide) (by decide)]; exact ta, ?_, fun K => ?_⟩
    · rw [b2.2.2.1 183 (by decide), hpa]
      exact zwayM_of _ _ rfl a4
    · rw [o1]
      refine zMr_N (w := wa) ?_ b2 (by simp; omega)
      rw [x182]; exact hR
    · rw [hpa, List.length_reverse, plen]
    · rw [a1, z_jbd, a3, nI_pred, z_jg (z_in (by omega) (by decide)), z_jl, nI_clamp (by omega), a4 _ _ pl]
      have b1' : f_X12_entryEnds (nI p) key wa = some wb := b1
      rw [b1', z_jbd]
      rfl
theorem z_putM (h : zIx B T P pg ro) (hP : P < 280) (hT : T + 1 < 100000) (k1 : ¬ key < 0) (k2 : key < 1000) (o1 : ro = ro0 ++ [(f, nI R)]) (o5 : zWf (zAt (nI (T + 1)) P pg) (zLt (nI (T + 1)) pg) (zKd pg) R lo hi lev) (o3 : lev R ≤ 19) (hM : zM B P pg (w.2.1 182)) (hR : zMr ro (w.2.1 182)) (ht : w.2.1 182 0 = nI (T + 1)) {pa : List Nat} (hpa : pa = (zpth pg key (nI (T + 1)) (lev R) R).reverse) (hpP : pa.headD 0 < P) (go : zgood B (nI (T + 1)) pa P (zleaf pg (pa.headD 0) key (nI (T + 1))) ro (zins (key, nI (T + 1), -2, v) (zgat znw ((pg (pa.headD 0)).2.2.2.map (zen key (nI (T + 1)))) []))) :
    ∃ w', (jbd (f_X12_goesDown key w) fun q8 => jg (jin ((q8.1 162 36) - 1) 40) (jl (q8.2.1 183 (Int32.toNatClampNeg ((q8.1 162 36) - 1)) : Int32) fun x10 => jbd (f_X12_entryEnds x10 key q8) fun q11 => jbd2 (f_X12_entriesOf x10 q11) fun x13 w14 => jg (jin 1 34700) ((if (w14.2.1 182 (Int32.toNatClampNeg 1)) ≤ x13 then jl (jsetI w14 162 37 0) fun w17 => jbd (f_X12_joinsAll x10 w17) fun q18 => jg (jin 0 34700) (jbd (f_X12_joins key (q18.2.1 182 (Int32.toNatClampNeg 0)) v q18) fun q20 => jbd (f_X12_replaces ((q20.1 162 36) - 1) q20) fun q21 => some (true, q21)) else jg (jin 0 34700) (jbd (f_X12_comes x10 key (w14.2.1 182 (Int32.toNatClampNeg 0)) v w14) fun q23 => some (true, q23)))))) = some (true, w') ∧ zfE w w' ∧ zM B (zputp B (nI (T + 1)) key v P pg ro pa).1 (zputp B (nI (T + 1)) key v P pg ro pa).2.1 (w'.2.1 182) ∧ zMr (zputp B (nI (T + 1)) key v P pg ro pa).2.2 (w'.2.1 182) := by
  obtain ⟨w1, a1, a2, a3, a4, a5, a6, a7, a8⟩ := z_startM h hP hT k1 k2 o1 o5 o3 hM hR ht hpa hpP
  rw [a8]
  obtain ⟨h1, h2, h3, h4, h5, h6, h7, _, h9⟩ := h
  generalize hp : pa.headD 0 = p at *
  have lf : (zleaf pg p key (nI (T + 1)) p).2.2.2 = (pg p).2.2.2.map (zen key (nI (T + 1))) := by rw [zleaf_p]
  have hlB := (h7 p hpP).1
  rw [z_entriesOf w1 (by omega), z_jbd2, zM_L a4 hpP, lf, List.length_map, z_jg j_1, k_1, a4.1]
  unfold zputp
  rw [hp]
  by_cases c : (pg p).2.2.2.length < B
  · rw [if_pos c, if_neg (nI_ge c (by omega)), z_jg j_0, k_0, a6]
    obtain ⟨w2, b1, b2, b3⟩ := z_comes key (nI (T + 1)) v a4 hpP (by rw [lf, List.length_map]; omega)
    rw [b1, z_jbd]
    exact ⟨w2, rfl, zfE_trans a1 (zfE_V (zfV_N b2)), b3, zMr_N a5 b2 (by show ro.length ≤ 700; omega)⟩
  · rw [if_neg c, if_pos (nI_le (by omega) (by omega)), z_jl]
    obtain ⟨w2, b1, b2, b3⟩ := z_joinsAll (w := jsetI w1 162 37 0) a4 hpP (zW_0 w1) (by rw [lf, List.length_map]; simp only [List.length_nil]; omega)
    rw [lf] at b3
    have t2 : w2.2.1 182 0 = nI (T + 1) := by rw [zW_W182 b2]; exact a6
    have cl := List.countP_le_length (p := znw) (l := (pg p).2.2.2.map (zen key (nI (T + 1))))
    rw [List.length_map] at cl
    obtain ⟨w3, c1, c2, c3⟩ := z_joins (key, nI (T + 1), -2, v) b3 (by rw [zgat_length]; simp only [List.length_nil]; omega)
    have c1' : f_X12_joins key (nI (T + 1)) v w2 = some w3 := c1
    rw [b1, z_jbd, z_jg j_0, k_0, t2, c1', z_jbd]
    have fr : zfX w1 w3 := zfX_trans zfX_I (zfX_trans (zfX_W b2) (zfX_W c2))
    have x36 : w3.1 162 36 = nI (lev R + 1) := by rw [fr.1.2.2.1 36 (by decide)]; exact a2
    have x182 : w3.2.1 182 = w1.2.1 182 := by rw [zW_W182 c2, zW_W182 b2]; rfl
    obtain ⟨w4, u1, u2, u3, u4⟩ := z_replaces (b1 := nI (lev R)) h1 h2 (nI_pos (by omega)) pa jfu P _ ro _ w3 go (by show _ < 40000; rw [a7]; omega) (by rw [a7]; omega) (by rw [fr.1.2.2.2.1 183 (by decide) (by decide) (by decide) (by decide)]; exact a3) (by rw [x182]; exact a4) (by rw [x182]; exact a5) (by rw [x182]; exact a6) c3
    have ru : f_X12_replaces (w3.1 162 36 - 1) w3 = some w4 := by
      unfold f_X12_replaces
      rw [x36, nI_pred]
      rw [a7] at u1
      exact u1
    rw [ru, z_jbd]
    exact ⟨w4, rfl, zfE_trans a1 (zfE_trans (zfE_V fr.1) (zfE_V u2)), u3, u4⟩
theorem z_cutM (h : zIx B T P pg ro) (hP : P < 280) (hT : T + 1 < 100000) (k1 : ¬ key < 0) (k2 : key < 1000) (o1 : ro = ro0 ++ [(f, nI R)]) (o5 : zWf (zAt (nI (T + 1)) P pg) (zLt (nI (T + 1)) pg) (zKd pg) R lo hi lev) (o3 : lev R ≤ 19) (hM : zM B P pg (w.2.1 182)) (hR : zMr ro (w.2.1 182)) (ht : w.2.1 182 0 = nI (T + 1)) {pa : List Nat} (hpa : pa = (zpth pg key (nI (T + 1)) (lev R) R).reverse) (hpP : pa.headD 0 < P) (go : zgood B (nI (T + 1)) pa P (zleaf pg (pa.headD 0) key (nI (T + 1))) ro (zgat znw ((pg (pa.headD 0)).2.2.2.map (zen key (nI (T + 1)))) [])) :
    ∃ w', (jbd (f_X12_goesDown key w) fun q9 => jg (jin ((q9.1 162 36) - 1) 40) (jl (q9.2.1 183 (Int32.toNatClampNeg ((q9.1 162 36) - 1)) : Int32) fun x11 => jbd (f_X12_entryEnds x11 key q9) fun q12 => (if (q12.1 162 36) = 1 then some (true, q12) else jbd2 (f_X12_livingIn x11 q12) fun x15 w16 => jbd2 (f_X12_weak  w16) fun x18 w19 => (if x15 < x18 then jl (jsetI w19 162 37 0) fun w21 => jbd (f_X12_joinsAll x11 w21) fun q22 => jbd (f_X12_replaces ((q22.1 162 36) - 1) q22) fun q23 => some (true, q23) else some (true, w19))))) = some (true, w') ∧ zfE w w' ∧ zM B (zcutp B (nI (T + 1)) key P pg ro pa).1 (zcutp B (nI (T + 1)) key P pg ro pa).2.1 (w'.2.1 182) ∧ zMr (zcutp B (nI (T + 1)) key P pg ro pa).2.2 (w'.2.1 182) := by
  obtain ⟨w1, a1, a2, a3, a4, a5, a6, a7, a8⟩ := z_startM h hP hT k1 k2 o1 o5 o3 hM hR ht hpa hpP
  rw [a8]
  obtain ⟨h1, h2, h3, h4, h5, h6, h7, _, h9⟩ := h
  generalize hp : pa.headD 0 = p at *
  have lf : (zleaf pg p key (nI (T + 1)) p).2.2.2 = (pg p).2.2.2.map (zen key (nI (T + 1))) := by rw [zleaf_p]
  have hlB := (h7 p hpP).1
  unfold zcutp
  rw [hp, a2, a7]
  by_cases c : lev R + 1 = 1
  · rw [if_pos c, if_pos (show nI (lev R + 1) = 1 by rw [c]; rfl)]
    exact ⟨w1, rfl, a1, a4, a5⟩
  · rw [if_neg c, if_neg (show ¬ nI (lev R + 1) = 1 from fun x => c ((nI_eq (b := 1) (by omega) (by decide)).mp x)), z_livingInM a4 hpP, z_jbd2, lf, z_weakM a4 h2, z_jbd2]
    have cl := List.countP_le_length (p := znw) (l := (pg p).2.2.2.map (zen key (nI (T + 1))))
    rw [List.length_map] at cl
    by_cases d : B / 4 ≤ ((pg p).2.2.2.map (zen key (nI (T + 1)))).countP znw
    · rw [if_pos d, if_neg (nI_nlt d (by omega))]
      exact ⟨w1, rfl, a1, a4, a5⟩
    · rw [if_neg d, if_pos (nI_lt (by omega) (by omega)), z_jl]
      obtain ⟨w2, b1, b2, b3⟩ := z_joinsAll (w := jsetI w1 162 37 0) a4 hpP (zW_0 w1) (by rw [lf, List.length_map]; simp only [List.length_nil]; omega)
      rw [lf] at b3
      rw [b1, z_jbd]
      have fr : zfX w1 w2 := zfX_trans zfX_I (zfX_W b2)
      have x36 : w2.1 162 36 = nI (lev R + 1) := by rw [fr.1.2.2.1 36 (by decide)]; exact a2
      have x182 : w2.2.1 182 = w1.2.1 182 := by rw [zW_W182 b2]; rfl
      obtain ⟨w4, u1, u2, u3, u4⟩ := z_replaces (b1 := nI (lev R)) h1 h2 (nI_pos (by omega)) pa jfu P _ ro _ w2 go (by show _ < 40000; rw [a7]; omega) (by rw [a7]; omega) (by rw [fr.1.2.2.2.1 183 (by decide) (by decide) (by decide) (by decide)]; exact a3) (by rw [x182]; exact a4) (by rw [x182]; exact a5) (by rw [x182]; exact a6) b3
      have ru : f_X12_replaces (w2.1 162 36 - 1) w2 = some w4 := by
        unfold f_X12_replaces
        rw [x36, nI_pred]
        rw [a7] at u1
        exact u1
      rw [ru, z_jbd]
      exact ⟨w4, rfl, zfE_trans a1 (zfE_trans (zfE_V fr.1) (zfE_V u2)), u3, u4⟩
end
end
