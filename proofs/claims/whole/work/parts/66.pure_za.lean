section
/-! PUT and CUT in pages, by the class and by the reference -/
theorem zway_of {l : List Int32} : ∀ (n : Nat) (path : List Nat), path.length = n → (∀ i x, path[i]? = some x → l.getD i 0 = nI x) → zway l path.reverse := by
  intro n
  induction n with
  | zero => intro path hn _; rw [List.length_eq_zero_iff.mp hn]; trivial
  | succ n ih =>
    intro path hn h
    obtain ⟨init, x, hx⟩ : ∃ init x, path = init ++ [x] := ⟨path.dropLast, path.getLast (fun z => by rw [z] at hn; simp at hn), (List.dropLast_concat_getLast _).symm⟩
    subst hx
    rw [List.reverse_append]
    have hl : init.length = n := by simpa using hn
    refine ⟨?_, ih init hl (fun i y hy => h i y (by rw [List.getElem?_append_left (List.getElem?_eq_some_iff.mp hy).1]; exact hy))⟩
    show l.getD init.reverse.length 0 = nI x
    rw [List.length_reverse]
    exact h init.length x (by simp)
theorem zwayM_of {A : Nat → Int32} : ∀ (n : Nat) (path : List Nat), path.length = n → (∀ i x, path[i]? = some x → A i = nI x) → zwayM A path.reverse := by
  intro n
  induction n with
  | zero => intro path hn _; rw [List.length_eq_zero_iff.mp hn]; trivial
  | succ n ih =>
    intro path hn h
    obtain ⟨init, x, hx⟩ : ∃ init x, path = init ++ [x] := ⟨path.dropLast, path.getLast (fun z => by rw [z] at hn; simp at hn), (List.dropLast_concat_getLast _).symm⟩
    subst hx
    rw [List.reverse_append]
    have hl : init.length = n := by simpa using hn
    refine ⟨?_, ih init hl (fun i y hy => h i y (by rw [List.getElem?_append_left (List.getElem?_eq_some_iff.mp hy).1]; exact hy))⟩
    show A init.reverse.length = nI x
    rw [List.length_reverse]
    exact h init.length x (by simp)
theorem zpth_len (pg : Nat → zP) (key τ : Int32) : ∀ m x, (zpth pg key τ m x).length = m + 1 := by
  intro m
  induction m with
  | zero => intro x; rfl
  | succ m ih => intro x; unfold zpth; rw [List.length_cons, ih]
theorem zrev_last {path : List Nat} {p : Nat} {up : List Nat} {n : Nat} (h : path.reverse = p :: up) (hn : path.length = n + 1) : path[n]? = some p := by
  have e : path = up.reverse ++ [p] := by
    have := congrArg List.reverse h
    rw [List.reverse_reverse, List.reverse_cons] at this
    exact this
  have hl : up.reverse.length = n := by
    have := congrArg List.length e
    rw [List.length_append, List.length_singleton] at this
    omega
  rw [e, ← hl]
  simp
theorem zen_id {es : List zE} {key t : Int32} (h : ∀ e ∈ es, znw e = true → e.1 ≠ key) : es.map (zen key t) = es := by
  have : es.map (zen key t) = es.map id := List.map_congr_left (fun e he => by
    unfold zen
    rw [if_neg (fun z => h e he z.1 z.2)]
    rfl)
  rw [this, List.map_id]
theorem zen_set {es : List zE} {key t : Int32} {i : Nat} {e : zE} (hn : zkn (es.filter znw)) (he : es[i]? = some e) (h1 : znw e = true) (h2 : e.1 = key) : es.map (zen key t) = es.set i (e.1, e.2.1, t, e.2.2.2) := by
  refine List.ext_getElem? (fun j => ?_)
  rw [List.getElem?_map, List.getElem?_set]
  by_cases c : i = j
  · subst c
    rw [if_pos rfl, if_pos (zlen_lt he), he]
    show some (zen key t e) = _
    unfold zen
    rw [if_pos ⟨h1, h2⟩]
  · rw [if_neg c]
    cases hj : es[j]? with
    | none => rfl
    | some x =>
      show some (zen key t x) = some x
      unfold zen
      rw [if_neg (fun z => c (zkn_ix hn he hj h1 z.1 (by rw [h2, z.2])))]
def zfG (w w' : jw) : Prop := (∀ a, a ≠ 51 → a ≠ 54 → w'.1 a = w.1 a) ∧ (∀ p, p ≠ 55 → p ≠ 56 → p ≠ 57 → w'.2.1 p = w.2.1 p) ∧ w'.2.2.1 = w.2.2.1 ∧ ∀ k, (k < 19 ∨ 33 < k) → k ≠ 44 → k ≠ 46 → k ≠ 52 → w'.2.2.2 k = w.2.2.2 k
theorem zfG_rfl (w : jw) : zfG w w := ⟨fun _ _ _ => rfl, fun _ _ _ _ => rfl, rfl, fun _ _ _ _ _ => rfl⟩
theorem zfG_trans {a b c : jw} (h : zfG a b) (g : zfG b c) : zfG a c := ⟨fun x x1 x2 => (g.1 x x1 x2).trans (h.1 x x1 x2), fun p p1 p2 p3 => (g.2.1 p p1 p2 p3).trans (h.2.1 p p1 p2 p3), g.2.2.1.trans h.2.2.1, fun k k1 k2 k3 k4 => (g.2.2.2 k k1 k2 k3 k4).trans (h.2.2.2 k k1 k2 k3 k4)⟩
theorem zfG_U {w w' : jw} (h : zfU w w') : zfG w w' := ⟨h.1, h.2.1, h.2.2.1, fun k k1 k2 k3 _ => h.2.2.2 k k1 k2 k3⟩
theorem zfG_52 {w : jw} {l : List Int32} : zfG w (jsetR w 52 l) := ⟨fun _ _ _ => rfl, fun _ _ _ _ => rfl, rfl, fun k _ _ _ k4 => z_jR2 k4⟩
theorem z_endLiving {B P p R : Nat} {up : List Nat} {key t : Int32} {pg : Nat → zP} {ro : List (Int32 × Int32)} {lo hi : Nat → Int} {lev : Nat → Nat} {w : jw} (hW : zWf (zAt t P pg) (zLt t pg) (zKd pg) R lo hi lev) (hG : zGl B t P pg) (hB : B ≤ 12) (hP : P ≤ 4000) (hC : zCw B P pg w) (hR : zCr ro w) (r1 : zrt ro t = nI R) (rn : ro ≠ []) (rl : ro.length ≤ 4000) (lR : lev R ≤ 39) (k1 : ¬ key < 0) (k2 : key < 1000) (hp : (zpth pg key t (lev R) R).reverse = p :: up) (pP : p < P) (nd : zkn (zLv pg p)) :
    ∃ w', f_X1_endLiving key t w = some (nI p, w') ∧ zfG w w' ∧ zCw B P (zleaf pg p key t) w' ∧ zCr ro w' ∧ w'.2.2.2 52 = (zpth pg key t (lev R) R).map nI := by
  have plen := zpth_len pg key t (lev R) R
  have pl := zrev_last hp plen
  have pB := z_pBs pP hB hP
  have hlen := zCw_len hC pP
  unfold f_X1_endLiving
  rw [z_trace_52 hW hB hP hC hR r1 rn rl lR k1 k2, z_jbd, z_jl, z_jR1, List.length_map, plen, nI_pred, z_rat (by omega)]
  have gl : ((zpth pg key t (lev R) R).map nI).getD (lev R) 0 = nI p := by simp [List.getD_eq_getElem?_getD, pl]
  rw [gl]
  have C1 : zCw B P pg (jsetR w 52 ((zpth pg key t (lev R) R).map nI)) := zCw_B hC rfl (fun k k1 k2 => z_jR2 (by omega))
  have R1 : zCr ro (jsetR w 52 ((zpth pg key t (lev R) R).map nI)) := ⟨by rw [z_jR2 (by decide)]; exact hR.1, by rw [z_jR2 (by decide)]; exact hR.2⟩
  rw [z_toward key C1 pP hB hP, z_jbd2]
  have idc : (∀ e ∈ (pg p).2.2.2, znw e = true → e.1 ≠ key) → zleaf pg p key t = pg := fun h => by
    unfold zleaf
    rw [zen_id h]
    exact zup_self pg p
  have lvn : ∀ e ∈ (pg p).2.2.2, zlv t e = znw e := fun e he => zlv_nw ((hG p pP).2.1 e he).1
  cases hz : zbs (ztw key t) zgt (pg p).2.2.2 0 none with
  | none =>
    rw [if_pos (show zsl (p * B) none = -1 from rfl)]
    have := idc (fun e he hn hk => zbs_ex (ok := ztw key t) (bt := zgt) _ 0 none (Or.inr ⟨e, he, by simp [ztw, lvn e he, hn, hk]⟩) hz)
    rw [this]
    exact ⟨_, rfl, zfG_52, C1, R1, z_jR1 _ _ _⟩
  | some q =>
    obtain ⟨e, g1, g2, g3⟩ := zbs_0 hz
    have il := zlen_lt g1
    have g2' : zlv t e = true ∧ e.1 ≤ key := by simpa [ztw] using g2
    rw [if_neg (show ¬ zsl (p * B) (some q) = -1 from z_nm1 (show p * B + q.1 < 2 ^ 31 by omega))]
    have kq : rat ((jsetR w 52 ((zpth pg key t (lev R) R).map nI)).2.2.2 27) (zsl (p * B) (some q)) = e.1 := (z_rat (show p * B + q.1 < 2 ^ 31 by omega)).trans (zCw_seg C1 pP q.1 e g1).1
    rw [kq]
    by_cases c : e.1 = key
    · rw [if_pos c, z_jl]
      have ee : zleaf pg p key t = zup pg p ((pg p).1, (pg p).2.1, (pg p).2.2.1, (pg p).2.2.2.set q.1 (e.1, e.2.1, t, e.2.2.2)) := by
        unfold zleaf
        rw [zen_set nd g1 (by rw [← lvn e (List.mem_of_getElem? g1)]; exact g2'.1) c]
      rw [ee]
      refine ⟨_, rfl, zfG_trans zfG_52 (zfG_U (zfU_L (zfL_P (zfP_R (by decide) (by decide))))), z_setTo t C1 pP g1 hB hP, zCr_L R1 (zfL_P (zfP_R (by decide) (by decide))), ?_⟩
      rw [z_jR2 (by decide)]
      exact z_jR1 _ _ _
    · rw [if_neg c]
      have := idc (fun e' he hn hk => c (by
        have le := (zbs_max _ _ _ _ hz).1 e' he (by simp [ztw, lvn e' he, hn, hk])
        rw [g3, hk] at le
        exact Int32.le_antisymm g2'.2 le))
      rw [this]
      exact ⟨_, rfl, zfG_52, C1, R1, z_jR1 _ _ _⟩
theorem zleaf_x {pg : Nat → zP} {p x : Nat} {key t : Int32} (h : x ≠ p) : zleaf pg p key t x = pg x := zup_ne h
theorem zleaf_p {pg : Nat → zP} {p : Nat} {key t : Int32} : zleaf pg p key t p = ((pg p).1, (pg p).2.1, (pg p).2.2.1, (pg p).2.2.2.map (zen key t)) := zup_eq _ _ _
/-- the rows that a leaf is replaced by -/
theorem z_cutrow {B T P p : Nat} {key : Int32} {pg : Nat → zP} {lo hi : Int} (hT : T < 100000) (hG : zGl B (nI (T + 1)) P pg) (hp : p < P) (nd : zkn (zLv pg p)) (sp : ∀ e ∈ zLv pg p, lo ≤ ke e ∧ ke e < hi) :
    let r := zgat znw ((pg p).2.2.2.map (zen key (nI (T + 1)))) []
    zso2 r ∧ zrowok r ∧ (∀ e ∈ r, e.2.1 ≤ nI (T + 1)) ∧ r.length ≤ B ∧ zkn r ∧ (∀ e ∈ r, lo ≤ ke e ∧ ke e < hi) ∧ ∀ e ∈ r, e.1 ≠ key := by
  intro r
  have t2 := zt2 hT
  have pm : r.Perm ((zLv pg p).filter (fun e => decide (e.1 ≠ key))) := by
    have := zgat_perm znw ((pg p).2.2.2.map (zen key (nI (T + 1)))) []
    rw [List.nil_append, zen_fil t2] at this
    exact this
  have mem : ∀ e ∈ r, e ∈ zLv pg p ∧ e.1 ≠ key := fun e he => by
    have := List.mem_filter.mp (pm.mem_iff.mp he)
    exact ⟨this.1, of_decide_eq_true this.2⟩
  have mem2 : ∀ e ∈ r, e ∈ (pg p).2.2.2 ∧ znw e = true := fun e he => List.mem_filter.mp (mem e he).1
  refine ⟨zgat_so _ _ _ zso_nil, fun e he => ⟨znw_to (mem2 e he).2, ((hG p hp).2.1 e (mem2 e he).1).2⟩, fun e he => ((hG p hp).2.1 e (mem2 e he).1).1.1, ?_, zkn_perm (zkn_fil _ nd) pm.symm, fun e he => sp e (mem e he).1, fun e he => (mem e he).2⟩
  rw [pm.length_eq]
  have a := List.length_filter_le (fun e : zE => decide (e.1 ≠ key)) (zLv pg p)
  have b := zlenLv pg p
  have c := (hG p hp).1
  omega
theorem z_putrow {B T P p : Nat} {key v : Int32} {pg : Nat → zP} {lo hi : Int} (hT : T < 100000) (hG : zGl B (nI (T + 1)) P pg) (hp : p < P) (nd : zkn (zLv pg p)) (sp : ∀ e ∈ zLv pg p, lo ≤ ke e ∧ ke e < hi) (k1 : ¬ key < 0) (l1 : lo ≤ key.toInt) (l2 : key.toInt < hi) :
    let r := zins (key, nI (T + 1), -2, v) (zgat znw ((pg p).2.2.2.map (zen key (nI (T + 1)))) [])
    zso2 r ∧ zrowok r ∧ (∀ e ∈ r, e.2.1 ≤ nI (T + 1)) ∧ r.length ≤ B + 1 ∧ zkn r ∧ (∀ e ∈ r, lo ≤ ke e ∧ ke e < hi) := by
  intro r
  obtain ⟨a1, a2, a3, a4, a5, a6, a7⟩ := z_cutrow (key := key) hT hG hp nd sp
  refine ⟨zins_so a1, fun e he => ?_, fun e he => ?_, by show (zins _ _).length ≤ B + 1; rw [zins_length]; omega, ?_, fun e he => ?_⟩
  · rcases zins_mem.mp he with z | z
    · rw [z]; exact ⟨rfl, k1⟩
    · exact a2 e z
  · rcases zins_mem.mp he with z | z
    · rw [z]; exact Int32.le_refl _
    · exact a3 e z
  · refine zkn_perm ?_ (zins_perm _ _).symm
    unfold zkn
    rw [List.map_cons, List.nodup_cons]
    refine ⟨fun z => ?_, a5⟩
    obtain ⟨y, y1, y2⟩ := List.mem_map.mp z
    exact a7 y y1 y2
  · rcases zins_mem.mp he with z | z
    · rw [z]; exact ⟨l1, l2⟩
    · exact a6 e z
/-- the class's PUT, behind what happens in the history -/
theorem z_putC {B T P : Nat} {key v : Int32} {pg : Nat → zP} {ro : List (Int32 × Int32)} {w : jw} (h : zIx B T P pg ro) (hP : P < 280) (hT : T + 1 < 100000) (k1 : ¬ key < 0) (k2 : key < 1000) (hC : zCw B P pg w) (hR : zCr ro w) :
    ∃ o : Nat × (Nat → zP) × List (Int32 × Int32), zIx B (T + 1) o.1 o.2.1 o.2.2 ∧ (∃ pa, o = zputp B (nI (T + 1)) key v P pg ro pa ∧ (∃ R lev, (∃ ro0 f, ro = ro0 ++ [(f, nI R)]) ∧ pa = (zpth pg key (nI (T + 1)) (lev R) R).reverse ∧ (∃ lo hi, zWf (zAt (nI (T + 1)) P pg) (zLt (nI (T + 1)) pg) (zKd pg) R lo hi lev) ∧ lev R ≤ 19 ∧ zgood B (nI (T + 1)) pa P (zleaf pg (pa.headD 0) key (nI (T + 1))) ro (zins (key, nI (T + 1), -2, v) (zgat znw ((pg (pa.headD 0)).2.2.2.map (zen key (nI (T + 1)))) [])))) ∧
      ∃ w', (jbd2 (f_X1_endLiving key (nI (T + 1)) w) fun x6 w7 => (if (w7.1 18 8) ≤ (rat (w7.2.2.2 21) x6) then jl (jsetI w7 54 3 0) fun w9 => jbd (f_X1_gather x6 (nI (T + 1)) w9) fun q10 => jbd (f_X0_insert key v (nI (T + 1)) q10) fun q11 => jbd (f_X1_replaceUp (nI (T + 1)) q11) fun q12 => some (true, q12) else jbd (f_X6_append x6 key v (nI (T + 1)) w7) fun q13 => some (true, q13))) = some (true, w') ∧ zfG w w' ∧ zCw B o.1 o.2.1 w' ∧ zCr o.2.2 w' := by
  obtain ⟨R, lo, hi, lev, ro0, f, p, up, o1, o2, o3, o4, o5, o6, o7, o8, o9, o10, o11, o12, o13, o14⟩ := z_opleaf (key := key) h hP hT k1 k2
  have h0 := id h
  obtain ⟨h1, h2, h3, h4, h5, h6, h7, _, h9⟩ := h
  have t2 := zt2 h3
  have G1 := zGl_up h3 h7
  have le : nI T ≤ nI (T + 1) := nI_le (by omega) (by omega)
  have rn : ro ≠ [] := by rw [o1]; simp
  have Ap : zal P pg p := ⟨o9, o10⟩
  have pw := o4.2.2.2.2.2 p Ap
  have nd : zkn (zLv pg p) := pw.2.2.2.2.2.1
  have sp := pw.2.2.2.2.2.2.1
  obtain ⟨b1, b2, b3, b4, b5, b6⟩ := z_putrow (key := key) (v := v) h3 G1 o9 nd sp k1 o12 o13
  obtain ⟨go, rs⟩ := o14 _ b1 b2 b3 b4 b5 b6
  obtain ⟨w1, e1, e2, e3, e4, e5⟩ := z_endLiving o5 G1 h2 (by omega) hC hR (by rw [o1]; exact zrt_f (Int32.le_trans o2 le)) rn (by omega) (by omega) k1 k2 o7 o9 nd
  have hd : (p :: up).headD 0 = p := rfl
  have lf : (zleaf pg p key (nI (T + 1)) p).2.2.2.length = (pg p).2.2.2.length := by rw [zleaf_p]; simp
  have sz : rat (w1.2.2.2 21) (nI p) = nI (pg p).2.2.2.length := by
    rw [z_rat (by omega), (e3.2.2.2.2.2.2.2.2.2 p o9).2.1, lf]
  have hlB := (h7 p o9).1
  refine ⟨zputp B (nI (T + 1)) key v P pg ro (p :: up), ?_, ⟨p :: up, rfl, R, lev, ⟨ro0, f, o1⟩, o7.symm, ⟨lo, hi, o5⟩, o3, by rw [hd]; exact go⟩, ?_⟩
  · unfold zputp
    rw [hd]
    by_cases c : (pg p).2.2.2.length < B
    · rw [if_pos c]
      refine zIx_next h0 hT o1 o2 (R := R) ?_
      have L2 : zLv (zapp (zleaf pg p key (nI (T + 1))) p [(key, nI (T + 1), -2, v)]) p = (zLv pg p).filter (fun e => decide (e.1 ≠ key)) ++ [(key, nI (T + 1), -2, v)] := by
        rw [zLv_app, zLv_leaf (P := P) t2]
        rfl
      refine ⟨R, lo, hi, lev, zWf_cg (zWf_leaf (l := (zLv pg p).filter (fun e => decide (e.1 ≠ key)) ++ [(key, nI (T + 1), -2, v)]) o4 Ap o11 (zkn_snoc (zkn_fil _ nd) (fun x hx => of_decide_eq_true (List.mem_filter.mp hx).2)) (fun e he => ?_)) (fun x => ?_) (fun x hx => ⟨?_, ?_⟩), zpot_cg o6 o4.1.1 (fun x hx => ?_), fun x hx => ?_, zmo_trans t2 zmo_leaf (zmo_app (fun e he => by rw [List.mem_singleton] at he; rw [he])), by show P ≤ 320; omega, h5, Or.inl ⟨rfl, rfl⟩⟩
      · rcases List.mem_append.mp he with z | z
        · exact sp e (List.mem_filter.mp z).1
        · rw [List.mem_singleton] at z
          rw [z]
          exact ⟨o12, o13⟩
      · unfold zal zapp zleaf zup
        simp only []
        by_cases c1 : x = p
        · simp only [c1, if_true]
        · simp only [if_neg c1]
      · by_cases c1 : x = p
        · subst c1
          rw [zup_eq, L2]
        · rw [zup_ne c1]
          unfold zLv zapp
          simp only []
          rw [zup_ne c1, zleaf_x c1]
      · unfold zKd zapp zleaf zup
        simp only []
        by_cases c1 : x = p
        · simp only [c1, if_true]
        · simp only [if_neg c1]
      · by_cases c1 : x = p
        · refine ⟨?_, Or.inr (by rw [c1]; exact o11)⟩
          rw [c1]
          unfold zapp zleaf
          simp only []
          rw [zup_eq, zup_eq]
        · have : zapp (zleaf pg p key (nI (T + 1))) p [(key, nI (T + 1), -2, v)] x = pg x := by unfold zapp; rw [zup_ne c1, zleaf_x c1]
          unfold zLv
          simp only []
          rw [this]
          exact ⟨rfl, Or.inl rfl⟩
      · show zpo B (nI (T + 1)) (zapp _ p _ x)
        unfold zapp
        by_cases c1 : x = p
        · subst c1
          rw [zup_eq]
          obtain ⟨g1, g2, g3, g4⟩ := zGl_leaf (p := x) (key := key) G1 x hx
          refine ⟨by show (_ ++ [(key, nI (T + 1), -2, v)] : List zE).length ≤ B; rw [List.length_append, lf]; simp; omega, fun e he => ?_, g3, g4⟩
          rcases List.mem_append.mp he with z | z
          · exact g2 e z
          · rw [List.mem_singleton] at z
            rw [z]
            exact ⟨⟨Int32.le_refl _, Or.inl rfl⟩, k1⟩
        · rw [zup_ne c1]
          exact zGl_leaf G1 x hx
    · rw [if_neg c]
      exact zIx_next h0 hT o1 o2 rs
  · rw [e1, z_jbd2, sz, e3.1]
    unfold zputp
    rw [hd]
    by_cases c : (pg p).2.2.2.length < B
    · rw [if_pos c, if_neg (nI_ge c (by omega))]
      obtain ⟨w2, f1, f2, f3⟩ := z_append key v (nI (T + 1)) e3 o9 (by rw [lf]; exact c) h2 (by omega)
      rw [f1, z_jbd]
      exact ⟨w2, rfl, zfG_trans e2 (zfG_U (zfU_L (zfL_P f2))), f3, zCr_L e4 (zfL_P f2)⟩
    · rw [if_neg c, if_pos (nI_le (by omega) (by omega)), z_jl]
      obtain ⟨w2, f1, f2, f3⟩ := z_gather (t := nI (T + 1)) (w := jsetI w1 54 3 0) (zCw_I e3 (by decide)) o9 h2 (by omega) (zB_0 w1) (by rw [lf]; simp; omega)
      have GL := zGl_leaf (p := p) (key := key) G1
      rw [zgat_congr (ok' := znw) _ _ (fun e he => zlv_nw ((GL p o9).2.1 e he).1), zleaf_p] at f3
      obtain ⟨w3, g1, g2, g3⟩ := z_insert (key, nI (T + 1), -2, v) f3 (by rw [zgat_length]; have := List.countP_le_length (p := znw) (l := (pg p).2.2.2.map (zen key (nI (T + 1)))); rw [List.length_map] at this; simp only [List.length_nil]; omega)
      have g1' : f_X0_insert key v (nI (T + 1)) w2 = some w3 := g1
      rw [f1, z_jbd, g1', z_jbd]
      have fr : zfL w1 w3 := zfL_trans (zfL_I (Or.inr rfl)) (zfL_trans (zfL_B f2) (zfL_B g2))
      have r52 : w3.2.2.2 52 = (zpth pg key (nI (T + 1)) (lev R) R).map nI := by rw [fr.2.2.2 52 (by decide)]; exact e5
      have hw : zway (w3.2.2.2 52) (p :: up) := by
        rw [← o7, r52]
        refine zway_of _ _ rfl (fun i x hx => ?_)
        simp [List.getD_eq_getElem?_getD, hx]
      obtain ⟨w4, u1, u2, u3, u4⟩ := z_replaceUp h1 h2 (p :: up) jfu P _ ro _ w3 go (by show _ < 40000; rw [o8]; omega) (by rw [o8]; omega) hw (zCw_fB (zCw_fB (zCw_I e3 (by decide)) f2) g2) (zCr_L e4 fr) g3
      have ru : f_X1_replaceUp (nI (T + 1)) w3 = some w4 := by
        unfold f_X1_replaceUp
        rw [z_jl, r52, List.length_map, zpth_len, nI_pred]
        rw [o8] at u1
        exact u1
      rw [ru, z_jbd]
      exact ⟨w4, rfl, zfG_trans e2 (zfG_trans (zfG_U (zfU_L fr)) (zfG_U u2)), u3, u4⟩
end
