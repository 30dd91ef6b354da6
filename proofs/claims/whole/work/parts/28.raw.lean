/-! cells as they are made: what each holds when its maker is done (jgF); xs: those that are being made -/
def jgo (k j : Nat) : Option Nat × Int32 := (sref k j, if kd k = some (0, 6) ∧ j = 8 then 8 else 0)
def jgv (B : Nat) (o : Option Nat × Int32) : Value := match o.1 with
  | some r => .ref (B + r)
  | none => .int o.2
def jgF (B k : Nat) : Nat × Nat × (Nat → Value) := match kd k with
  | some (0, ci) => (0, ci, fun j => jgv B (jgo k j))
  | some (1, n) => (1, n, fun _ => .int 0)
  | some (2, n) => (2, n, fun _ => .int 0)
  | some (3, n) => (4, n, fun _ => .int 0)
  | some (4, n) => (3, n, fun _ => .long 0)
  | some (5, n) => (5, n, fun i => .ref (B + (69 + 31 * i)))
  | some (_, _) => (0, 8, fun j => if j = 0 then .ref (B + (k + 1)) else .int 0)
  | none => (1, match kd (k - 1) with
    | some q => q.2
    | none => 0, fun _ => .int 0)
theorem jgF_o {B k ci : Nat} (h : kd k = some (0, ci)) : jgF B k = (0, ci, fun j => jgv B (jgo k j)) := by unfold jgF; rw [h]; rfl
theorem jgF_1 {B k n : Nat} (h : kd k = some (1, n)) : jgF B k = (1, n, fun _ => .int 0) := by unfold jgF; rw [h]; rfl
theorem jgF_2 {B k n : Nat} (h : kd k = some (2, n)) : jgF B k = (2, n, fun _ => .int 0) := by unfold jgF; rw [h]; rfl
theorem jgF_3 {B k n : Nat} (h : kd k = some (3, n)) : jgF B k = (4, n, fun _ => .int 0) := by unfold jgF; rw [h]; rfl
theorem jgF_4 {B k n : Nat} (h : kd k = some (4, n)) : jgF B k = (3, n, fun _ => .long 0) := by unfold jgF; rw [h]; rfl
theorem jgF_5 {B k n : Nat} (h : kd k = some (5, n)) : jgF B k = (5, n, fun i => .ref (B + (69 + 31 * i))) := by unfold jgF; rw [h]; rfl
theorem jgF_r {B k t n : Nat} (h : kd k = some (t, n)) (h6 : 6 ≤ t) : jgF B k = (0, 8, fun j => if j = 0 then .ref (B + (k + 1)) else .int 0) := by
  unfold jgF
  rw [h]
  match t, h6 with
  | t + 6, _ => rfl
theorem jgF_n {B k : Nat} {q : Nat × Nat} (h : kd (k + 1) = none) (h1 : kd k = some q) : jgF B (k + 1) = (1, q.2, fun _ => .int 0) := by
  unfold jgF
  rw [h]
  show (1, (match kd (k + 1 - 1) with
    | some q => q.2
    | none => 0), _) = _
  rw [Nat.add_sub_cancel, h1]
def jrc (E : jE) (H : Heap) (k t n : Nat) (V : Nat → Value) : Prop := match t with
  | 0 => ∃ C : vw_C, jcl[n]? = some C ∧ t_OB (E.2.2.2 + k) (E.2.1.1 n) C.2.2 (E.2.1.2 n) H V
  | t + 1 => H[E.2.2.2 + k]? = some (arrV (E.2.2.1 t) n V)
theorem jrc_kept {E : jE} {H H1 : Heap} {k t n : Nat} {V : Nat → Value} (h : jrc E H k t n V) (e : H1[E.2.2.2 + k]? = H[E.2.2.2 + k]?) : jrc E H1 k t n V := by
  match t, h with
  | 0, h => obtain ⟨C, hC, hO⟩ := h; exact ⟨C, hC, hO.kept e⟩
  | t + 1, h => show _ = _; rw [e]; exact h
abbrev jxs : Type := List (Nat × List Value)
def jraw (E : jE) (b : Nat) (H0 : Heap) (m : Nat) (xs : jxs) (H : Heap) : Prop :=
  H.size = E.2.2.2 + m ∧ b ≤ m ∧ (∀ q, q < E.2.2.2 + b → H[q]? = H0[q]?) ∧
  (∀ k, b ≤ k → k < m → (∀ x ∈ xs, x.1 ≠ k) → jrc E H k (jgF E.2.2.2 k).1 (jgF E.2.2.2 k).2.1 (jgF E.2.2.2 k).2.2) ∧
  (∀ x ∈ xs, b ≤ x.1 ∧ x.1 < m ∧ jrc E H x.1 (jgF E.2.2.2 x.1).1 (jgF E.2.2.2 x.1).2.1 (vp_V x.2)) ∧
  xs.Pairwise (fun x y => y.1 < x.1)
theorem jraw_new {E : jE} {b m : Nat} {H0 H H1 : Heap} {xs : jxs} {V : List Value} (h : jraw E b H0 m xs H) (z : H1.size = E.2.2.2 + m + 1) (oq : ∀ q, q < E.2.2.2 + m → H1[q]? = H[q]?) (hc : jrc E H1 m (jgF E.2.2.2 m).1 (jgF E.2.2.2 m).2.1 (vp_V V)) : jraw E b H0 (m + 1) ((m, V) :: xs) H1 := by
  obtain ⟨h1, h2, h3, h4, h5, h6⟩ := h
  refine ⟨z, by omega, fun q hq => ?_, fun k k1 k2 k3 => ?_, fun x hx => ?_, ?_⟩
  · rw [oq q (by omega)]; exact h3 q hq
  · have hk : k < m := by
      have := k3 (m, V) List.mem_cons_self
      simp only at this
      omega
    exact jrc_kept (h4 k k1 hk (fun x hx => k3 x (List.mem_cons_of_mem _ hx))) (oq _ (by omega))
  · rcases List.mem_cons.mp hx with e | e
    · subst e
      exact ⟨h2, Nat.lt_succ_self m, hc⟩
    · obtain ⟨g1, g2, g3⟩ := h5 x e
      exact ⟨g1, by omega, jrc_kept g3 (oq _ (by omega))⟩
  · exact List.Pairwise.cons (fun y hy => (h5 y hy).2.1) h6
theorem jraw_made {E : jE} {b m : Nat} {H0 H H1 : Heap} {xs : jxs} (h : jraw E b H0 m xs H) (z : H1.size = E.2.2.2 + m + 1) (oq : ∀ q, q < E.2.2.2 + m → H1[q]? = H[q]?) (hc : jrc E H1 m (jgF E.2.2.2 m).1 (jgF E.2.2.2 m).2.1 (jgF E.2.2.2 m).2.2) : jraw E b H0 (m + 1) xs H1 := by
  obtain ⟨h1, h2, h3, h4, h5, h6⟩ := h
  refine ⟨z, by omega, fun q hq => ?_, fun k k1 k2 k3 => ?_, fun x hx => ?_, h6⟩
  · rw [oq q (by omega)]; exact h3 q hq
  · by_cases hk : k = m
    · subst hk; exact hc
    · exact jrc_kept (h4 k k1 (by omega) k3) (oq _ (by omega))
  · obtain ⟨g1, g2, g3⟩ := h5 x hx
    exact ⟨g1, by omega, jrc_kept g3 (oq _ (by omega))⟩
theorem jrc_to {E : jE} {H : Heap} {k t n : Nat} {V V' : Nat → Value} (h : jrc E H k t n V) (e : V = V') : jrc E H k t n V' := e ▸ h
theorem jraw_pop {E : jE} {b m a : Nat} {H0 H : Heap} {xs : jxs} {V : List Value} (h : jraw E b H0 m ((a, V) :: xs) H) (hc : jrc E H a (jgF E.2.2.2 a).1 (jgF E.2.2.2 a).2.1 (vp_V V) → jrc E H a (jgF E.2.2.2 a).1 (jgF E.2.2.2 a).2.1 (jgF E.2.2.2 a).2.2) : jraw E b H0 m xs H := by
  obtain ⟨h1, h2, h3, h4, h5, h6⟩ := h
  refine ⟨h1, h2, h3, fun k k1 k2 k3 => ?_, fun x hx => h5 x (List.mem_cons_of_mem _ hx), (List.pairwise_cons.mp h6).2⟩
  by_cases hk : k = a
  · subst hk
    exact hc (h5 _ List.mem_cons_self).2.2
  · exact h4 k k1 k2 (fun x hx => by
      rcases List.mem_cons.mp hx with e | e
      · subst e; exact fun q => hk q.symm
      · exact k3 x e)
/-- a cell that is being made is written -/
theorem jraw_set {E : jE} {b m a i : Nat} {H0 H H1 : Heap} {xs : jxs} {V V' : List Value} (h : jraw E b H0 m xs H) (hi : xs[i]? = some (a, V)) (z : H1.size = H.size) (oq : ∀ q, q ≠ E.2.2.2 + a → H1[q]? = H[q]?) (hc : jrc E H1 a (jgF E.2.2.2 a).1 (jgF E.2.2.2 a).2.1 (vp_V V')) : jraw E b H0 m (xs.set i (a, V')) H1 := by
  obtain ⟨h1, h2, h3, h4, h5, h6⟩ := h
  have hm : (a, V) ∈ xs := List.mem_of_getElem? hi
  have hlt : i < xs.length := (List.getElem?_eq_some_iff.mp hi).1
  have hm' : (a, V') ∈ xs.set i (a, V') := List.mem_set hlt _
  have ha := h5 _ hm
  have keys : (xs.set i (a, V')).map (fun x => x.1) = xs.map (fun x => x.1) := by
    rw [List.map_set]
    apply List.ext_getElem?
    intro j
    rw [List.getElem?_set]
    split
    · rename_i e
      subst e
      rw [if_pos (by rw [List.length_map]; exact hlt), List.getElem?_map, hi]
      rfl
    · rfl
  have hne : ∀ j x, xs[j]? = some x → j ≠ i → x.1 ≠ a := by
    intro j x hj hji e
    rcases Nat.lt_or_gt_of_ne hji with g | g
    · have := List.pairwise_iff_getElem.mp h6 j i (List.getElem?_eq_some_iff.mp hj).1 hlt g
      rw [(List.getElem?_eq_some_iff.mp hj).2, (List.getElem?_eq_some_iff.mp hi).2, e] at this
      exact absurd this (Nat.lt_irrefl _)
    · have := List.pairwise_iff_getElem.mp h6 i j hlt (List.getElem?_eq_some_iff.mp hj).1 g
      rw [(List.getElem?_eq_some_iff.mp hj).2, (List.getElem?_eq_some_iff.mp hi).2, e] at this
      exact absurd this (Nat.lt_irrefl _)
  refine ⟨by rw [z]; exact h1, h2, fun q hq => ?_, fun k k1 k2 k3 => ?_, fun x hx => ?_, ?_⟩
  · rw [oq q (by have := ha.1; simp only at this; omega)]; exact h3 q hq
  · have hk : k ≠ a := fun e => k3 _ hm' e.symm
    refine jrc_kept (h4 k k1 k2 (fun x hx e => ?_)) (oq _ (by omega))
    have : k ∈ xs.map (fun x => x.1) := List.mem_map.mpr ⟨x, hx, e⟩
    rw [← keys] at this
    obtain ⟨y, hy, ey⟩ := List.mem_map.mp this
    exact k3 y hy ey
  · obtain ⟨j, hj⟩ := List.getElem?_of_mem hx
    rw [List.getElem?_set] at hj
    split at hj
    · rename_i e
      subst e
      cases hj
      exact ⟨ha.1, ha.2.1, hc⟩
    · rename_i e
      have hx' := h5 x (List.mem_of_getElem? hj)
      exact ⟨hx'.1, hx'.2.1, jrc_kept hx'.2.2 (oq _ (by have := hne j x hj (fun q => e q.symm); omega))⟩
  · have this : (xs.map (fun x => x.1)).Pairwise (fun a b : Nat => b < a) := List.pairwise_map.mpr h6
    rw [← keys] at this
    exact List.pairwise_map.mp this
/-- from this place of a maker's body, with these cells made, it comes to its return with P; cells and slots are counted to m', z' -/
def jY (E : jE) (M : jm) (k pc : Nat) (ls : List (Nat × Value)) (st : List Value) (b : Nat) (H0 : Heap) (m z : Nat) (xs : jxs) (m' z' : Nat) (P : Heap → Prop) : Prop :=
  m ≤ m' ∧ z ≤ z' ∧ ∀ (p : Program) (e : Env) (R : Room) (s : State) (mm : MethodId) (args : Array Value) (below : List Frame) (meth : Method) (c : Code) (H : Heap) (locs : List Loc) (cells slots : Nat) (lsA : Array Slot) (Q : State → Prop),
    jCx E M p s mm args c → meth.name = "<init>" → jraw E b H0 m xs H → jS E s H locs → lv_has lsA M.2.2.2.1 ls → k ≤ R.frames → 40 * k ≤ R.locals → cells + (m' - m) ≤ R.cells → slots + (z' - z) ≤ R.slots →
    (∀ (H1 : Heap) (locs1 : List Loc) (pc1 : Nat) (lsA1 : Array Slot), decode M.2.2.1 pc1 = .ok (.return_, 1) → P H1 → jS E s H1 locs1 → W p E.1 e R s mm args below meth c H1 locs1 (cells + (m' - m)) (slots + (z' - z)) Q (F0 mm pc1 lsA1 [])) →
    W p E.1 e R s mm args below meth c H locs cells slots Q (F0 mm pc lsA st)
section JY
variable {E : jE} {M : jm} {k pc b m z m' z' : Nat} {ls : List (Nat × Value)} {rest : List Value} {H0 : Heap} {xs : jxs} {P : Heap → Prop}
theorem jY_go {pc' : Nat} {ls' : List (Nat × Value)} {st st' : List Value}
    (hs : ∀ (p : Program) (e : Env) (R : Room) (s : State) (mm : MethodId) (args : Array Value) (below : List Frame) (meth : Method) (c : Code) (H : Heap) (locs : List Loc) (cells slots : Nat) (lsA : Array Slot) (Q : State → Prop),
      jCx E M p s mm args c → jraw E b H0 m xs H → lv_has lsA M.2.2.2.1 ls → k ≤ R.frames → 40 * k ≤ R.locals → (∀ lsB : Array Slot, lv_has lsB M.2.2.2.1 ls' → W p E.1 e R s mm args below meth c H locs cells slots Q (F0 mm pc' lsB st')) → W p E.1 e R s mm args below meth c H locs cells slots Q (F0 mm pc lsA st))
    (kk : jY E M k pc' ls' st' b H0 m z xs m' z' P) : jY E M k pc ls st b H0 m z xs m' z' P := by
  obtain ⟨c1, c2, kk⟩ := kk
  exact ⟨c1, c2, fun p e R s mm args below meth c H locs cells slots lsA Q b1 b2 b3 b4 b5 b6 b7 b8 b9 b10 =>
    hs p e R s mm args below meth c H locs cells slots lsA Q b1 b3 b5 b6 b7 (fun lsB hB => kk p e R s mm args below meth c H locs cells slots lsB Q b1 b2 b3 b4 hB b6 b7 b8 b9 b10)⟩
theorem jy_aload_n {i : Fin 4} {x : Nat} (d : decode M.2.2.1 pc = .ok (.aload_n i, 1)) (hv : jlook ls i = some (.ref x)) (kk : jY E M k (pc + 1) ls (.ref x :: rest) b H0 m z xs m' z' P) : jY E M k pc ls rest b H0 m z xs m' z' P :=
  jY_go (fun p e R s mm args below meth c H locs cells slots lsA Q C hR hl _ _ kw => lv_aload_n C.1 C.2.1 d rfl (hl.2.2 (_, _) (jlook_mem hv)) (kw _ hl)) kk
theorem jy_iload_n {i : Fin 4} {x : Int32} (d : decode M.2.2.1 pc = .ok (.iload_n i, 1)) (hv : jlook ls i = some (.int x)) (kk : jY E M k (pc + 1) ls (.int x :: rest) b H0 m z xs m' z' P) : jY E M k pc ls rest b H0 m z xs m' z' P :=
  jY_go (fun p e R s mm args below meth c H locs cells slots lsA Q C hR hl _ _ kw => lv_iload_n C.1 C.2.1 d rfl (hl.2.2 (_, _) (jlook_mem hv)) (kw _ hl)) kk
theorem jy_istore_n {i : Fin 4} {x : Int32} {ls' : List (Nat × Value)} (d : decode M.2.2.1 pc = .ok (.istore_n i, 1)) (hn : (i : Nat) < M.2.2.2.1) (hp : jput ls i (.int x) = ls') (kk : jY E M k (pc + 1) ls' rest b H0 m z xs m' z' P) : jY E M k pc ls (.int x :: rest) b H0 m z xs m' z' P :=
  jY_go (fun p e R s mm args below meth c H locs cells slots lsA Q C hR hl _ _ kw => lv_istore_n C.1 C.2.1 d rfl hl hn rfl (fun lsB hB => kw lsB (hp ▸ lv_jins hB))) kk
theorem jy_iinc {i : Nat} {n : Int} {x v : Int32} {ls' : List (Nat × Value)} (d : decode M.2.2.1 pc = .ok (.iinc i n, 3)) (hv : jlook ls i = some (.int x)) (he : x + Int32.ofInt n = v) (hn : i < M.2.2.2.1) (hp : jput ls i (.int v) = ls') (kk : jY E M k (pc + 3) ls' rest b H0 m z xs m' z' P) : jY E M k pc ls rest b H0 m z xs m' z' P :=
  jY_go (fun p e R s mm args below meth c H locs cells slots lsA Q C hR hl _ _ kw => by
    obtain ⟨a, ha⟩ := List.getElem?_of_mem (jlook_mem hv)
    exact lv_iinc C.1 C.2.1 d hl ha he hn rfl (fun lsB hB => kw lsB (hp ▸ lv_jins hB))) kk
theorem jy_iconst {n : Int} {v : Int32} (d : decode M.2.2.1 pc = .ok (.iconst n, 1)) (hv : Int32.ofInt n = v) (kk : jY E M k (pc + 1) ls (.int v :: rest) b H0 m z xs m' z' P) : jY E M k pc ls rest b H0 m z xs m' z' P :=
  jY_go (fun p e R s mm args below meth c H locs cells slots lsA Q C hR hl _ _ kw => lv_iconst C.1 C.2.1 d hv (kw _ hl)) kk
theorem jy_bipush {n : Int} {v : Int32} (d : decode M.2.2.1 pc = .ok (.bipush n, 2)) (hv : (Int8.ofInt n).toInt32 = v) (kk : jY E M k (pc + 2) ls (.int v :: rest) b H0 m z xs m' z' P) : jY E M k pc ls rest b H0 m z xs m' z' P :=
  jY_go (fun p e R s mm args below meth c H locs cells slots lsA Q C hR hl _ _ kw => lv_bipush C.1 C.2.1 d hv (kw _ hl)) kk
theorem jy_sipush {n : Int} {v : Int32} (d : decode M.2.2.1 pc = .ok (.sipush n, 3)) (hv : (Int16.ofInt n).toInt32 = v) (kk : jY E M k (pc + 3) ls (.int v :: rest) b H0 m z xs m' z' P) : jY E M k pc ls rest b H0 m z xs m' z' P :=
  jY_go (fun p e R s mm args below meth c H locs cells slots lsA Q C hR hl _ _ kw => lv_sipush C.1 C.2.1 d hv (kw _ hl)) kk
theorem jy_ldc {i : Nat} {v : Int32} (d : decode M.2.2.1 pc = .ok (.ldc i, 2)) (hv : Cond.constant M.1 i v ∈ jtbl) (kk : jY E M k (pc + 2) ls (.int v :: rest) b H0 m z xs m' z' P) : jY E M k pc ls rest b H0 m z xs m' z' P :=
  jY_go (fun p e R s mm args below meth c H locs cells slots lsA Q C hR hl _ _ kw => lv_ldc C.1 C.2.1 C.2.2.2.1 (C.2.2.2.2.1 _ hv) d (kw _ hl)) kk
theorem jy_dup {v : Value} (d : decode M.2.2.1 pc = .ok (.dup, 1)) (hc : v.category = 1) (kk : jY E M k (pc + 1) ls (v :: v :: rest) b H0 m z xs m' z' P) : jY E M k pc ls (v :: rest) b H0 m z xs m' z' P :=
  jY_go (fun p e R s mm args below meth c H locs cells slots lsA Q C hR hl _ _ kw => lv_dup C.1 C.2.1 d hc (kw _ hl)) kk
theorem jy_goto {off : Int} {tgt : Nat} (d : decode M.2.2.1 pc = .ok (.goto off, 3)) (ht : (pc : Int) + off = (tgt : Int)) (kk : jY E M k tgt ls rest b H0 m z xs m' z' P) : jY E M k pc ls rest b H0 m z xs m' z' P :=
  jY_go (fun p e R s mm args below meth c H locs cells slots lsA Q C hR hl _ _ kw => lv_goto C.1 C.2.1 d ht (kw _ hl)) kk
theorem jy_icmp_ge_t {off : Int} {tgt : Nat} {x y : Int32} (d : decode M.2.2.1 pc = .ok (.if_icmp .ge off, 3)) (ht : (pc : Int) + off = (tgt : Int)) (q : y ≤ x) (kk : jY E M k tgt ls rest b H0 m z xs m' z' P) : jY E M k pc ls (.int y :: .int x :: rest) b H0 m z xs m' z' P :=
  jY_go (fun p e R s mm args below meth c H locs cells slots lsA Q C hR hl _ _ kw => lv_icmp_ge C.1 C.2.1 d ht (fun _ => kw _ hl) (fun z => absurd q z)) kk
theorem jy_icmp_ge_f {off : Int} {tgt : Nat} {x y : Int32} (d : decode M.2.2.1 pc = .ok (.if_icmp .ge off, 3)) (ht : (pc : Int) + off = (tgt : Int)) (q : ¬ y ≤ x) (kk : jY E M k (pc + 3) ls rest b H0 m z xs m' z' P) : jY E M k pc ls (.int y :: .int x :: rest) b H0 m z xs m' z' P :=
  jY_go (fun p e R s mm args below meth c H locs cells slots lsA Q C hR hl _ _ kw => lv_icmp_ge C.1 C.2.1 d ht (fun z => absurd z q) (fun _ => kw _ hl)) kk
theorem tw_oi : Cond.instanceMethod Lib.objectInit ∈ jtbl := jt (n := 135) (by decide +kernel) rfl
theorem tw_oc : Cond.code Lib.objectInit ⟨#[0xb1]⟩ 1 none ∈ jtbl := jt (n := 136) (by decide +kernel) rfl
theorem jy_obj {idx a : Nat} (d : decode M.2.2.1 pc = .ok (.invokespecial idx, 3)) (hl : Cond.methodLink M.1 idx Lib.objectInit ∈ jtbl) (hk : 1 ≤ k) (hcat : (rest.map fun v => v.category).sum ≤ 8) (kk : jY E M k (pc + 3) ls rest b H0 m z xs m' z' P) : jY E M k pc ls (.ref a :: rest) b H0 m z xs m' z' P :=
  jY_go (fun p e R s mm args below meth c H locs cells slots lsA Q C hR hls f1 f2 kw => by
    refine W.objInit (g := F0 mm pc lsA (.ref a :: rest)) C.1 C.2.1 C.2.2.2.1 (C.2.2.2.2.1 _ hl) (C.2.2.2.2.1 _ tw_oi) (C.2.2.2.2.1 _ tw_oc) rfl (hls.1.trans C.2.2.1.symm) rfl d (by omega) ?_ (kw lsA hls)
    show 2 * 0 + _ + 12 ≤ _
    omega) kk
theorem jy_max {idx n : Nat} (d : decode M.2.2.1 pc = .ok (.invokestatic idx, 3)) (hl : Cond.methodLink M.1 idx Lib.Math.max.name ∈ jtbl) (hn1 : 1 ≤ n) (hn : n ≤ 1000000) (hk : 1 ≤ k) (hcat : (rest.map fun v => v.category).sum ≤ 8) (kk : jY E M k (pc + 3) ls (.int (nI n) :: rest) b H0 m z xs m' z' P) : jY E M k pc ls (.int (nI n) :: .int (nI 1) :: rest) b H0 m z xs m' z' P := by
  obtain ⟨c1, c2, kk⟩ := kk
  refine ⟨c1, c2, fun p e R s mm args below meth c H locs cells slots lsA Q C b2 b3 b4 b5 b6 b7 b8 b9 b10 => ?_⟩
  have ez : (if nI 1 < nI n then nI n else nI 1) = nI n := by
    by_cases h1 : n = 1
    · subst h1; simp
    · rw [if_pos]
      rw [← Int32.not_le, nI_leI (by omega) (by omega)]
      omega
  refine va_mmax C.1 C.2.1 (C.2.2.1.trans b5.1.symm) C.2.2.2.1 (C.2.2.2.2.1 _ hl) (C.2.2.2.2.1 _ (jt (n := 144) (by decide +kernel) rfl)) (C.2.2.2.2.1 _ (jt (n := 110) (by decide +kernel) rfl)) (C.2.2.2.2.1 _ (jt (n := 145) (by decide +kernel) rfl)) (by omega) (by omega) (by omega) (by omega) d ?_
  rw [ez]
  exact kk p e R s mm args below meth c H locs cells slots lsA Q C b2 b3 b4 b5 b6 b7 b8 b9 b10
/-- an object or an array that is being made, or is made, at a place -/
theorem jY_st {pc' m1 z1 : Nat} {st st' : List Value} {xs1 : jxs} (hm : m ≤ m1) (hz : z ≤ z1)
    (hs : ∀ (p : Program) (e : Env) (R : Room) (s : State) (mm : MethodId) (args : Array Value) (below : List Frame) (meth : Method) (c : Code) (H : Heap) (locs : List Loc) (cells slots : Nat) (lsA : Array Slot) (Q : State → Prop),
      jCx E M p s mm args c → meth.name = "<init>" → jraw E b H0 m xs H → jS E s H locs → cells + (m1 - m) ≤ R.cells → slots + (z1 - z) ≤ R.slots → (∀ (H1 : Heap) (locs1 : List Loc), jraw E b H0 m1 xs1 H1 → jS E s H1 locs1 → W p E.1 e R s mm args below meth c H1 locs1 (cells + (m1 - m)) (slots + (z1 - z)) Q (F0 mm pc' lsA st')) → W p E.1 e R s mm args below meth c H locs cells slots Q (F0 mm pc lsA st))
    (kk : jY E M k pc' ls st' b H0 m1 z1 xs1 m' z' P) : jY E M k pc ls st b H0 m z xs m' z' P := by
  obtain ⟨c1, c2, kk⟩ := kk
  refine ⟨by omega, by omega, fun p e R s mm args below meth c H locs cells slots lsA Q b1 b2 b3 b4 b5 b6 b7 b8 b9 b10 => ?_⟩
  refine hs p e R s mm args below meth c H locs cells slots lsA Q b1 b2 b3 b4 (by omega) (by omega) (fun H1 locs1 g1 g2 => ?_)
  have ec : cells + (m1 - m) + (m' - m1) = cells + (m' - m) := by omega
  have es : slots + (z1 - z) + (z' - z1) = slots + (z' - z) := by omega
  exact kk p e R s mm args below meth c H1 locs1 _ _ lsA Q b1 b2 g1 g2 b5 b6 b7 (by omega) (by omega) (fun H2 locs2 pc2 lsA2 d1 d2 d3 => by rw [ec, es]; exact b10 H2 locs2 pc2 lsA2 d1 d2 d3)
theorem jy_new {idx ci N : Nat} {C : String} {T : u_T} {V : List Value} (d : decode M.2.2.1 pc = .ok (.new idx, 3)) (hc : jcl[ci]? = some (C, T, N)) (hl : Cond.classLink M.1 idx C ∈ jtbl) (hi : Cond.instantiable C N ∈ jtbl) (hin : Cond.initialized C ∈ jtbl) (hg : (jgF E.2.2.2 m).1 = 0 ∧ (jgF E.2.2.2 m).2.1 = ci) (hV : ∀ j, j < N → defaultValue (jty ci j) = vp_V V j)
    (kk : jY E M k (pc + 3) ls (.ref (E.2.2.2 + m) :: rest) b H0 (m + 1) (z + N) ((m, V) :: xs) m' z' P) : jY E M k pc ls rest b H0 m z xs m' z' P := by
  refine jY_st (m1 := m + 1) (z1 := z + N) (by omega) (by omega) (fun p e R s mm args below meth c H locs cells slots lsA Q C0 hnm hR hS f1 f2 kw => ?_) kk
  have e1 : m + 1 - m = 1 := by omega
  have e2 : z + N - z = N := by omega
  rw [e1] at f1 kw
  rw [e2] at f2 kw
  obtain ⟨hx, hb, hml, hown, hts, hK, -⟩ := C0
  obtain ⟨hiin, hty, -⟩ := jcl_ok hc
  have hKn := hK.1 ci _ hc
  refine W.newcK hx hb hown (hts _ hl) (hts _ hi) (hts _ hin) rfl d f1 f2 hKn.2.1 hR.1 (fun H1 kC hkC g1 g2 g3 => ?_)
  refine kw H1 locs (jraw_new hR g2 g3 ?_) ⟨Nat.le_trans hS.1 (by have := hR.1; omega), fun q q1 q2 => by rw [g3 q (by have := hS.1; have := hR.1; omega)]; exact hS.2.1 q q1 q2, hS.2.2⟩
  rw [hg.1, hg.2]
  exact ⟨_, hc, (u_born (jty ci) hts hiin hKn hkC g1 hty).to hV⟩
theorem jy_newa {atype : ArrayType} {t n : Nat} (d : decode M.2.2.1 pc = .ok (.newarray atype, 2)) (ha : Cond.arrayClass (newarray.typeOf atype) ∈ jtbl) (ht : (jtys E.2.2.1)[t]? = some (E.2.2.1 t, newarray.typeOf atype)) (hn : n ≤ 200000) (hg : (jgF E.2.2.2 m).1 = t + 1 ∧ (jgF E.2.2.2 m).2.1 = n ∧ (jgF E.2.2.2 m).2.2 = fun _ => defaultValue (newarray.typeOf atype)) (hbt : componentBytes (newarray.typeOf atype) ≤ 8) (hnr : ∀ (U : State) (cA : ClassId), va_RA U cA (newarray.typeOf atype) → U.vm.findClass ("[" ++ (newarray.typeOf atype).toString) = some cA)
    (kk : jY E M k (pc + 2) ls (.ref (E.2.2.2 + m) :: rest) b H0 (m + 1) (z + n) xs m' z' P) : jY E M k pc ls (.int (nI n) :: rest) b H0 m z xs m' z' P := by
  refine jY_st (m1 := m + 1) (z1 := z + n) (by omega) (by omega) (fun p e R s mm args below meth c H locs cells slots lsA Q C0 hnm hR hS f1 f2 kw => ?_) kk
  have e1 : m + 1 - m = 1 := by omega
  have e2 : z + n - z = n := by omega
  rw [e1] at f1 kw
  rw [e2] at f2 kw
  obtain ⟨hx, hb, hml, hown, hts, hK, -⟩ := C0
  have hby : n * componentBytes (newarray.typeOf atype) ≤ 536870912 := Nat.le_trans (Nat.mul_le_mul_left n hbt) (by omega)
  refine va_newaK (atype := atype) hx hb (hts _ ha) (g := F0 mm pc lsA (.int (nI n) :: rest)) rfl d rfl (nI_pos (by omega)) (nI_clamp (by omega)) hby f1 f2 hR.1 (fun H1 cA g1 g2 g3 g4 g5 => ?_)
  have eA : cA = E.2.2.1 t := Option.some.inj (g5.symm.trans (hnr s _ (hK.2 t _ ht).2))
  subst eA
  refine kw H1 locs (jraw_made hR g2 g3 ?_) ⟨Nat.le_trans hS.1 (by have := hR.1; omega), fun q q1 q2 => by rw [g3 q (by have := hS.1; have := hR.1; omega)]; exact hS.2.1 q q1 q2, hS.2.2⟩
  rw [hg.1, hg.2.1, hg.2.2]
  exact g1
/-- a field of an object that is being made -/
theorem jy_get {idx ci j a i : Nat} {V : List Value} (d : decode M.2.2.1 pc = .ok (.getfield idx, 3)) (fl : jFl M.1 idx ci j) (hi : xs[i]? = some (a, V)) (hg : (jgF E.2.2.2 a).1 = 0 ∧ (jgF E.2.2.2 a).2.1 = ci) {v : Value} (hv : vp_V V j = v)
    (kk : jY E M k (pc + 3) ls (v :: rest) b H0 m z xs m' z' P) : jY E M k pc ls (.ref (E.2.2.2 + a) :: rest) b H0 m z xs m' z' P :=
  jY_go (fun p e R s mm args below meth c H locs cells slots lsA Q C hR hl _ _ kw => by
    have hc := (hR.2.2.2.2.1 _ (List.mem_of_getElem? hi)).2.2
    rw [hg.1, hg.2] at hc
    obtain ⟨C0, h0, hO⟩ := hc
    subst hv
    exact jW_get (N := 0) C d fl h0 hO (kw _ hl)) kk
/-- a field of an object that is made -/
theorem jy_getF {idx ci j a : Nat} (d : decode M.2.2.1 pc = .ok (.getfield idx, 3)) (fl : jFl M.1 idx ci j) (hx : ∀ x ∈ xs, x.1 ≠ a) (hb : b ≤ a) (ha : a < m) (hg : (jgF E.2.2.2 a).1 = 0 ∧ (jgF E.2.2.2 a).2.1 = ci) {v : Value} (hv : (jgF E.2.2.2 a).2.2 j = v)
    (kk : jY E M k (pc + 3) ls (v :: rest) b H0 m z xs m' z' P) : jY E M k pc ls (.ref (E.2.2.2 + a) :: rest) b H0 m z xs m' z' P :=
  jY_go (fun p e R s mm args below meth c H locs cells slots lsA Q C hR hl _ _ kw => by
    have hc := hR.2.2.2.1 a hb ha hx
    rw [hg.1, hg.2] at hc
    obtain ⟨C0, h0, hO⟩ := hc
    subst hv
    exact jW_get (N := 0) C d fl h0 hO (kw _ hl)) kk
/-- a final field, in its own kind's maker -/
def jFf (own : String) (idx ci j : Nat) : Prop := ∃ (T : u_T) (N : Nat), jcl[ci]? = some (own, T, N) ∧ j < N ∧ Cond.fieldLink own idx (T j).1 (T j).2.1 (T j).2.2.1 ∈ jtbl ∧ (T j).2.2.2 = true ∧ (T j).1 = own
theorem jW_putF {p : Program} {e : Env} {R : Room} {s : State} {mm : MethodId} {args : Array Value} {below : List Frame} {meth : Method} {c : Code} {H : Heap} {locs : List Loc} {cells slots : Nat} {Q : State → Prop} {lsA : Array Slot} {idx ci j a : Nat} {V : Nat → Value} {v : Value} {C0 : vw_C} (C : jCx E M p s mm args c) (hnm0 : meth.name = "<init>") (hS0 : jS E s H locs) (hB : E.2.2.2 ≤ a) (d : decode M.2.2.1 pc = .ok (.putfield idx, 3)) (fl : jFf M.1 idx ci j) (h0 : jcl[ci]? = some C0) (hO : t_OB a (E.2.1.1 ci) C0.2.2 (E.2.1.2 ci) H V)
    (hn : narrow (jty ci j) v = v) (hf : fits (jty ci j) v = true)
    (kk : ∀ (H1 : Heap) (locs1 : List Loc), t_OB a (E.2.1.1 ci) C0.2.2 (E.2.1.2 ci) H1 (updV V j v) → H1.size = H.size → (∀ q, q ≠ a → H1[q]? = H[q]?) → jS E s H1 locs1 → W p E.1 e R s mm args below meth c H1 locs1 cells slots Q (F0 mm (pc + 3) lsA rest)) : W p E.1 e R s mm args below meth c H locs cells slots Q (F0 mm pc lsA (v :: .ref a :: rest)) := by
  obtain ⟨T, N, hc, hj, hlk, hfin, hdecl⟩ := fl
  cases h0.symm.trans hc
  obtain ⟨hx, hb, hml, hown, hts, hK, -⟩ := C
  obtain ⟨hin, hty, hnm⟩ := jcl_ok hc
  have hap := va_apart (own := M.1) hts hin (jty ci) hty hnm hK hc
  obtain ⟨cell, q1, q2, q3, q4⟩ := hO
  obtain ⟨hS, hfc, kC, hkC, hkind⟩ := hK.1 ci _ hc
  obtain ⟨cf, kf, fi, f, hi, hsl⟩ := hS j hj
  have hlay := hts _ (hin _ (u_in_lay hj))
  unfold u_lay at hlay
  rw [if_pos hfin] at hlay
  have hst := (u_facts hfc hkC (u_lays hts hin hj) hi).1
  have hcf : mm.cls = cf := by
    obtain ⟨_, _, c', _, _, _, -, -, hf', -, -, -, hown2, -⟩ := Cond.laysFinal_spec hlay
    have e1 : c' = cf := by have := hi.symm.trans hf'; simp at this; exact this.1.symm
    rw [hdecl] at hown2
    rw [← e1]; exact Option.some.inj (hown.symm.trans hown2)
  have h6 := u_fits hfc hkC hkind (Or.inr hlay) hi (hty j hj) hn hf
  refine W.putFinK hx hb hown (hts _ hlk) hi hst hcf hnm0 (by rw [q2]; exact h6) q1 q3 (by rw [hsl]; exact k2_hasslot (q4 j hj)) rfl rfl d fun H' e1 e2 e3 => ?_
  rw [hsl] at e1 ⊢
  exact kk H' _ ⟨_, e1, q2, q3, t_set q4 hap hj v⟩ e2 e3 (hS0.put e2 e3 hB)
theorem jy_putF {idx ci j a i : Nat} {V : List Value} {v : Value} (d : decode M.2.2.1 pc = .ok (.putfield idx, 3)) (fl : jFf M.1 idx ci j) (hi : xs[i]? = some (a, V)) (hg : (jgF E.2.2.2 a).1 = 0 ∧ (jgF E.2.2.2 a).2.1 = ci) (hj : j < V.length) (hn : narrow (jty ci j) v = v) (hf : fits (jty ci j) v = true) {xs1 : jxs} (hx1 : xs.set i (a, V.set j v) = xs1)
    (kk : jY E M k (pc + 3) ls rest b H0 m z xs1 m' z' P) : jY E M k pc ls (v :: .ref (E.2.2.2 + a) :: rest) b H0 m z xs m' z' P := by
  subst hx1
  refine jY_st (Nat.le_refl m) (Nat.le_refl z) (fun p e R s mm args below meth c H locs cells slots lsA Q C0 hnm hR hS f1 f2 kw => ?_) kk
  rw [Nat.sub_self, Nat.sub_self] at kw
  have hc := (hR.2.2.2.2.1 _ (List.mem_of_getElem? hi)).2.2
  rw [hg.1, hg.2] at hc
  obtain ⟨C1, h0, hO⟩ := hc
  refine jW_putF C0 hnm hS (Nat.le_add_right _ _) d fl h0 hO hn hf (fun H1 locs1 g1 g2 g3 g4 => kw H1 locs1 (jraw_set hR hi g2 g3 ?_) g4)
  rw [hg.1, hg.2]
  exact ⟨C1, h0, g1.to (fun q _ => vp_updV_set hj v q)⟩
theorem jy_put {idx ci j a i : Nat} {V : List Value} {v : Value} (d : decode M.2.2.1 pc = .ok (.putfield idx, 3)) (fl : jFp M.1 idx ci j) (hi : xs[i]? = some (a, V)) (hg : (jgF E.2.2.2 a).1 = 0 ∧ (jgF E.2.2.2 a).2.1 = ci) (hj : j < V.length) (hn : narrow (jty ci j) v = v) (hf : fits (jty ci j) v = true) {xs1 : jxs} (hx1 : xs.set i (a, V.set j v) = xs1)
    (kk : jY E M k (pc + 3) ls rest b H0 m z xs1 m' z' P) : jY E M k pc ls (v :: .ref (E.2.2.2 + a) :: rest) b H0 m z xs m' z' P := by
  subst hx1
  refine jY_st (Nat.le_refl m) (Nat.le_refl z) (fun p e R s mm args below meth c H locs cells slots lsA Q C0 hnm hR hS f1 f2 kw => ?_) kk
  rw [Nat.sub_self, Nat.sub_self] at kw
  have hc := (hR.2.2.2.2.1 _ (List.mem_of_getElem? hi)).2.2
  rw [hg.1, hg.2] at hc
  obtain ⟨C1, h0, hO⟩ := hc
  refine jW_put (N := 0) C0 hS (Nat.le_add_right _ _) d fl h0 hO hn hf (fun H1 locs1 g1 g2 g3 g4 => kw H1 locs1 (jraw_set hR hi g2 g3 ?_) g4)
  rw [hg.1, hg.2]
  exact ⟨C1, h0, g1.to (fun q _ => vp_updV_set hj v q)⟩
/-- the row of states -/
theorem jy_anew {idx n : Nat} {V : List Value} (d : decode M.2.2.1 pc = .ok (.anewarray idx, 3)) (hl : Cond.classLink M.1 idx RX9 ∈ jtbl) (hao : ∀ (U : State), M.2.2.2.2.2 E.2.2.2 U → va_AO RX9 U) (hn : n ≤ 1000) (hg : (jgF E.2.2.2 m).1 = 5 ∧ (jgF E.2.2.2 m).2.1 = n) (hV : V = List.replicate n .null)
    (kk : jY E M k (pc + 3) ls (.ref (E.2.2.2 + m) :: rest) b H0 (m + 1) (z + n) ((m, V) :: xs) m' z' P) : jY E M k pc ls (.int (nI n) :: rest) b H0 m z xs m' z' P := by
  refine jY_st (m1 := m + 1) (z1 := z + n) (by omega) (by omega) (fun p e R s mm args below meth c H locs cells slots lsA Q C0 hnm hR hS f1 f2 kw => ?_) kk
  have e1 : m + 1 - m = 1 := by omega
  have e2 : z + n - z = n := by omega
  rw [e1] at f1 kw
  rw [e2] at f2 kw
  obtain ⟨hx, hb, hml, hown, hts, hK, -, hZ⟩ := C0
  have hcl : (nI n).toNatClampNeg = n := nI_clamp (by omega)
  refine W.anew hx hb hown (hts _ hl) (va_AO.use (hao s hZ)) (g := F0 mm pc lsA (.int (nI n) :: rest)) rfl d rfl (nI_pos (by omega)) (by rw [hcl]; omega) f1 (by rw [hcl]; exact f2) (fun cA kA comp g1 g2 g3 g4 => ?_)
  rw [hcl]
  have eA : cA = E.2.2.1 4 := by
    obtain ⟨kA', comp', -, -, -, q4⟩ := (hK.2 4 _ rfl).2
    exact Option.some.inj (g1.symm.trans q4)
  subst eA
  have z1 : (H.push { cls := E.2.2.1 4, slots := Array.replicate n .null, vm := .none }).size = E.2.2.2 + m + 1 := by rw [Array.size_push, hR.1]
  have o1 : ∀ q, q < E.2.2.2 + m → (H.push { cls := E.2.2.1 4, slots := Array.replicate n .null, vm := .none })[q]? = H[q]? := fun q hq => by rw [Array.getElem?_push, if_neg (by rw [hR.1]; omega)]
  rw [hR.1]
  refine kw _ locs (jraw_new hR z1 o1 ?_) ⟨Nat.le_trans hS.1 (by have := hR.1; omega), fun q q1 q2 => by rw [o1 q (by have := hS.1; have := hR.1; omega)]; exact hS.2.1 q q1 q2, hS.2.2⟩
  rw [hg.1, hg.2]
  show _ = _
  rw [Array.getElem?_push, if_pos hR.1.symm, hV]
  congr 1
  unfold arrV
  congr 1
  apply Array.ext
  · simp
  · intro i h1 h2
    simp [vp_V, List.getD, List.getElem?_replicate]
theorem jy_aast {n a v i j : Nat} {V : List Value} (d : decode M.2.2.1 pc = .ok (.aastore, 1)) (hi : xs[i]? = some (a, V)) (hg : (jgF E.2.2.2 a).1 = 5 ∧ (jgF E.2.2.2 a).2.1 = n) (hj : j < n) (hjl : j < V.length) (hn : n ≤ 1000) (hx : ∀ x ∈ xs, x.1 ≠ v) (hbv : b ≤ v) (hvm : v < m) (hgv : (jgF E.2.2.2 v).1 = 0 ∧ (jgF E.2.2.2 v).2.1 = 9) {xs1 : jxs} (hx1 : xs.set i (a, V.set j (.ref (E.2.2.2 + v))) = xs1)
    (kk : jY E M k (pc + 1) ls rest b H0 m z xs1 m' z' P) : jY E M k pc ls (.ref (E.2.2.2 + v) :: .int (nI j) :: .ref (E.2.2.2 + a) :: rest) b H0 m z xs m' z' P := by
  subst hx1
  refine jY_st (Nat.le_refl m) (Nat.le_refl z) (fun p e R s mm args below meth c H locs cells slots lsA Q C0 hnm hR hS f1 f2 kw => ?_) kk
  rw [Nat.sub_self, Nat.sub_self] at kw
  have hc := (hR.2.2.2.2.1 _ (List.mem_of_getElem? hi)).2.2
  rw [hg.1, hg.2] at hc
  have hv := hR.2.2.2.1 v hbv hvm hx
  rw [hgv.1, hgv.2] at hv
  obtain ⟨C1, h0, cellV, g1, g2, g3, -⟩ := hv
  obtain ⟨hx, hb, hml, hown, hts, hK, -⟩ := C0
  cases h0
  have hcls := (hK.1 9 _ rfl).2
  obtain ⟨kA, comp, k1, k2, k3, -⟩ := (hK.2 4 _ rfl).2
  have hcomp : comp = E.2.1.1 9 := Option.some.inj (k3.symm.trans hcls.1)
  subst hcomp
  obtain ⟨kC, hkC, -⟩ := hcls.2
  have hcl : (nI j).toNatClampNeg = j := nI_clamp (by omega)
  refine W.aast hx hb hc (fun q h => by cases h) (fun h => by cases h) k1 k2 rfl hkC ⟨nI_pos (by omega), by show _ < (arrV _ _ _).slots.size; rw [arrV_size, hcl]; exact hj⟩ g1 (fun q h => by rw [g3] at h; cases h) (by rw [g2]; exact hkC) (by rw [g2]; exact va_assign hcls) rfl rfl d (fun H1 e1 e2 e3 => ?_)
  rw [hcl] at e1 ⊢
  refine kw H1 _ (jraw_set hR hi e2 e3 ?_) (hS.put e2 e3 (Nat.le_add_right _ _))
  rw [hg.1, hg.2]
  show _ = _
  rw [e1, arrV_store]
  congr 2
  funext q
  exact vp_updV_set hjl _ q
/-- what is being made is as it shall be -/
theorem jy_pop {pc : Nat} {st : List Value} {a ci N : Nat} {V : List Value} {C : String} {T : u_T} (hg : kd a = some (0, ci)) (hc : jcl[ci]? = some (C, T, N)) {os : List (Option Nat × Int32)} (ho : (List.range N).map (jgo a) = os) (hV : V = os.map (jgv E.2.2.2))
    (kk : jY E M k pc ls st b H0 m z xs m' z' P) : jY E M k pc ls st b H0 m z ((a, V) :: xs) m' z' P := by
  obtain ⟨c1, c2, kk⟩ := kk
  refine ⟨c1, c2, fun p e R s mm args below meth c H locs cells slots lsA Q b1 b2 b3 b4 b5 b6 b7 b8 b9 b10 => ?_⟩
  refine kk p e R s mm args below meth c H locs cells slots lsA Q b1 b2 (jraw_pop b3 ?_) b4 b5 b6 b7 b8 b9 b10
  have e1 : jgF E.2.2.2 a = (0, ci, fun j => jgv E.2.2.2 (jgo a j)) := jgF_o hg
  rw [e1]
  rintro ⟨C1, h1, hO⟩
  refine ⟨C1, h1, hO.to (fun j hj => ?_)⟩
  cases h1.symm.trans hc
  subst hV
  subst ho
  simp only [] at hj
  simp [vp_V, hj]
/-- the end of a maker's body -/
theorem jy_ret (d : decode M.2.2.1 pc = .ok (.return_, 1)) (hP : ∀ H : Heap, jraw E b H0 m xs H → P H) : jY E M k pc ls [] b H0 m z xs m z P :=
  ⟨Nat.le_refl _, Nat.le_refl _, fun p e R s mm args below meth c H locs cells slots lsA Q b1 b2 b3 b4 b5 b6 b7 b8 b9 b10 => by
    have := b10 H locs pc lsA d (hP H b3) b4
    rw [Nat.sub_self, Nat.sub_self] at this
    exact this⟩
end JY
/-- a maker's contract -/
def jD (E : jE) (N : jm) (k : Nat) (av : List Value) (b : Nat) (H0 : Heap) (m z : Nat) (xs : jxs) (m' z' : Nat) (P : Heap → Prop) : Prop :=
  m ≤ m' ∧ z ≤ z' ∧ ∀ d : Nat, k ≤ d → Met E.1 N.2.1 (.code N.2.1 N.2.2.1 N.2.2.2.1 N.2.2.2.2.1 :: jtbl) { frames := d, cells := m' - m, slots := z' - z, locals := 40 * d }
      (va_Pc av (fun U => jraw E b H0 m xs U.heap ∧ jK E U ∧ N.2.2.2.2.2 E.2.2.2 U)) (fun _ st o t => o = .returned none ∧ P t.heap ∧ va_F (fun q : Nat => E.2.2.2 ≤ q) st t) (m' - m) (z' - z) (fun q : Nat => E.2.2.2 ≤ q)
theorem jD_of {E : jE} {N : jm} {k b m z m' z' : Nat} {av : List Value} {ls : List (Nat × Value)} {H0 : Heap} {xs : jxs} {P : Heap → Prop} (hy : plainName N.2.1.cls = true) (hown : N.2.1.cls = N.1) (hnm : N.2.1.name = "<init>") (hret : N.2.2.2.2.1 = none) (hlen : (lg_sl av).length ≤ N.2.2.2.1) (hls : lv_args 0 av = ls)
    (Y : jY E N k 0 ls [] b H0 m z xs m' z' P) : jD E N k av b H0 m z xs m' z' P := by
  obtain ⟨c1, c2, a4⟩ := Y
  refine ⟨c1, c2, fun d hd => ?_⟩
  refine Met.ofW (cc := N.2.2.1) (maxL := N.2.2.2.1) (ret := N.2.2.2.2.1) hy rfl ?_
  intro p e s m0 args below meth c s₁ B hml hv
  obtain ⟨rfl, hRel, hK, hZ⟩ := hv
  have hts := atoms_spec (ws := .code N.2.1 N.2.2.1 N.2.2.2.1 N.2.2.2.2.1 :: jtbl) B.pre
  have hfc : s.vm.findClass N.1 = some m0.cls := by rw [← hown]; exact findClass_of_methodNamed B.named
  have hin : meth.name = "<init>" := (name_of_methodNamed B.named B.method).1.trans hnm
  have hr := B.returns
  have hb := B.bytes
  have hx := B.exec
  have hlocks := B.notSynchronized
  have hl := lv_entry av (n := N.2.2.2.1) hlen
  rw [hls] at hl
  rw [lg_entry_eq]
  have hB : E.2.2.2 ≤ s.heap.size := by rw [hRel.1]; exact Nat.le_add_right _ _
  refine a4 p e _ s m0 _ below meth c s.heap [] 0 0 _ _ ⟨hx, hb, hml, hfc, fun w hw => hts w (List.mem_cons_of_mem _ hw), hK, hB, hZ⟩ hin hRel va_S.rf hl hd (Nat.mul_le_mul_left 40 hd) (by rw [Nat.zero_add]; exact Nat.le_refl _) (by rw [Nat.zero_add]; exact Nat.le_refl _) ?_
  intro H1 locs1 pc1 lsA1 hret1 hR1 hS1
  rw [Nat.zero_add, Nat.zero_add]
  exact W.vret hx hb (by rw [hr]; exact hret) (fun t ht _ => ⟨rfl, by rw [ht]; exact hR1, hS1.F ht⟩) hS1.2.2 hret1
def jMi (N : jm) (n : Nat) : Prop := jMw N n ∧ Cond.instanceMethod N.2.1 ∈ jtbl ∧ N.2.1.name = "<init>" ∧ N.2.2.2.2.1 = none
theorem jMi_mk {N : jm} {n : Nat} (ps : List Nat) (h : [Cond.code N.2.1 N.2.2.1 N.2.2.2.1 N.2.2.2.2.1, Cond.initialized N.2.1.cls, Cond.instanceMethod N.2.1] = ps.filterMap (fun i => lw_tbl[i]?)) (g : [Cond.code N.2.1 N.2.2.1 N.2.2.2.1 N.2.2.2.2.1, Cond.initialized N.2.1.cls, Cond.instanceMethod N.2.1].all goodWord = true) (hd : N.2.1.cls ≠ "java/lang/invoke/MethodHandle" ∧ N.2.1.cls ≠ "java/lang/invoke/VarHandle" ∧ (parseMethodDescriptor N.2.1.desc).map (fun d => d.parameters.length) = some n) (hL : N.2.2.2.1 ≤ 21) (hn : N.2.1.name = "<init>") (hr : N.2.2.2.2.1 = none) : jMi N n := by
  have z := jts ps h g
  exact ⟨⟨z _ (by simp), z _ (by simp), hd, hL⟩, z _ (by simp), hn, hr⟩
/-- a maker is called -/
theorem jy_ctor {E : jE} {M N : jm} {k k' pc b m z m1 z1 m' z' idx n a : Nat} {ls : List (Nat × Value)} {rest st As : List Value} {H0 : Heap} {xs xs1 : jxs} {P : Heap → Prop} (d : decode M.2.2.1 pc = .ok (.invokespecial idx, 3)) (hlk : Cond.methodLink M.1 idx N.2.1 ∈ jtbl) (hN : jMi N n) (hD : jD E N k' (.ref (E.2.2.2 + a) :: As) b H0 m z xs m1 z1 (jraw E b H0 m1 xs1))
    (hst : st = As.reverse ++ .ref (E.2.2.2 + a) :: rest) (hn : As.length = n) (hk : k' + 1 ≤ k) (hcat : (rest.map fun v => v.category).sum ≤ 8) (kk : jY E M k (pc + 3) ls rest b H0 m1 z1 xs1 m' z' P) (hZ : jZi E M N := by exact ⟨fun _ _ _ _ _ _ => trivial, fun _ _ _ _ _ => trivial⟩) : jY E M k pc ls st b H0 m z xs m' z' P := by
  obtain ⟨c1, c2, hM⟩ := hD
  obtain ⟨c3, c4, a4⟩ := kk
  refine ⟨by omega, by omega, fun p e R s mm args below meth c H locs cells slots lsA Q b1 b2 b3 b4 b5 b6 b7 b8 b9 b10 => ?_⟩
  obtain ⟨⟨hcode, hini, hd, hL⟩, hin, hnm, hret⟩ := hN
  obtain ⟨hx, hb, hml, hown, hts, hK, hBs, hZs⟩ := id b1
  have run := va_runI (H := H) (locs := locs) (cells := cells) (slots := slots) (As := As) (rest := rest) (g := F0 mm pc lsA st) (e := e) (below := below) (meth := meth) ⟨hx, hb, hml, hown, hts⟩ (hM k' (Nat.le_refl _)) (cwI n hts (jgood (fun w hw => by
      rcases List.mem_cons.mp hw with rfl | g
      · exact hcode
      · exact g)) (by rw [hret]) rfl rfl (hts _ hini) (hts _ hlk) (hts _ hin) hnm hd ⟨by show k' + 1 ≤ R.frames; omega, by show 8 + (N.2.2.2.1 + 11) + 40 * k' ≤ R.locals; omega⟩)
    ⟨fun a U g mk q => by
      obtain ⟨q0, q1, q2, q3⟩ := q
      exact ⟨q0, q1, jK.moved (u := U) (U := U.calling g mk a) (Vm.Alike.refl U.vm) q2, hZ.2 U g mk a q3⟩,
     fun U hU hW => ⟨rfl, by rw [hU]; exact b3, jK.moved hW.alike hK, hZ.1 s U hZs hW (fun q z1 z2 => by rw [hU]; exact b4.2.1 q z1 z2) hBs⟩⟩ rfl hn b5.1 hst (lv_room hcat) d ⟨by omega, by omega⟩
  intro T hT X
  obtain ⟨v, st₀, t, T', L, h0, X', hL', e1, e2, ⟨hv, hR1, hz, hkp⟩, go⟩ := run T hT X
  have hv' : v = none := by cases hv; rfl
  subst hv'
  rw [h0] at hz hkp
  have hS1 : jS E s T'.heap (locs ++ L) := by
    refine ⟨Nat.le_trans b4.1 (by rw [e1]; exact hz), fun q g1 g2 => ?_, fun q hq => ?_⟩
    · rw [e1, hkp q (Nat.lt_of_lt_of_le g1 b4.1) g2]
      exact b4.2.1 q g1 g2
    · rcases List.mem_append.mp hq with g | g
      · exact b4.2.2 q g
      · exact hL' q g
  have ec : cells + (m1 - m) + (m' - m1) = cells + (m' - m) := by omega
  have es : slots + (z1 - z) + (z' - z1) = slots + (z' - z) := by omega
  obtain ⟨t2, g1, g2⟩ := a4 p e R s mm args below meth c T'.heap (locs ++ L) (cells + (m1 - m)) (slots + (z1 - z)) lsA Q b1 b2 (by rw [e1]; exact hR1) hS1 b5 b6 b7 (by omega) (by omega)
    (fun H2 locs2 pc2 lsA2 d1 d2 d3 => by rw [ec, es]; exact b10 H2 locs2 pc2 lsA2 d1 d2 d3) T' rfl X'
  exact ⟨t2, go t2 g1, g2⟩
