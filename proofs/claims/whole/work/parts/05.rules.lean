/-! one rule an instruction -/
def jlook (ls : List (Nat × Value)) (i : Nat) : Option Value := (ls.find? (fun q => q.1 == i)).map (fun q => q.2)
theorem jlook_mem {ls : List (Nat × Value)} {i : Nat} {v : Value} (h : jlook ls i = some v) : (i, v) ∈ ls := by
  unfold jlook at h
  cases hf : ls.find? (fun q => q.1 == i) with
  | none => rw [hf] at h; cases h
  | some q =>
    rw [hf] at h
    have h1 := List.find?_some hf
    have h2 := List.mem_of_find?_eq_some hf
    obtain ⟨a, b⟩ := q
    have e1 : a = i := by simpa using h1
    have e2 : b = v := by simpa using h
    subst e1; subst e2
    exact h2
def jins : List (Nat × Value) → Nat → Value → List (Nat × Value)
  | [], i, v => [(i, v)]
  | q :: l, i, v => if i < q.1 then (i, v) :: q :: l else q :: jins l i v
theorem jins_mem {l : List (Nat × Value)} {i : Nat} {v : Value} {q : Nat × Value} (h : q ∈ jins l i v) : q = (i, v) ∨ q ∈ l := by
  induction l with
  | nil => exact Or.inl (List.mem_singleton.mp h)
  | cons a l ih =>
    unfold jins at h
    split at h
    · rcases List.mem_cons.mp h with h | h
      · exact Or.inl h
      · exact Or.inr h
    · rcases List.mem_cons.mp h with h | h
      · exact Or.inr (h ▸ List.mem_cons_self)
      · rcases ih h with h | h
        · exact Or.inl h
        · exact Or.inr (List.mem_cons_of_mem _ h)
def jput (l : List (Nat × Value)) (i : Nat) (v : Value) : List (Nat × Value) := jins (l.filter (fun q => !(q.1 == i) && !(q.1 + 1 == i && q.2.category == 2))) i v
def jput2 (l : List (Nat × Value)) (i : Nat) (v : Value) : List (Nat × Value) := jins (l.filter (fun q => !(q.1 == i) && (!(q.1 == i + 1) && !(q.1 + 1 == i && q.2.category == 2)))) i v
theorem lv_jins {ls : Array Slot} {n : Nat} {l : List (Nat × Value)} {i : Nat} {v : Value} (h : lv_has ls n ((i, v) :: l)) : lv_has ls n (jins l i v) :=
  ⟨h.1, h.2.1, fun q hq => h.2.2 q (by rcases jins_mem hq with e | e; exact e ▸ List.mem_cons_self; exact List.mem_cons_of_mem _ e)⟩
section JX
variable {E : jE} {M : jm} {k pc : Nat} {ls : List (Nat × Value)} {rest : List Value} {w w' : jw} {r : Option Value}

theorem jx_iload_n {i : Fin 4} {x : Int32} (d : decode M.2.2.1 pc = .ok (.iload_n i, 1)) (hv : jlook ls i = some (.int x)) (kk : jX E M k (pc + 1) ls (.int x :: rest) w r w') : jX E M k pc ls (rest) w r w' :=
  jX_go (fun h p e R s m args below meth c H locs cells slots lsA Q C hR hl kw => lv_iload_n C.1 C.2.1 d rfl (hl.2.2 (_, _) (jlook_mem hv)) (kw _ hl)) kk
theorem jx_iload {i : Nat} {x : Int32} (d : decode M.2.2.1 pc = .ok (.iload i, 2)) (hv : jlook ls i = some (.int x)) (kk : jX E M k (pc + 2) ls (.int x :: rest) w r w') : jX E M k pc ls (rest) w r w' :=
  jX_go (fun h p e R s m args below meth c H locs cells slots lsA Q C hR hl kw => lv_iload C.1 C.2.1 d (hl.2.2 (_, _) (jlook_mem hv)) (kw _ hl)) kk
theorem jx_lload_n {i : Fin 4} {x : Int64} (d : decode M.2.2.1 pc = .ok (.lload_n i, 1)) (hv : jlook ls i = some (.long x)) (kk : jX E M k (pc + 1) ls (.long x :: rest) w r w') : jX E M k pc ls (rest) w r w' :=
  jX_go (fun h p e R s m args below meth c H locs cells slots lsA Q C hR hl kw => lv_lload_n C.1 C.2.1 d rfl (hl.2.2 (_, _) (jlook_mem hv)) (kw _ hl)) kk
theorem jx_lload {i : Nat} {x : Int64} (d : decode M.2.2.1 pc = .ok (.lload i, 2)) (hv : jlook ls i = some (.long x)) (kk : jX E M k (pc + 2) ls (.long x :: rest) w r w') : jX E M k pc ls (rest) w r w' :=
  jX_go (fun h p e R s m args below meth c H locs cells slots lsA Q C hR hl kw => lv_lload C.1 C.2.1 d (hl.2.2 (_, _) (jlook_mem hv)) (kw _ hl)) kk
theorem jx_aload_n {i : Fin 4} {x : Nat} (d : decode M.2.2.1 pc = .ok (.aload_n i, 1)) (hv : jlook ls i = some (.ref x)) (kk : jX E M k (pc + 1) ls (.ref x :: rest) w r w') : jX E M k pc ls (rest) w r w' :=
  jX_go (fun h p e R s m args below meth c H locs cells slots lsA Q C hR hl kw => lv_aload_n C.1 C.2.1 d rfl (hl.2.2 (_, _) (jlook_mem hv)) (kw _ hl)) kk
theorem jx_aload {i : Nat} {x : Nat} (d : decode M.2.2.1 pc = .ok (.aload i, 2)) (hv : jlook ls i = some (.ref x)) (kk : jX E M k (pc + 2) ls (.ref x :: rest) w r w') : jX E M k pc ls (rest) w r w' :=
  jX_go (fun h p e R s m args below meth c H locs cells slots lsA Q C hR hl kw => lv_aload C.1 C.2.1 d (hl.2.2 (_, _) (jlook_mem hv)) (kw _ hl)) kk
theorem jx_istore_n {i : Fin 4} {x : Int32} {ls' : List (Nat × Value)} (d : decode M.2.2.1 pc = .ok (.istore_n i, 1)) (hn : (i : Nat) < M.2.2.2.1) (hp : jput ls i (.int x) = ls') (kk : jX E M k (pc + 1) ls' (rest) w r w') : jX E M k pc ls (.int x :: rest) w r w' :=
  jX_go (fun h p e R s m args below meth c H locs cells slots lsA Q C hR hl kw => lv_istore_n C.1 C.2.1 d rfl hl hn rfl (fun lsB hB => kw lsB (hp ▸ lv_jins hB))) kk
theorem jx_istore {i : Nat} {x : Int32} {ls' : List (Nat × Value)} (d : decode M.2.2.1 pc = .ok (.istore i, 2)) (hn : i < M.2.2.2.1) (hp : jput ls i (.int x) = ls') (kk : jX E M k (pc + 2) ls' (rest) w r w') : jX E M k pc ls (.int x :: rest) w r w' :=
  jX_go (fun h p e R s m args below meth c H locs cells slots lsA Q C hR hl kw => lv_istore C.1 C.2.1 d hl hn rfl (fun lsB hB => kw lsB (hp ▸ lv_jins hB))) kk
theorem jx_astore_n {i : Fin 4} {x : Nat} {ls' : List (Nat × Value)} (d : decode M.2.2.1 pc = .ok (.astore_n i, 1)) (hn : (i : Nat) < M.2.2.2.1) (hp : jput ls i (.ref x) = ls') (kk : jX E M k (pc + 1) ls' (rest) w r w') : jX E M k pc ls (.ref x :: rest) w r w' :=
  jX_go (fun h p e R s m args below meth c H locs cells slots lsA Q C hR hl kw => lv_astore_n C.1 C.2.1 d rfl hl hn rfl (fun lsB hB => kw lsB (hp ▸ lv_jins hB))) kk
theorem jx_astore {i : Nat} {x : Nat} {ls' : List (Nat × Value)} (d : decode M.2.2.1 pc = .ok (.astore i, 2)) (hn : i < M.2.2.2.1) (hp : jput ls i (.ref x) = ls') (kk : jX E M k (pc + 2) ls' (rest) w r w') : jX E M k pc ls (.ref x :: rest) w r w' :=
  jX_go (fun h p e R s m args below meth c H locs cells slots lsA Q C hR hl kw => lv_astore C.1 C.2.1 d hl hn rfl (fun lsB hB => kw lsB (hp ▸ lv_jins hB))) kk
theorem jx_lstore {i : Nat} {x : Int64} {ls' : List (Nat × Value)} (d : decode M.2.2.1 pc = .ok (.lstore i, 2)) (hn : i + 1 < M.2.2.2.1) (hp : jput2 ls i (.long x) = ls') (kk : jX E M k (pc + 2) ls' (rest) w r w') : jX E M k pc ls (.long x :: rest) w r w' :=
  jX_go (fun h p e R s m args below meth c H locs cells slots lsA Q C hR hl kw => lv_lstore C.1 C.2.1 d hl hn rfl (fun lsB hB => kw lsB (hp ▸ lv_jins hB))) kk
theorem jx_iinc {i : Nat} {n : Int} {x v : Int32} {ls' : List (Nat × Value)} (d : decode M.2.2.1 pc = .ok (.iinc i n, 3)) (hv : jlook ls i = some (.int x)) (he : x + Int32.ofInt n = v) (hn : i < M.2.2.2.1) (hp : jput ls i (.int v) = ls') (kk : jX E M k (pc + 3) ls' rest w r w') : jX E M k pc ls rest w r w' :=
  jX_go (fun h p e R s m args below meth c H locs cells slots lsA Q C hR hl kw => by
    obtain ⟨a, ha⟩ := List.getElem?_of_mem (jlook_mem hv)
    exact lv_iinc C.1 C.2.1 d hl ha he hn rfl (fun lsB hB => kw lsB (hp ▸ lv_jins hB))) kk
theorem jx_iconst {n : Int} {v : Int32} (d : decode M.2.2.1 pc = .ok (.iconst n, 1)) (hv : Int32.ofInt n = v) (kk : jX E M k (pc + 1) ls (.int v :: rest) w r w') : jX E M k pc ls (rest) w r w' :=
  jX_go (fun h p e R s m args below meth c H locs cells slots lsA Q C hR hl kw => lv_iconst C.1 C.2.1 d hv (kw _ hl)) kk
theorem jx_bipush {n : Int} {v : Int32} (d : decode M.2.2.1 pc = .ok (.bipush n, 2)) (hv : (Int8.ofInt n).toInt32 = v) (kk : jX E M k (pc + 2) ls (.int v :: rest) w r w') : jX E M k pc ls (rest) w r w' :=
  jX_go (fun h p e R s m args below meth c H locs cells slots lsA Q C hR hl kw => lv_bipush C.1 C.2.1 d hv (kw _ hl)) kk
theorem jx_sipush {n : Int} {v : Int32} (d : decode M.2.2.1 pc = .ok (.sipush n, 3)) (hv : (Int16.ofInt n).toInt32 = v) (kk : jX E M k (pc + 3) ls (.int v :: rest) w r w') : jX E M k pc ls (rest) w r w' :=
  jX_go (fun h p e R s m args below meth c H locs cells slots lsA Q C hR hl kw => lv_sipush C.1 C.2.1 d hv (kw _ hl)) kk
theorem jx_lconst {n : Fin 2} {v : Int64} (d : decode M.2.2.1 pc = .ok (.lconst n, 1)) (hv : Int64.ofNat (n : Nat) = v) (kk : jX E M k (pc + 1) ls (.long v :: rest) w r w') : jX E M k pc ls (rest) w r w' :=
  jX_go (fun h p e R s m args below meth c H locs cells slots lsA Q C hR hl kw => lv_lconst C.1 C.2.1 d hv (kw _ hl)) kk
theorem jx_ldc {i : Nat} {v : Int32} (d : decode M.2.2.1 pc = .ok (.ldc i, 2)) (hv : Cond.constant M.1 i v ∈ jtbl) (kk : jX E M k (pc + 2) ls (.int v :: rest) w r w') : jX E M k pc ls (rest) w r w' :=
  jX_go (fun h p e R s m args below meth c H locs cells slots lsA Q C hR hl kw => lv_ldc C.1 C.2.1 C.2.2.2.1 (C.2.2.2.2.1 _ hv) d (kw _ hl)) kk
theorem jx_ldc2 {i : Nat} {v : Int64} (d : decode M.2.2.1 pc = .ok (.ldc2_w i, 3)) (hv : Cond.constantLong M.1 i v ∈ jtbl) (kk : jX E M k (pc + 3) ls (.long v :: rest) w r w') : jX E M k pc ls (rest) w r w' :=
  jX_go (fun h p e R s m args below meth c H locs cells slots lsA Q C hR hl kw => lv_ldc2 C.1 C.2.1 C.2.2.2.1 (C.2.2.2.2.1 _ hv) d (kw _ hl)) kk
theorem jx_iadd {x y : Int32} (d : decode M.2.2.1 pc = .ok (.iadd, 1)) (kk : jX E M k (pc + 1) ls (.int (x + y) :: rest) w r w') : jX E M k pc ls (.int y :: .int x :: rest) w r w' :=
  jX_go (fun h p e R s m args below meth c H locs cells slots lsA Q C hR hl kw => lv_iadd C.1 C.2.1 d (kw _ hl)) kk
theorem jx_isub {x y : Int32} (d : decode M.2.2.1 pc = .ok (.isub, 1)) (kk : jX E M k (pc + 1) ls (.int (x - y) :: rest) w r w') : jX E M k pc ls (.int y :: .int x :: rest) w r w' :=
  jX_go (fun h p e R s m args below meth c H locs cells slots lsA Q C hR hl kw => lv_isub C.1 C.2.1 d (kw _ hl)) kk
theorem jx_imul {x y : Int32} (d : decode M.2.2.1 pc = .ok (.imul, 1)) (kk : jX E M k (pc + 1) ls (.int (x * y) :: rest) w r w') : jX E M k pc ls (.int y :: .int x :: rest) w r w' :=
  jX_go (fun h p e R s m args below meth c H locs cells slots lsA Q C hR hl kw => lv_imul C.1 C.2.1 d (kw _ hl)) kk
theorem jx_iand {x y : Int32} (d : decode M.2.2.1 pc = .ok (.iand, 1)) (kk : jX E M k (pc + 1) ls (.int (x &&& y) :: rest) w r w') : jX E M k pc ls (.int y :: .int x :: rest) w r w' :=
  jX_go (fun h p e R s m args below meth c H locs cells slots lsA Q C hR hl kw => lv_iand C.1 C.2.1 d (kw _ hl)) kk
theorem jx_ishr {x y : Int32} (d : decode M.2.2.1 pc = .ok (.ishr, 1)) (kk : jX E M k (pc + 1) ls (.int (x >>> (y &&& 31)) :: rest) w r w') : jX E M k pc ls (.int y :: .int x :: rest) w r w' :=
  jX_go (fun h p e R s m args below meth c H locs cells slots lsA Q C hR hl kw => lv_ishr C.1 C.2.1 d (kw _ hl)) kk
theorem jx_idiv {x y : Int32} (d : decode M.2.2.1 pc = .ok (.idiv, 1)) (hy : ¬ y = 0) (kk : jX E M k (pc + 1) ls (.int (x / y) :: rest) w r w') : jX E M k pc ls (.int y :: .int x :: rest) w r w' :=
  jX_go (fun h p e R s m args below meth c H locs cells slots lsA Q C hR hl kw => lv_idiv C.1 C.2.1 d hy (kw _ hl)) kk
theorem jx_irem {x y : Int32} (d : decode M.2.2.1 pc = .ok (.irem, 1)) (hy : ¬ y = 0) (kk : jX E M k (pc + 1) ls (.int (x - x / y * y) :: rest) w r w') : jX E M k pc ls (.int y :: .int x :: rest) w r w' :=
  jX_go (fun h p e R s m args below meth c H locs cells slots lsA Q C hR hl kw => lv_irem C.1 C.2.1 d hy (kw _ hl)) kk
theorem jx_ladd {x y : Int64} (d : decode M.2.2.1 pc = .ok (.ladd, 1)) (kk : jX E M k (pc + 1) ls (.long (x + y) :: rest) w r w') : jX E M k pc ls (.long y :: .long x :: rest) w r w' :=
  jX_go (fun h p e R s m args below meth c H locs cells slots lsA Q C hR hl kw => lv_ladd C.1 C.2.1 d (kw _ hl)) kk
theorem jx_lmul {x y : Int64} (d : decode M.2.2.1 pc = .ok (.lmul, 1)) (kk : jX E M k (pc + 1) ls (.long (x * y) :: rest) w r w') : jX E M k pc ls (.long y :: .long x :: rest) w r w' :=
  jX_go (fun h p e R s m args below meth c H locs cells slots lsA Q C hR hl kw => lv_lmul C.1 C.2.1 d (kw _ hl)) kk
theorem jx_lcmp {x y : Int64} (d : decode M.2.2.1 pc = .ok (.lcmp, 1)) (kk : jX E M k (pc + 1) ls (.int (lg_cmp x y) :: rest) w r w') : jX E M k pc ls (.long y :: .long x :: rest) w r w' :=
  jX_go (fun h p e R s m args below meth c H locs cells slots lsA Q C hR hl kw => W.lcmp C.1 C.2.1 d (kw _ hl)) kk
theorem jx_iushr {x y : Int32} (d : decode M.2.2.1 pc = .ok (.iushr, 1)) (kk : jX E M k (pc + 1) ls (.int ((x.toUInt32 >>> (y.toUInt32 &&& Int32.toUInt32 31)).toInt32) :: rest) w r w') : jX E M k pc ls (.int y :: .int x :: rest) w r w' :=
  jX_go (fun h p e R s m args below meth c H locs cells slots lsA Q C hR hl kw => lv_iushr C.1 C.2.1 d rfl (kw _ hl)) kk
theorem jx_i2l {x : Int32} (d : decode M.2.2.1 pc = .ok (.i2l, 1)) (kk : jX E M k (pc + 1) ls (.long x.toInt64 :: rest) w r w') : jX E M k pc ls (.int x :: rest) w r w' :=
  jX_go (fun h p e R s m args below meth c H locs cells slots lsA Q C hR hl kw => lv_i2l C.1 C.2.1 d rfl (kw _ hl)) kk
theorem jx_i2b {x : Int32} (d : decode M.2.2.1 pc = .ok (.i2b, 1)) (kk : jX E M k (pc + 1) ls (.int x.toInt8.toInt32 :: rest) w r w') : jX E M k pc ls (.int x :: rest) w r w' :=
  jX_go (fun h p e R s m args below meth c H locs cells slots lsA Q C hR hl kw => lv_i2b C.1 C.2.1 d rfl (kw _ hl)) kk
theorem jx_i2c {x : Int32} (d : decode M.2.2.1 pc = .ok (.i2c, 1)) (kk : jX E M k (pc + 1) ls (.int (x.toUInt32 % 65536).toInt32 :: rest) w r w') : jX E M k pc ls (.int x :: rest) w r w' :=
  jX_go (fun h p e R s m args below meth c H locs cells slots lsA Q C hR hl kw => lv_i2c C.1 C.2.1 d rfl (kw _ hl)) kk
theorem jx_dup {v : Value} (d : decode M.2.2.1 pc = .ok (.dup, 1)) (hc : v.category = 1) (kk : jX E M k (pc + 1) ls (v :: v :: rest) w r w') : jX E M k pc ls (v :: rest) w r w' :=
  jX_go (fun h p e R s m args below meth c H locs cells slots lsA Q C hR hl kw => lv_dup C.1 C.2.1 d hc (kw _ hl)) kk
theorem jx_pop {v : Value} (d : decode M.2.2.1 pc = .ok (.pop, 1)) (hc : v.category = 1) (kk : jX E M k (pc + 1) ls (rest) w r w') : jX E M k pc ls (v :: rest) w r w' :=
  jX_go (fun h p e R s m args below meth c H locs cells slots lsA Q C hR hl kw => lv_pop C.1 C.2.1 d hc (kw _ hl)) kk
theorem jx_dup2 {v u : Value} (d : decode M.2.2.1 pc = .ok (.dup2, 1)) (hc : v.category = 1) (hu : u.category = 1) (kk : jX E M k (pc + 1) ls (v :: u :: v :: u :: rest) w r w') : jX E M k pc ls (v :: u :: rest) w r w' :=
  jX_go (fun h p e R s m args below meth c H locs cells slots lsA Q C hR hl kw => lv_dup2_11 C.1 C.2.1 d hc hu (kw _ hl)) kk
theorem jx_goto {off : Int} {tgt : Nat} (d : decode M.2.2.1 pc = .ok (.goto off, 3)) (ht : (pc : Int) + off = (tgt : Int)) (kk : jX E M k (tgt) ls (rest) w r w') : jX E M k pc ls (rest) w r w' :=
  jX_go (fun h p e R s m args below meth c H locs cells slots lsA Q C hR hl kw => lv_goto C.1 C.2.1 d ht (kw _ hl)) kk
theorem jx_ifnull {x : Nat} {off : Int} (d : decode M.2.2.1 pc = .ok (.ifnull off, 3)) (kk : jX E M k (pc + 3) ls (rest) w r w') : jX E M k pc ls (.ref x :: rest) w r w' :=
  jX_go (fun h p e R s m args below meth c H locs cells slots lsA Q C hR hl kw => lv_ifnull C.1 C.2.1 d (kw _ hl)) kk
theorem jx_if_eq {off : Int} {tgt : Nat} {x : Int32} (d : decode M.2.2.1 pc = .ok (.ifCond .eq off, 3)) (ht : (pc : Int) + off = (tgt : Int)) (kt : x = 0 → jX E M k tgt ls rest w r w') (kf : ¬ x = 0 → jX E M k (pc + 3) ls rest w r w') : jX E M k pc ls (.int x :: rest) w r w' := by
  by_cases q : x = 0
  · exact jX_go (fun h p e R s m args below meth c H locs cells slots lsA Q C hR hl kw => lv_if_eq C.1 C.2.1 d ht (fun z => by first | exact kw _ hl | exact absurd q z) (fun z => by first | exact absurd q z | exact kw _ hl)) (kt q)
  · exact jX_go (fun h p e R s m args below meth c H locs cells slots lsA Q C hR hl kw => lv_if_eq C.1 C.2.1 d ht (fun z => by first | exact absurd z q | exact kw _ hl) (fun z => by first | exact kw _ hl | exact absurd z q)) (kf q)
theorem jx_icmp_eq {off : Int} {tgt : Nat} {x y : Int32} (d : decode M.2.2.1 pc = .ok (.if_icmp .eq off, 3)) (ht : (pc : Int) + off = (tgt : Int)) (kt : x = y → jX E M k tgt ls rest w r w') (kf : ¬ x = y → jX E M k (pc + 3) ls rest w r w') : jX E M k pc ls (.int y :: .int x :: rest) w r w' := by
  by_cases q : x = y
  · exact jX_go (fun h p e R s m args below meth c H locs cells slots lsA Q C hR hl kw => lv_icmp_eq C.1 C.2.1 d ht (fun z => by first | exact kw _ hl | exact absurd q z) (fun z => by first | exact absurd q z | exact kw _ hl)) (kt q)
  · exact jX_go (fun h p e R s m args below meth c H locs cells slots lsA Q C hR hl kw => lv_icmp_eq C.1 C.2.1 d ht (fun z => by first | exact absurd z q | exact kw _ hl) (fun z => by first | exact kw _ hl | exact absurd z q)) (kf q)
theorem jx_if_ne {off : Int} {tgt : Nat} {x : Int32} (d : decode M.2.2.1 pc = .ok (.ifCond .ne off, 3)) (ht : (pc : Int) + off = (tgt : Int)) (kt : ¬ x = 0 → jX E M k tgt ls rest w r w') (kf : x = 0 → jX E M k (pc + 3) ls rest w r w') : jX E M k pc ls (.int x :: rest) w r w' := by
  by_cases q : x = 0
  · exact jX_go (fun h p e R s m args below meth c H locs cells slots lsA Q C hR hl kw => lv_if_ne C.1 C.2.1 d ht (fun z => by first | exact kw _ hl | exact absurd q z) (fun z => by first | exact absurd q z | exact kw _ hl)) (kf q)
  · exact jX_go (fun h p e R s m args below meth c H locs cells slots lsA Q C hR hl kw => lv_if_ne C.1 C.2.1 d ht (fun z => by first | exact absurd z q | exact kw _ hl) (fun z => by first | exact kw _ hl | exact absurd z q)) (kt q)
theorem jx_icmp_ne {off : Int} {tgt : Nat} {x y : Int32} (d : decode M.2.2.1 pc = .ok (.if_icmp .ne off, 3)) (ht : (pc : Int) + off = (tgt : Int)) (kt : ¬ x = y → jX E M k tgt ls rest w r w') (kf : x = y → jX E M k (pc + 3) ls rest w r w') : jX E M k pc ls (.int y :: .int x :: rest) w r w' := by
  by_cases q : x = y
  · exact jX_go (fun h p e R s m args below meth c H locs cells slots lsA Q C hR hl kw => lv_icmp_ne C.1 C.2.1 d ht (fun z => by first | exact kw _ hl | exact absurd q z) (fun z => by first | exact absurd q z | exact kw _ hl)) (kf q)
  · exact jX_go (fun h p e R s m args below meth c H locs cells slots lsA Q C hR hl kw => lv_icmp_ne C.1 C.2.1 d ht (fun z => by first | exact absurd z q | exact kw _ hl) (fun z => by first | exact kw _ hl | exact absurd z q)) (kt q)
theorem jx_if_lt {off : Int} {tgt : Nat} {x : Int32} (d : decode M.2.2.1 pc = .ok (.ifCond .lt off, 3)) (ht : (pc : Int) + off = (tgt : Int)) (kt : x < 0 → jX E M k tgt ls rest w r w') (kf : ¬ x < 0 → jX E M k (pc + 3) ls rest w r w') : jX E M k pc ls (.int x :: rest) w r w' := by
  by_cases q : x < 0
  · exact jX_go (fun h p e R s m args below meth c H locs cells slots lsA Q C hR hl kw => lv_if_lt C.1 C.2.1 d ht (fun z => by first | exact kw _ hl | exact absurd q z) (fun z => by first | exact absurd q z | exact kw _ hl)) (kt q)
  · exact jX_go (fun h p e R s m args below meth c H locs cells slots lsA Q C hR hl kw => lv_if_lt C.1 C.2.1 d ht (fun z => by first | exact absurd z q | exact kw _ hl) (fun z => by first | exact kw _ hl | exact absurd z q)) (kf q)
theorem jx_icmp_lt {off : Int} {tgt : Nat} {x y : Int32} (d : decode M.2.2.1 pc = .ok (.if_icmp .lt off, 3)) (ht : (pc : Int) + off = (tgt : Int)) (kt : x < y → jX E M k tgt ls rest w r w') (kf : ¬ x < y → jX E M k (pc + 3) ls rest w r w') : jX E M k pc ls (.int y :: .int x :: rest) w r w' := by
  by_cases q : x < y
  · exact jX_go (fun h p e R s m args below meth c H locs cells slots lsA Q C hR hl kw => lv_icmp_lt C.1 C.2.1 d ht (fun z => by first | exact kw _ hl | exact absurd q z) (fun z => by first | exact absurd q z | exact kw _ hl)) (kt q)
  · exact jX_go (fun h p e R s m args below meth c H locs cells slots lsA Q C hR hl kw => lv_icmp_lt C.1 C.2.1 d ht (fun z => by first | exact absurd z q | exact kw _ hl) (fun z => by first | exact kw _ hl | exact absurd z q)) (kf q)
theorem jx_if_ge {off : Int} {tgt : Nat} {x : Int32} (d : decode M.2.2.1 pc = .ok (.ifCond .ge off, 3)) (ht : (pc : Int) + off = (tgt : Int)) (kt : 0 ≤ x → jX E M k tgt ls rest w r w') (kf : ¬ 0 ≤ x → jX E M k (pc + 3) ls rest w r w') : jX E M k pc ls (.int x :: rest) w r w' := by
  by_cases q : 0 ≤ x
  · exact jX_go (fun h p e R s m args below meth c H locs cells slots lsA Q C hR hl kw => lv_if_ge C.1 C.2.1 d ht (fun z => by first | exact kw _ hl | exact absurd q z) (fun z => by first | exact absurd q z | exact kw _ hl)) (kt q)
  · exact jX_go (fun h p e R s m args below meth c H locs cells slots lsA Q C hR hl kw => lv_if_ge C.1 C.2.1 d ht (fun z => by first | exact absurd z q | exact kw _ hl) (fun z => by first | exact kw _ hl | exact absurd z q)) (kf q)
theorem jx_icmp_ge {off : Int} {tgt : Nat} {x y : Int32} (d : decode M.2.2.1 pc = .ok (.if_icmp .ge off, 3)) (ht : (pc : Int) + off = (tgt : Int)) (kt : y ≤ x → jX E M k tgt ls rest w r w') (kf : ¬ y ≤ x → jX E M k (pc + 3) ls rest w r w') : jX E M k pc ls (.int y :: .int x :: rest) w r w' := by
  by_cases q : y ≤ x
  · exact jX_go (fun h p e R s m args below meth c H locs cells slots lsA Q C hR hl kw => lv_icmp_ge C.1 C.2.1 d ht (fun z => by first | exact kw _ hl | exact absurd q z) (fun z => by first | exact absurd q z | exact kw _ hl)) (kt q)
  · exact jX_go (fun h p e R s m args below meth c H locs cells slots lsA Q C hR hl kw => lv_icmp_ge C.1 C.2.1 d ht (fun z => by first | exact absurd z q | exact kw _ hl) (fun z => by first | exact kw _ hl | exact absurd z q)) (kf q)
theorem jx_if_gt {off : Int} {tgt : Nat} {x : Int32} (d : decode M.2.2.1 pc = .ok (.ifCond .gt off, 3)) (ht : (pc : Int) + off = (tgt : Int)) (kt : 0 < x → jX E M k tgt ls rest w r w') (kf : ¬ 0 < x → jX E M k (pc + 3) ls rest w r w') : jX E M k pc ls (.int x :: rest) w r w' := by
  by_cases q : 0 < x
  · exact jX_go (fun h p e R s m args below meth c H locs cells slots lsA Q C hR hl kw => lv_if_gt C.1 C.2.1 d ht (fun z => by first | exact kw _ hl | exact absurd q z) (fun z => by first | exact absurd q z | exact kw _ hl)) (kt q)
  · exact jX_go (fun h p e R s m args below meth c H locs cells slots lsA Q C hR hl kw => lv_if_gt C.1 C.2.1 d ht (fun z => by first | exact absurd z q | exact kw _ hl) (fun z => by first | exact kw _ hl | exact absurd z q)) (kf q)
theorem jx_icmp_gt {off : Int} {tgt : Nat} {x y : Int32} (d : decode M.2.2.1 pc = .ok (.if_icmp .gt off, 3)) (ht : (pc : Int) + off = (tgt : Int)) (kt : y < x → jX E M k tgt ls rest w r w') (kf : ¬ y < x → jX E M k (pc + 3) ls rest w r w') : jX E M k pc ls (.int y :: .int x :: rest) w r w' := by
  by_cases q : y < x
  · exact jX_go (fun h p e R s m args below meth c H locs cells slots lsA Q C hR hl kw => lv_icmp_gt C.1 C.2.1 d ht (fun z => by first | exact kw _ hl | exact absurd q z) (fun z => by first | exact absurd q z | exact kw _ hl)) (kt q)
  · exact jX_go (fun h p e R s m args below meth c H locs cells slots lsA Q C hR hl kw => lv_icmp_gt C.1 C.2.1 d ht (fun z => by first | exact absurd z q | exact kw _ hl) (fun z => by first | exact kw _ hl | exact absurd z q)) (kf q)
theorem jx_if_le {off : Int} {tgt : Nat} {x : Int32} (d : decode M.2.2.1 pc = .ok (.ifCond .le off, 3)) (ht : (pc : Int) + off = (tgt : Int)) (kt : x ≤ 0 → jX E M k tgt ls rest w r w') (kf : ¬ x ≤ 0 → jX E M k (pc + 3) ls rest w r w') : jX E M k pc ls (.int x :: rest) w r w' := by
  by_cases q : x ≤ 0
  · exact jX_go (fun h p e R s m args below meth c H locs cells slots lsA Q C hR hl kw => lv_if_le C.1 C.2.1 d ht (fun z => by first | exact kw _ hl | exact absurd q z) (fun z => by first | exact absurd q z | exact kw _ hl)) (kt q)
  · exact jX_go (fun h p e R s m args below meth c H locs cells slots lsA Q C hR hl kw => lv_if_le C.1 C.2.1 d ht (fun z => by first | exact absurd z q | exact kw _ hl) (fun z => by first | exact kw _ hl | exact absurd z q)) (kf q)
theorem jx_icmp_le {off : Int} {tgt : Nat} {x y : Int32} (d : decode M.2.2.1 pc = .ok (.if_icmp .le off, 3)) (ht : (pc : Int) + off = (tgt : Int)) (kt : x ≤ y → jX E M k tgt ls rest w r w') (kf : ¬ x ≤ y → jX E M k (pc + 3) ls rest w r w') : jX E M k pc ls (.int y :: .int x :: rest) w r w' := by
  by_cases q : x ≤ y
  · exact jX_go (fun h p e R s m args below meth c H locs cells slots lsA Q C hR hl kw => lv_icmp_le C.1 C.2.1 d ht (fun z => by first | exact kw _ hl | exact absurd q z) (fun z => by first | exact absurd q z | exact kw _ hl)) (kt q)
  · exact jX_go (fun h p e R s m args below meth c H locs cells slots lsA Q C hR hl kw => lv_icmp_le C.1 C.2.1 d ht (fun z => by first | exact absurd z q | exact kw _ hl) (fun z => by first | exact kw _ hl | exact absurd z q)) (kf q)
theorem jx_tableOut {dflt lo hi : Int} {offs : Array Int} {len tgt : Nat} {x : Int32} (d : decode M.2.2.1 pc = .ok (.tableswitch dflt lo hi offs, len)) (hx : x.toInt < lo ∨ hi < x.toInt) (ht : (pc : Int) + dflt = (tgt : Int)) (kk : jX E M k (tgt) ls (rest) w r w') : jX E M k pc ls (.int x :: rest) w r w' :=
  jX_go (fun h p e R s m args below meth c H locs cells slots lsA Q C hR hl kw => lv_tableOut C.1 C.2.1 d hx ht (kw _ hl)) kk
theorem jx_tableIn {dflt lo hi : Int} {offs : Array Int} {len tgt : Nat} {off : Int} {x : Int32} (d : decode M.2.2.1 pc = .ok (.tableswitch dflt lo hi offs, len)) (h1 : ¬ x.toInt < lo) (h2 : ¬ hi < x.toInt) (ho : offs[(x.toInt - lo).toNat]? = some off) (ht : (pc : Int) + off = (tgt : Int)) (kk : jX E M k (tgt) ls (rest) w r w') : jX E M k pc ls (.int x :: rest) w r w' :=
  jX_go (fun h p e R s m args below meth c H locs cells slots lsA Q C hR hl kw => lv_tableIn C.1 C.2.1 d h1 h2 ho ht (kw _ hl)) kk
/-- answers -/
theorem jx_end {v : Option Value} {st : List Value} (hd : jRet M.2.2.1 r pc st) (hw : w' = w) : jX E M k pc ls st w r w' := by
  subst hw
  intro h hO
  exact ⟨h, hO, Nat.le_refl _, Nat.le_refl _, fun p e R s m args below meth c H locs cells slots lsA Q b1 b2 b3 b4 b5 b6 b7 b8 b9 => by
    have := b9 H locs pc lsA st hd b2 b3
    rw [Nat.sub_self, Nat.sub_self] at this
    exact this⟩
theorem jx_iret {v : Int32} (d : decode M.2.2.1 pc = .ok (.ireturn, 1)) (hr : r = some (.int v)) (hw : w' = w) : jX E M k pc ls [.int v] w r w' :=
  jx_end (v := none) (by rw [hr]; exact ⟨d, rfl⟩) hw
theorem jx_lret {v : Int64} (d : decode M.2.2.1 pc = .ok (.lreturn, 1)) (hr : r = some (.long v)) (hw : w' = w) : jX E M k pc ls [.long v] w r w' :=
  jx_end (v := none) (by rw [hr]; exact ⟨d, rfl⟩) hw
theorem jx_vret (d : decode M.2.2.1 pc = .ok (.return_, 1)) (hr : r = none) (hw : w' = w) : jX E M k pc ls [] w r w' :=
  jx_end (v := none) (by rw [hr]; exact ⟨d, rfl⟩) hw
end JX
