/-! a row's new array: Arrays.copyOf, and Row.add -/
def RJ7 : String := "java/util/Arrays"
abbrev cJ7_copyOf : ByteArray := prog_22_method_123_code
def yJ7_copyOf : MethodName := ⟨RJ7, "copyOf", "([II)[I"⟩
theorem dJ7_copyOf_0 : decode cJ7_copyOf 0 = .ok (.iload_n 1, 1) := by decide +kernel
theorem dJ7_copyOf_1 : decode cJ7_copyOf 1 = .ok (.aload_n 0, 1) := by decide +kernel
theorem dJ7_copyOf_2 : decode cJ7_copyOf 2 = .ok (.arraylength, 1) := by decide +kernel
theorem dJ7_copyOf_3 : decode cJ7_copyOf 3 = .ok (.if_icmp .ne 11, 3) := by decide +kernel
theorem dJ7_copyOf_14 : decode cJ7_copyOf 14 = .ok (.iload_n 1, 1) := by decide +kernel
theorem dJ7_copyOf_15 : decode cJ7_copyOf 15 = .ok (.newarray .int, 2) := by decide +kernel
theorem dJ7_copyOf_17 : decode cJ7_copyOf 17 = .ok (.astore_n 2, 1) := by decide +kernel
theorem dJ7_copyOf_18 : decode cJ7_copyOf 18 = .ok (.aload_n 0, 1) := by decide +kernel
theorem dJ7_copyOf_19 : decode cJ7_copyOf 19 = .ok (.iconst 0, 1) := by decide +kernel
theorem dJ7_copyOf_20 : decode cJ7_copyOf 20 = .ok (.aload_n 2, 1) := by decide +kernel
theorem dJ7_copyOf_21 : decode cJ7_copyOf 21 = .ok (.iconst 0, 1) := by decide +kernel
theorem dJ7_copyOf_22 : decode cJ7_copyOf 22 = .ok (.aload_n 0, 1) := by decide +kernel
theorem dJ7_copyOf_23 : decode cJ7_copyOf 23 = .ok (.arraylength, 1) := by decide +kernel
theorem dJ7_copyOf_24 : decode cJ7_copyOf 24 = .ok (.iload_n 1, 1) := by decide +kernel
theorem dJ7_copyOf_25 : decode cJ7_copyOf 25 = .ok (.invokestatic 304, 3) := by decide +kernel
theorem dJ7_copyOf_28 : decode cJ7_copyOf 28 = .ok (.invokestatic 150, 3) := by decide +kernel
theorem dJ7_copyOf_31 : decode cJ7_copyOf 31 = .ok (.aload_n 2, 1) := by decide +kernel
theorem dJ7_copyOf_32 : decode cJ7_copyOf 32 = .ok (.areturn, 1) := by decide +kernel
theorem tw_aI : Cond.arrayClass .int ∈ jtbl := jt (n := 163) (by decide +kernel) rfl
theorem tw_mM : Cond.initialized "java/lang/Math" ∈ jtbl := jt (n := 110) (by decide +kernel) rfl
theorem tw_min : Cond.static Lib.Math.min.name ∈ jtbl := jt (n := 528) (by decide +kernel) rfl
theorem tw_minc : Cond.code Lib.Math.min.name Lib.Math.min.code 2 (some .int) ∈ jtbl := jt (n := 529) (by decide +kernel) (by decide +kernel)
theorem tw_max : Cond.static Lib.Math.max.name ∈ jtbl := jt (n := 144) (by decide +kernel) rfl
theorem tw_maxc : Cond.code Lib.Math.max.name Lib.Math.max.code 2 (some .int) ∈ jtbl := jt (n := 145) (by decide +kernel) (by decide +kernel)
theorem tw_cmin : Cond.methodLink RJ7 304 Lib.Math.min.name ∈ jtbl := jt (n := 527) (by decide +kernel) rfl
theorem tw_ccp : Cond.methodLink RJ7 150 arraycopyName ∈ jtbl := jt (n := 530) (by decide +kernel) rfl
theorem tw_cps : Cond.static arraycopyName ∈ jtbl := jt (n := 531) (by decide +kernel) rfl
theorem tw_cpn : Cond.native arraycopyName ∈ jtbl := jt (n := 532) (by decide +kernel) rfl
theorem tw_sy : Cond.initialized "java/lang/System" ∈ jtbl := jt (n := 122) (by decide +kernel) rfl
/-- System.arraycopy of the first k ints -/
theorem jW_copy {p : Program} {l : Launch} {e : Env} {R : Room} {s : State} {m : MethodId} {args : Array Value} {below : List Frame} {meth : Method} {c : Code} {H : Heap} {locs : List Loc} {cells slots : Nat} {Q : State → Prop} {cc : ByteArray} {pc : Nat} {ls : Array Slot} {rest : List Value} {a a0 index n0 n1 k : Nat} {cI : ClassId} {own : String} {f g : Nat → Int32}
    (hexec : p.tables.exec = Jvm.exec) (hb : c.code = cc) (hml : c.maxLocals = ls.size) (hown : s.vm.findClass own = some m.cls) (hlink : (Cond.methodLink own index arraycopyName).before args s = true) (hts : ∀ w ∈ jtbl, w.before args s = true)
    (hAt : ArrOfT s cI .int) (hc0 : H[a0]? = some (arrV cI n0 (fun i => .int (f i)))) (hc1 : H[a]? = some (arrV cI n1 (fun i => .int (g i)))) (hk : k < 2 ^ 31) (h4 : k ≤ n0) (h5 : k ≤ n1) (hframes : 1 ≤ R.frames) (hlocals : (rest.map fun v => v.category).sum + 18 ≤ R.locals) (hdg : decode cc pc = .ok (.invokestatic index, 3))
    (kk : ∀ (H1 : Heap) (L : List Loc), H1[a]? = some (arrV cI n1 (fun j => .int (if j < k then f j else g j))) → H1.size = H.size → (∀ q : Nat, q ≠ a → H1[q]? = H[q]?) → (∀ q ∈ L, q.base = a) → W p l e R s m args below meth c H1 (locs ++ L) cells slots Q (F0 m (pc + 3) ls rest)) : W p l e R s m args below meth c H locs cells slots Q (F0 m pc ls (.int (nI k) :: .int 0 :: .ref a :: .int 0 :: .ref a0 :: rest)) := by
  intro T hT X
  obtain ⟨-, k0, hk0, cm0, hkk0⟩ := hAt n0 (fun j => .int (f j))
  obtain ⟨-, k1, hk1, cm1, hkk1⟩ := hAt n1 (fun j => .int (g j))
  have c0 : (0 : Int32).toNatClampNeg = 0 := by decide
  have cn : (nI k).toNatClampNeg = k := nI_clamp hk
  have ci : (nI k).toInt = (k : Int) := nI_toInt hk
  have z0 : (0 : Int32).toInt = 0 := by decide
  have nf : nativeFrameWords "java/lang/System" "arraycopy" 5 = 7 := by decide +kernel
  obtain ⟨vm', X', step⟩ := X.arraycopy hexec hown hlink (hts _ tw_cpn) (hts _ tw_cps) (hts _ tw_sy) (src := a0) (dst := a) (cs := arrV cI n0 (fun i => .int (f i))) (cd := arrV cI n1 (fun i => .int (g i))) (srcPos := 0) (destPos := 0) (n := nI k) (by rw [hT]; exact hc0) (by rw [hT]; exact hc1)
    (fun _ h => by cases h) (fun _ h => by cases h) (fun h => by cases h) (fun h => by cases h) hk0 hk1 hkk0 hkk1 (by rfl) (by decide) (by decide) (nI_pos hk)
    (by rw [arrV_size, ci, z0]; omega) (by rw [arrV_size, ci, z0]; omega)
    (fun vm₁ _ i hi => by
      rw [cn] at hi
      have e : (arrV cI n0 (fun i => .int (f i))).slots.getD ((0 : Int32).toNatClampNeg + i) .null = .int (f ((0 : Int32).toNatClampNeg + i)) := by
        rw [Array.getD_eq_getD_getElem?, arrV_read _ _ (by rw [c0]; omega)]
        rfl
      rw [e]
      exact ⟨rfl, trivial⟩)
    (g := F0 m pc ls (.int (nI k) :: .int 0 :: .ref a :: .int 0 :: .ref a0 :: rest)) rfl (by rw [hml]) (rest := rest) rfl (by rw [hb]; exact hdg) hframes (by rw [nf]; show 2 * 0 + _ + _ ≤ _; omega)
  have e1 : copied (arrV cI n0 (fun i => .int (f i))) (arrV cI n1 (fun i => .int (g i))) 0 0 (nI k) = arrV cI n1 (fun j => .int (if j < k then f j else g j)) := by
    refine (va_copied (fun z => .int z) cI cI f g (sp := (0 : Int32).toNatClampNeg) (dp := (0 : Int32).toNatClampNeg) (n := (nI k).toNatClampNeg) (by rw [c0, cn]; omega)).trans ?_
    rw [c0, cn]
    congr 1
    funext j
    simp [va_cpy]
  rw [e1] at X' step
  have hl : a < H.size := (Array.getElem?_eq_some_iff.mp hc1).1
  obtain ⟨t, a1, b1⟩ := kk (H.setIfInBounds a (arrV cI n1 (fun j => .int (if j < k then f j else g j)))) _ (by simp [Array.getElem?_setIfInBounds, hl]) (by simp) (fun q hq => by simp [Array.getElem?_setIfInBounds, Ne.symm hq]) (fun q hq => by
    obtain ⟨z, -, hz⟩ := List.mem_map.mp hq
    rw [← hz]) _ (by rw [← hT]; rfl) X'
  exact ⟨t, step t a1, b1⟩
def coPc (E : jE) (a n N : Nat) (f : Nat → Int32) : Array Value → State → Prop := va_Pc [.ref a, .int (nI N)] (fun U => U.heap[a]? = some (arrV (E.2.2.1 0) n (fun i => .int (f i))) ∧ jK E U ∧ E.2.2.2 ≤ U.heap.size)
def coQc (E : jE) (n N : Nat) (f : Nat → Int32) : Array Value → State → Outcome → State → Prop := fun _ st o t => o = .returned (some (.ref st.heap.size)) ∧ t.heap.size = st.heap.size + 1 ∧ t.heap[st.heap.size]? = some (arrV (E.2.2.1 0) N (fun i => .int (if i < n then f i else 0))) ∧ ∀ q : Nat, q < st.heap.size → t.heap[q]? = st.heap[q]?
set_option maxRecDepth 20000 in
set_option maxHeartbeats 4000000 in
theorem c_copyOf {E : jE} {a n N d : Nat} {f : Nat → Int32} (hn : n < N) (hN : N ≤ 100000) : Met E.1 yJ7_copyOf (.code yJ7_copyOf cJ7_copyOf 3 (some (.array .int)) :: jtbl) { frames := d + 1, cells := 1, slots := N, locals := 40 * (d + 1) } (coPc E a n N f) (coQc E n N f) 1 N (fun q : Nat => E.2.2.2 ≤ q) := by
  refine Met.ofW (cc := cJ7_copyOf) (maxL := 3) (ret := some (.array .int)) (by decide) rfl ?_
  intro p e s m args below meth c s₁ B hml hv
  obtain ⟨rfl, hcell, hK, hB⟩ := hv
  have hx := B.exec
  have hb := B.bytes
  have hr := B.returns
  have hts0 := atoms_spec (ws := .code yJ7_copyOf cJ7_copyOf 3 (some (.array .int)) :: jtbl) B.pre
  have hts : ∀ w ∈ jtbl, w.before _ s = true := fun w hw => hts0 w (List.mem_cons_of_mem _ hw)
  have hown : s.vm.findClass RJ7 = some m.cls := findClass_of_methodNamed B.named
  have hlocks := B.notSynchronized
  have hl := lv_entry ([.ref a, .int (nI N)]) (n := 3) (Nat.le_of_ble_eq_true rfl)
  rw [lg_entry_eq]
  generalize (lg_sl ([.ref a, .int (nI N)]) ++ List.replicate (3 - (lg_sl ([.ref a, .int (nI N)])).length) Slot.unset).toArray = ls at hl ⊢
  have hl : lv_has ls 3 [(0, .ref a), (1, .int (nI N))] := hl
  have hal : a < s.heap.size := (Array.getElem?_eq_some_iff.mp hcell).1
  have hAt : ArrOfT s (E.2.2.1 0) .int := (hK.2 0 _ rfl).1
  have hRA : s.vm.findClass ("[" ++ (FieldType.int).toString) = some (E.2.2.1 0) := (hK.2 0 _ rfl).2
  refine lv_iload_n hx hb dJ7_copyOf_0 rfl (lv_at hl 1 rfl) ?_
  refine lv_aload_n hx hb dJ7_copyOf_1 rfl (lv_at hl 0 rfl) ?_
  refine W.alen (n := nI n) hx hb hcell (hAt n _) (by rw [arrV_size]; rfl) rfl rfl dJ7_copyOf_2 ?_
  refine W.eq (g2 := F0 m 3 ls [.int (nI n), .int (nI N)]) rfl ?_
  refine lv_icmp_ne (tgt := 14) hx hb dJ7_copyOf_3 (by decide) (fun c1 => ?_) (fun c1 => absurd ((nI_eq (by omega) (by omega)).mp c1) (by omega))
  refine lv_iload_n hx hb dJ7_copyOf_14 rfl (lv_at hl 1 rfl) ?_
  refine va_newaK (atype := .int) hx hb (hts _ tw_aI) (g := F0 m 15 ls [.int (nI N)]) rfl dJ7_copyOf_15 rfl (nI_pos (by omega)) (nI_clamp (by omega)) (by show N * 4 ≤ 536870912; omega) (Nat.le_refl 1) (by show 0 + N ≤ N; omega) rfl (fun H1 cA g1 g2 g3 g4 g5 => ?_)
  have eA : cA = E.2.2.1 0 := Option.some.inj (g5.symm.trans hRA)
  subst eA
  refine W.eq (g2 := F0 m 17 ls [.ref s.heap.size]) rfl ?_
  refine lv_astore_n (lv' := [(2, .ref s.heap.size), (0, .ref a), (1, .int (nI N))]) hx hb dJ7_copyOf_17 rfl hl (by decide) rfl (fun ls hl => ?_)
  refine lv_aload_n hx hb dJ7_copyOf_18 rfl (lv_at hl 1 rfl) ?_
  refine lv_iconst (v := 0) hx hb dJ7_copyOf_19 (by decide) ?_
  refine lv_aload_n hx hb dJ7_copyOf_20 rfl (lv_at hl 0 rfl) ?_
  refine lv_iconst (v := 0) hx hb dJ7_copyOf_21 (by decide) ?_
  refine lv_aload_n hx hb dJ7_copyOf_22 rfl (lv_at hl 1 rfl) ?_
  refine W.alen (n := nI n) hx hb (by rw [g3 a hal]; exact hcell) (hAt n _) (by rw [arrV_size]; rfl) rfl rfl dJ7_copyOf_23 ?_
  refine W.eq (g2 := F0 m 24 ls [.int (nI n), .int 0, .ref s.heap.size, .int 0, .ref a]) rfl ?_
  refine lv_iload_n hx hb dJ7_copyOf_24 rfl (lv_at hl 2 rfl) ?_
  refine va_mmin hx hb (by rw [hml]; exact hl.1.symm) hown (hts _ tw_cmin) (hts _ tw_min) (hts _ tw_mM) (hts _ tw_minc) (by show 1 ≤ d + 1; omega) (by show _ ≤ 40 * (d + 1); simp [Value.category]; omega) (Nat.le_refl 1) (by show 0 + N ≤ N; omega) dJ7_copyOf_25 ?_
  rw [if_neg (nI_nlt (by omega) (by omega))]
  refine jW_copy hx hb (by rw [hml]; exact hl.1.symm) hown (hts _ tw_ccp) hts hAt (by rw [g3 a hal]; exact hcell) g1 (by omega) (Nat.le_refl n) (by omega) (by show 1 ≤ d + 1; omega) (by show 0 + 18 ≤ 40 * (d + 1); omega) dJ7_copyOf_28 (fun H2 L k1 k2 k3 k4 => ?_)
  refine lv_aload_n hx hb dJ7_copyOf_31 rfl (lv_at hl 0 rfl) ?_
  refine W.widen (k := 1) (n := N) (Nat.le_refl _) (by omega) ?_
  refine W.aret (v := .ref s.heap.size) hx hb hr (Or.inr ⟨_, rfl⟩) (Or.inr ⟨_, rfl⟩) (fun t ht hW => ⟨rfl, by rw [ht, k2, g2], by rw [ht]; exact k1, fun q hq => by rw [ht, k3 q (by omega), g3 q hq]⟩) (fun q hq => ?_) dJ7_copyOf_32
  rw [k4 q (by simpa using hq)]
  exact hB
