/-! texts that the program holds as constants, and the JDK's methods over them -/
def RJ0 : String := "java/lang/String"
def RJ1 : String := "java/lang/StringLatin1"
def RJ3 : String := "jdk/internal/util/Preconditions"
def stx : List String := ["put", "cut", "do", "end", "page", "i", "j", "time", "live", "last", "pages", ";+-*/%()"]
def sidx : List Nat := [77, 83, 85, 87, 89, 94, 96, 98, 100, 102, 104, 66]
def slen : List Nat := [3, 3, 2, 3, 4, 1, 1, 4, 4, 4, 5, 8]
def sbyt : List (List Int32) := [[112, 117, 116], [99, 117, 116], [100, 111], [101, 110, 100], [112, 97, 103, 101], [105], [106], [116, 105, 109, 101], [108, 105, 118, 101], [108, 97, 115, 116], [112, 97, 103, 101, 115], [59, 43, 45, 42, 47, 37, 40, 41]]
/-- the texts lie at A.1 0 .., their bytes at A.1 100 ..; A.2 is what the JDK hands to its own check -/
def Zs (A : (Nat → Nat) × Option Nat) (B : Nat) (s : State) : Prop :=
  vk_S 12 slen sbyt A.1 (fun i => A.1 (100 + i)) (fun q => B ≤ q) s s.heap ∧ (∀ i, i < 12 → vk_R RX4 (sidx.getD i 0) (stx.getD i "") (A.1 i) s) ∧ va_Z "java/lang/String" "COMPACT_STRINGS" "Z" (.int 1) (fun q => B ≤ q) s s.heap ∧ va_Z "jdk/internal/util/Preconditions" "SIOOBE_FORMATTER" "Ljava/util/function/BiFunction;" (va_rf A.2) (fun q => B ≤ q) s s.heap
theorem Zs_i {E : jE} {M N : jm} {A : (Nat → Nat) × Option Nat} (hM : M.2.2.2.2.2 = Zs A) (hN : N.2.2.2.2.2 = Zs A) : jZi E M N := by
  refine ⟨fun s U hs hW hq hB => ?_, fun U g mk a hU => ?_⟩
  · rw [hM] at hs
    rw [hN]
    obtain ⟨h1, h2, h3, h4⟩ := hs
    exact ⟨(h1.kept hq).moved hW.alike, fun i hi => (h2 i hi).warm hW, (h3.kept hq).moved hW.alike, (h4.kept hq).moved hW.alike⟩
  · rw [hN] at hU ⊢
    obtain ⟨h1, h2, h3, h4⟩ := hU
    exact ⟨h1.moved (U := U.calling g mk a) (Vm.Alike.refl U.vm), fun i hi => (h2 i hi).same rfl, h3.moved (U := U.calling g mk a) (Vm.Alike.refl U.vm), h4.moved (U := U.calling g mk a) (Vm.Alike.refl U.vm)⟩
section JSR
variable {E : jE} {M N : jm} {k k' pc idx n i : Nat} {A : (Nat → Nat) × Option Nat} {ls : List (Nat × Value)} {rest st As : List Value} {w w1 w' : jw} {r : Option Value}
theorem jX_goS {pc' : Nat} {st' : List Value} (hs : ∀ (p : Program) (e : Env) (R : Room) (s : State) (m : MethodId) (args : Array Value) (below : List Frame) (meth : Method) (c : Code) (H : Heap) (locs : List Loc) (cells slots : Nat) (lsA : Array Slot) (Q : State → Prop), jCx E M p s m args c → jS E s H locs → lv_has lsA M.2.2.2.1 ls → W p E.1 e R s m args below meth c H locs cells slots Q (F0 m pc' lsA st') → W p E.1 e R s m args below meth c H locs cells slots Q (F0 m pc lsA st))
    (kk : jX E M k pc' ls st' w r w') : jX E M k pc ls st w r w' := by
  intro h hO
  obtain ⟨h', a1, a2, a3, a4⟩ := kk h hO
  exact ⟨h', a1, a2, a3, fun p e R s m args below meth c H locs cells slots lsA Q b1 b2 b3 b4 b5 b6 b7 b8 b9 => hs p e R s m args below meth c H locs cells slots lsA Q b1 b3 b4 (a4 p e R s m args below meth c H locs cells slots lsA Q b1 b2 b3 b4 b5 b6 b7 b8 b9)⟩
theorem jx_sldc (hM : M.2.2.2.2.2 = Zs A) (hi : i < 12) (ho : M.1 = RX4) (d : decode M.2.2.1 pc = .ok (.ldc (sidx.getD i 0), 2)) (kk : jX E M k (pc + 2) ls (.ref (A.1 i) :: rest) w r w') : jX E M k pc ls rest w r w' :=
  jX_goS (fun p e R s m args below meth c H locs cells slots lsA Q C hS hl kw => by
    have hz := C.2.2.2.2.2.2.2
    rw [hM] at hz
    exact va_ldcS C.1 C.2.1 (by rw [← ho]; exact C.2.2.2.1) (hz.2.1 i hi) d kw) kk
theorem jx_sval (hM : M.2.2.2.2.2 = Zs A) (hi : i < 12) (hlk : Cond.fieldLink M.1 idx "java/lang/String" "value" "[B" ∈ jtbl) (d : decode M.2.2.1 pc = .ok (.getfield idx, 3)) (kk : jX E M k (pc + 3) ls (.ref (A.1 (100 + i)) :: rest) w r w') : jX E M k pc ls (.ref (A.1 i) :: rest) w r w' :=
  jX_goS (fun p e R s m args below meth c H locs cells slots lsA Q C hS hl kw => by
    have hz := C.2.2.2.2.2.2.2
    rw [hM] at hz
    exact vk_getf C.1 C.2.1 (hz.1.1 i hi).2.2.1 hS C.2.2.2.1 (C.2.2.2.2.1 _ hlk) (fun _ h => h) d kw) kk
theorem jx_scod (hM : M.2.2.2.2.2 = Zs A) (hi : i < 12) (hlk : Cond.fieldLink M.1 idx "java/lang/String" "coder" "B" ∈ jtbl) (d : decode M.2.2.1 pc = .ok (.getfield idx, 3)) (kk : jX E M k (pc + 3) ls (.int 0 :: rest) w r w') : jX E M k pc ls (.ref (A.1 i) :: rest) w r w' :=
  jX_goS (fun p e R s m args below meth c H locs cells slots lsA Q C hS hl kw => by
    have hz := C.2.2.2.2.2.2.2
    rw [hM] at hz
    exact vk_getf C.1 C.2.1 (hz.1.1 i hi).2.1 hS C.2.2.2.1 (C.2.2.2.2.1 _ hlk) (fun _ h => h) d kw) kk
theorem jx_scs (hM : M.2.2.2.2.2 = Zs A) (hlk : Cond.fieldLink M.1 idx "java/lang/String" "COMPACT_STRINGS" "Z" ∈ jtbl) (d : decode M.2.2.1 pc = .ok (.getstatic idx, 3)) (kk : jX E M k (pc + 3) ls (.int 1 :: rest) w r w') : jX E M k pc ls rest w r w' :=
  jX_goS (fun p e R s m args below meth c H locs cells slots lsA Q C hS hl kw => by
    have hz := C.2.2.2.2.2.2.2
    rw [hM] at hz
    exact va_gets C.1 C.2.1 hz.2.2.1 hS C.2.2.2.1 (C.2.2.2.2.1 _ hlk) (fun _ h => h) d kw) kk
theorem jx_sfm (hM : M.2.2.2.2.2 = Zs A) (hlk : Cond.fieldLink M.1 idx "jdk/internal/util/Preconditions" "SIOOBE_FORMATTER" "Ljava/util/function/BiFunction;" ∈ jtbl) (d : decode M.2.2.1 pc = .ok (.getstatic idx, 3)) (kk : jX E M k (pc + 3) ls (va_rf A.2 :: rest) w r w') : jX E M k pc ls rest w r w' :=
  jX_goS (fun p e R s m args below meth c H locs cells slots lsA Q C hS hl kw => by
    have hz := C.2.2.2.2.2.2.2
    rw [hM] at hz
    exact va_gets C.1 C.2.1 hz.2.2.2 hS C.2.2.2.1 (C.2.2.2.2.1 _ hlk) (fun _ h => h) d kw) kk
theorem jx_sal (hM : M.2.2.2.2.2 = Zs A) (hi : i < 12) (d : decode M.2.2.1 pc = .ok (.arraylength, 1)) (kk : jX E M k (pc + 1) ls (.int (nI (slen.getD i 0)) :: rest) w r w') : jX E M k pc ls (.ref (A.1 (100 + i)) :: rest) w r w' :=
  jX_goS (fun p e R s m args below meth c H locs cells slots lsA Q C hS hl kw => by
    have hz := C.2.2.2.2.2.2.2
    rw [hM] at hz
    obtain ⟨cell, h1, h2, h3, h4, h5, h6, h7⟩ := (hz.1.1 i hi).2.2.2.kept hS.2.1
    exact W.alen C.1 C.2.1 h1 h2 h5 rfl rfl d kw) kk
theorem jx_sbal {j : Nat} (hM : M.2.2.2.2.2 = Zs A) (hi : i < 12) (hj : j < slen.getD i 0) (d : decode M.2.2.1 pc = .ok (.baload, 1)) (kk : jX E M k (pc + 1) ls (.int ((sbyt.getD i []).getD j 0) :: rest) w r w') : jX E M k pc ls (.int (nI j) :: .ref (A.1 (100 + i)) :: rest) w r w' :=
  jX_goS (fun p e R s m args below meth c H locs cells slots lsA Q C hS hl kw => by
    have hz := C.2.2.2.2.2.2.2
    rw [hM] at hz
    have hb : ∀ i, i < 12 → slen.getD i 0 < 100 := by decide
    have hb := hb i hi
    obtain ⟨cell, h1, h2, h3, h4, h5, h6, h7⟩ := (hz.1.1 i hi).2.2.2.kept hS.2.1
    have e1 : (nI j).toNatClampNeg = j := nI_clamp (by omega)
    exact W.bald C.1 C.2.1 h1 h2 h3 (fun q => by rcases q with q | q; exact nI_pos (by omega) q; rw [e1] at q; omega) (by rw [e1]; exact h6 j hj) rfl rfl d kw) kk
/-- a call of a text's method -/
theorem jx_cVs {v : Int32} (hM : M.2.2.2.2.2 = Zs A) (hi : i < 12) (d : decode M.2.2.1 pc = .ok (.invokevirtual idx, 3)) (hlk : Cond.methodLink M.1 idx N.2.1 ∈ jtbl) (hN : jMv N n) (hC : jC E N k' (.ref (A.1 i) :: As) w (some (.int v)) w1)
    (hst : st = As.reverse ++ .ref (A.1 i) :: rest) (hn : As.length = n) (ha : N.2.1.cls = "java/lang/String") (hk : k' + 1 ≤ k) (hcat : (rest.map fun v => v.category).sum ≤ 8) (hZ : jZi E M N) (kk : jX E M k (pc + 3) ls (.int v :: rest) w1 r w') : jX E M k pc ls st w r w' := by
  refine jx_back hC (fun h h1 p e R s m args below meth c H locs cells slots lsA b1 b2 b3 b4 b5 b6 b7 b8 hM2 => ?_) kk
  obtain ⟨⟨hcode, hini, hd, hL⟩, hin, hse⟩ := hN
  obtain ⟨hx, hb, hml, hown, hts, hK, hBs, hZs⟩ := id b1
  have hz := hZs
  rw [hM] at hz
  refine va_runV (As := As) (rest := rest) ⟨hx, hb, hml, hown, hts⟩ (hM2 k' (Nat.le_refl _)) (cwV (C := N.2.1.cls) n hts (jgood (fun w hw => ?_)) rfl rfl rfl ⟨rfl, hd⟩ ⟨by show k' + 1 ≤ R.frames; omega, by show 8 + (N.2.2.2.1 + 11) + 40 * k' ≤ R.locals; omega⟩) ⟨jPc_blind hZ, by rw [ha]; exact vk_recv hz.1 hi b3, fun U hU hW => ⟨rfl, by rw [hU]; exact b2, jK.moved hW.alike hK, hZ.1 s U hZs hW (fun q z1 z2 => by rw [hU]; exact b3.2.1 q z1 z2) hBs⟩⟩ rfl hn b4.1 hst (lv_room hcat) d ⟨b7, b8⟩
  rcases List.mem_append.mp hw with g | g
  · simp only [List.mem_cons, List.not_mem_nil, or_false] at g
    rcases g with rfl | rfl | rfl | rfl
    · exact hlk
    · exact hin
    · exact hse
    · exact hini
  · rcases List.mem_cons.mp g with rfl | g
    · exact hcode
    · exact g
theorem jx_cGv (d : decode M.2.2.1 pc = .ok (.invokestatic idx, 3)) (hlk : Cond.methodLink M.1 idx N.2.1 ∈ jtbl) (hN : jMs N n) (hC : jC E N k' As w none w1)
    (hst : st = As.reverse ++ rest) (hn : As.length = n) (hk : k' + 1 ≤ k) (hcat : (rest.map fun v => v.category).sum ≤ 8) (hZ : jZi E M N) (kk : jX E M k (pc + 3) ls rest w1 r w') : jX E M k pc ls st w r w' := by
  refine jx_back hC (fun h h1 p e R s m args below meth c H locs cells slots lsA b1 b2 b3 b4 b5 b6 b7 b8 hM => ?_) kk
  obtain ⟨⟨hcode, hini, hd, hL⟩, hse⟩ := hN
  obtain ⟨hx, hb, hml, hown, hts, hK, hBs, hZs⟩ := id b1
  exact va_runS (As := As) (rest := rest) ⟨hx, hb, hml, hown, hts⟩ (hM k' (Nat.le_refl _)) ⟨callB_of n hts (jgood (fun w hw => by rcases List.mem_cons.mp hw with rfl | g; exact hcode; exact g)) rfl rfl rfl (hts _ hini) (hts _ hlk) hd ⟨by show k' + 1 ≤ R.frames; omega, by show 8 + (N.2.2.2.1 + 11) + 40 * k' ≤ R.locals; omega⟩, hts _ hse⟩ ⟨jPc_blind hZ, fun U hU hW => ⟨rfl, by rw [hU]; exact b2, jK.moved hW.alike hK, hZ.1 s U hZs hW (fun q z1 z2 => by rw [hU]; exact b3.2.1 q z1 z2) hBs⟩⟩ rfl hn b4.1 hst (lv_room hcat) d ⟨b7, b8⟩
theorem jx_mmax {x y : Int32} (d : decode M.2.2.1 pc = .ok (.invokestatic idx, 3)) (hlk : Cond.methodLink M.1 idx Lib.Math.max.name ∈ jtbl) (hk : 1 ≤ k) (hcat : (rest.map fun v => v.category).sum ≤ 8) (kk : jX E M k (pc + 3) ls (.int (if x < y then y else x) :: rest) w r w') : jX E M k pc ls (.int y :: .int x :: rest) w r w' := by
  intro h hO
  obtain ⟨h', a1, a2, a3, a4⟩ := kk h hO
  refine ⟨h', a1, a2, a3, fun p e R s m args below meth c H locs cells slots lsA Q C b2 b3 b4 b5 b6 b7 b8 b9 => ?_⟩
  exact va_mmax C.1 C.2.1 (by rw [C.2.2.1]; exact b4.1.symm) C.2.2.2.1 (C.2.2.2.2.1 _ hlk) (C.2.2.2.2.1 _ tw_max) (C.2.2.2.2.1 _ tw_mM) (C.2.2.2.2.1 _ tw_maxc) (by omega) (by omega) (by omega) (by omega) d (a4 p e R s m args below meth c H locs cells slots lsA Q C b2 b3 b4 b5 b6 b7 b8 b9)
end JSR
abbrev cJ0_coder : ByteArray := prog_18_method_152_code
def yJ0_coder : MethodName := ⟨RJ0, "coder", "()B"⟩
abbrev m_J0_coder (A : (Nat → Nat) × Option Nat) : jm := (RJ0, yJ0_coder, cJ0_coder, 1, some .byte, Zs A)
theorem mv_J0_coder {A : (Nat → Nat) × Option Nat} : jMv (m_J0_coder A) 0 := jMv_mk (N := m_J0_coder A) [641, 124, 639, 640] (show [Cond.code yJ0_coder cJ0_coder 1 (some .byte), Cond.initialized RJ0, Cond.instanceMethod yJ0_coder, Cond.selects RJ0 yJ0_coder yJ0_coder] = _ by decide +kernel) (show [Cond.code yJ0_coder cJ0_coder 1 (some .byte), Cond.initialized RJ0, Cond.instanceMethod yJ0_coder, Cond.selects RJ0 yJ0_coder yJ0_coder].all goodWord = true by decide +kernel) (show RJ0 ≠ _ ∧ RJ0 ≠ _ ∧ (parseMethodDescriptor "()B").map (fun d => d.parameters.length) = some 0 by decide +kernel) (show 1 ≤ 21 by decide)
theorem dJ0_coder_0 : decode cJ0_coder 0 = .ok (.getstatic 38, 3) := by decide +kernel
theorem dJ0_coder_3 : decode cJ0_coder 3 = .ok (.ifCond .eq 10, 3) := by decide +kernel
theorem dJ0_coder_6 : decode cJ0_coder 6 = .ok (.aload_n 0, 1) := by decide +kernel
theorem dJ0_coder_7 : decode cJ0_coder 7 = .ok (.getfield 15, 3) := by decide +kernel
theorem dJ0_coder_10 : decode cJ0_coder 10 = .ok (.goto 4, 3) := by decide +kernel
theorem dJ0_coder_13 : decode cJ0_coder 13 = .ok (.iconst 1, 1) := by decide +kernel
theorem dJ0_coder_14 : decode cJ0_coder 14 = .ok (.ireturn, 1) := by decide +kernel
abbrev cJ0_isLatin1 : ByteArray := prog_18_method_154_code
def yJ0_isLatin1 : MethodName := ⟨RJ0, "isLatin1", "()Z"⟩
abbrev m_J0_isLatin1 (A : (Nat → Nat) × Option Nat) : jm := (RJ0, yJ0_isLatin1, cJ0_isLatin1, 1, some .boolean, Zs A)
theorem mv_J0_isLatin1 {A : (Nat → Nat) × Option Nat} : jMv (m_J0_isLatin1 A) 0 := jMv_mk (N := m_J0_isLatin1 A) [651, 124, 649, 650] (show [Cond.code yJ0_isLatin1 cJ0_isLatin1 1 (some .boolean), Cond.initialized RJ0, Cond.instanceMethod yJ0_isLatin1, Cond.selects RJ0 yJ0_isLatin1 yJ0_isLatin1] = _ by decide +kernel) (show [Cond.code yJ0_isLatin1 cJ0_isLatin1 1 (some .boolean), Cond.initialized RJ0, Cond.instanceMethod yJ0_isLatin1, Cond.selects RJ0 yJ0_isLatin1 yJ0_isLatin1].all goodWord = true by decide +kernel) (show RJ0 ≠ _ ∧ RJ0 ≠ _ ∧ (parseMethodDescriptor "()Z").map (fun d => d.parameters.length) = some 0 by decide +kernel) (show 1 ≤ 21 by decide)
theorem dJ0_isLatin1_0 : decode cJ0_isLatin1 0 = .ok (.getstatic 38, 3) := by decide +kernel
theorem dJ0_isLatin1_3 : decode cJ0_isLatin1 3 = .ok (.ifCond .eq 14, 3) := by decide +kernel
theorem dJ0_isLatin1_6 : decode cJ0_isLatin1 6 = .ok (.aload_n 0, 1) := by decide +kernel
theorem dJ0_isLatin1_7 : decode cJ0_isLatin1 7 = .ok (.getfield 15, 3) := by decide +kernel
theorem dJ0_isLatin1_10 : decode cJ0_isLatin1 10 = .ok (.ifCond .ne 7, 3) := by decide +kernel
theorem dJ0_isLatin1_13 : decode cJ0_isLatin1 13 = .ok (.iconst 1, 1) := by decide +kernel
theorem dJ0_isLatin1_14 : decode cJ0_isLatin1 14 = .ok (.goto 4, 3) := by decide +kernel
theorem dJ0_isLatin1_17 : decode cJ0_isLatin1 17 = .ok (.iconst 0, 1) := by decide +kernel
theorem dJ0_isLatin1_18 : decode cJ0_isLatin1 18 = .ok (.ireturn, 1) := by decide +kernel
abbrev cJ0_length : ByteArray := prog_18_method_54_code
def yJ0_length : MethodName := ⟨RJ0, "length", "()I"⟩
abbrev m_J0_length (A : (Nat → Nat) × Option Nat) : jm := (RJ0, yJ0_length, cJ0_length, 1, some .int, Zs A)
theorem mv_J0_length {A : (Nat → Nat) × Option Nat} : jMv (m_J0_length A) 0 := jMv_mk (N := m_J0_length A) [637, 124, 635, 636] (show [Cond.code yJ0_length cJ0_length 1 (some .int), Cond.initialized RJ0, Cond.instanceMethod yJ0_length, Cond.selects RJ0 yJ0_length yJ0_length] = _ by decide +kernel) (show [Cond.code yJ0_length cJ0_length 1 (some .int), Cond.initialized RJ0, Cond.instanceMethod yJ0_length, Cond.selects RJ0 yJ0_length yJ0_length].all goodWord = true by decide +kernel) (show RJ0 ≠ _ ∧ RJ0 ≠ _ ∧ (parseMethodDescriptor "()I").map (fun d => d.parameters.length) = some 0 by decide +kernel) (show 1 ≤ 21 by decide)
theorem dJ0_length_0 : decode cJ0_length 0 = .ok (.aload_n 0, 1) := by decide +kernel
theorem dJ0_length_1 : decode cJ0_length 1 = .ok (.getfield 9, 3) := by decide +kernel
theorem dJ0_length_4 : decode cJ0_length 4 = .ok (.arraylength, 1) := by decide +kernel
theorem dJ0_length_5 : decode cJ0_length 5 = .ok (.aload_n 0, 1) := by decide +kernel
theorem dJ0_length_6 : decode cJ0_length 6 = .ok (.invokevirtual 335, 3) := by decide +kernel
theorem dJ0_length_9 : decode cJ0_length 9 = .ok (.ishr, 1) := by decide +kernel
theorem dJ0_length_10 : decode cJ0_length 10 = .ok (.ireturn, 1) := by decide +kernel
abbrev cJ0_checkIndex : ByteArray := prog_18_method_155_code
def yJ0_checkIndex : MethodName := ⟨RJ0, "checkIndex", "(II)V"⟩
abbrev m_J0_checkIndex (A : (Nat → Nat) × Option Nat) : jm := (RJ0, yJ0_checkIndex, cJ0_checkIndex, 2, none, Zs A)
theorem ms_J0_checkIndex {A : (Nat → Nat) × Option Nat} : jMs (m_J0_checkIndex A) 2 := jMs_mk (N := m_J0_checkIndex A) [657, 124, 656] (show [Cond.code yJ0_checkIndex cJ0_checkIndex 2 (none), Cond.initialized RJ0, Cond.static yJ0_checkIndex] = _ by decide +kernel) (show [Cond.code yJ0_checkIndex cJ0_checkIndex 2 (none), Cond.initialized RJ0, Cond.static yJ0_checkIndex].all goodWord = true by decide +kernel) (show RJ0 ≠ _ ∧ RJ0 ≠ _ ∧ (parseMethodDescriptor "(II)V").map (fun d => d.parameters.length) = some 2 by decide +kernel) (show 2 ≤ 21 by decide)
theorem dJ0_checkIndex_0 : decode cJ0_checkIndex 0 = .ok (.iload_n 0, 1) := by decide +kernel
theorem dJ0_checkIndex_1 : decode cJ0_checkIndex 1 = .ok (.iload_n 1, 1) := by decide +kernel
theorem dJ0_checkIndex_2 : decode cJ0_checkIndex 2 = .ok (.getstatic 1053, 3) := by decide +kernel
theorem dJ0_checkIndex_5 : decode cJ0_checkIndex 5 = .ok (.invokestatic 1059, 3) := by decide +kernel
theorem dJ0_checkIndex_8 : decode cJ0_checkIndex 8 = .ok (.pop, 1) := by decide +kernel
theorem dJ0_checkIndex_9 : decode cJ0_checkIndex 9 = .ok (.return_, 1) := by decide +kernel
abbrev cJ0_charAt : ByteArray := prog_18_method_56_code
def yJ0_charAt : MethodName := ⟨RJ0, "charAt", "(I)C"⟩
abbrev m_J0_charAt (A : (Nat → Nat) × Option Nat) : jm := (RJ0, yJ0_charAt, cJ0_charAt, 2, some .char, Zs A)
theorem mv_J0_charAt {A : (Nat → Nat) × Option Nat} : jMv (m_J0_charAt A) 1 := jMv_mk (N := m_J0_charAt A) [647, 124, 645, 646] (show [Cond.code yJ0_charAt cJ0_charAt 2 (some .char), Cond.initialized RJ0, Cond.instanceMethod yJ0_charAt, Cond.selects RJ0 yJ0_charAt yJ0_charAt] = _ by decide +kernel) (show [Cond.code yJ0_charAt cJ0_charAt 2 (some .char), Cond.initialized RJ0, Cond.instanceMethod yJ0_charAt, Cond.selects RJ0 yJ0_charAt yJ0_charAt].all goodWord = true by decide +kernel) (show RJ0 ≠ _ ∧ RJ0 ≠ _ ∧ (parseMethodDescriptor "(I)C").map (fun d => d.parameters.length) = some 1 by decide +kernel) (show 2 ≤ 21 by decide)
theorem dJ0_charAt_0 : decode cJ0_charAt 0 = .ok (.aload_n 0, 1) := by decide +kernel
theorem dJ0_charAt_1 : decode cJ0_charAt 1 = .ok (.invokevirtual 492, 3) := by decide +kernel
theorem dJ0_charAt_4 : decode cJ0_charAt 4 = .ok (.ifCond .eq 12, 3) := by decide +kernel
theorem dJ0_charAt_7 : decode cJ0_charAt 7 = .ok (.aload_n 0, 1) := by decide +kernel
theorem dJ0_charAt_8 : decode cJ0_charAt 8 = .ok (.getfield 9, 3) := by decide +kernel
theorem dJ0_charAt_11 : decode cJ0_charAt 11 = .ok (.iload_n 1, 1) := by decide +kernel
theorem dJ0_charAt_12 : decode cJ0_charAt 12 = .ok (.invokestatic 495, 3) := by decide +kernel
theorem dJ0_charAt_15 : decode cJ0_charAt 15 = .ok (.ireturn, 1) := by decide +kernel
theorem dJ0_charAt_16 : decode cJ0_charAt 16 = .ok (.aload_n 0, 1) := by decide +kernel
theorem dJ0_charAt_17 : decode cJ0_charAt 17 = .ok (.getfield 9, 3) := by decide +kernel
theorem dJ0_charAt_20 : decode cJ0_charAt 20 = .ok (.iload_n 1, 1) := by decide +kernel
theorem dJ0_charAt_21 : decode cJ0_charAt 21 = .ok (.invokestatic 498, 3) := by decide +kernel
theorem dJ0_charAt_24 : decode cJ0_charAt 24 = .ok (.ireturn, 1) := by decide +kernel
abbrev cJ0_indexOf : ByteArray := prog_18_method_79_code
def yJ0_indexOf : MethodName := ⟨RJ0, "indexOf", "(I)I"⟩
abbrev m_J0_indexOf (A : (Nat → Nat) × Option Nat) : jm := (RJ0, yJ0_indexOf, cJ0_indexOf, 2, some .int, Zs A)
theorem mv_J0_indexOf {A : (Nat → Nat) × Option Nat} : jMv (m_J0_indexOf A) 1 := jMv_mk (N := m_J0_indexOf A) [707, 124, 705, 706] (show [Cond.code yJ0_indexOf cJ0_indexOf 2 (some .int), Cond.initialized RJ0, Cond.instanceMethod yJ0_indexOf, Cond.selects RJ0 yJ0_indexOf yJ0_indexOf] = _ by decide +kernel) (show [Cond.code yJ0_indexOf cJ0_indexOf 2 (some .int), Cond.initialized RJ0, Cond.instanceMethod yJ0_indexOf, Cond.selects RJ0 yJ0_indexOf yJ0_indexOf].all goodWord = true by decide +kernel) (show RJ0 ≠ _ ∧ RJ0 ≠ _ ∧ (parseMethodDescriptor "(I)I").map (fun d => d.parameters.length) = some 1 by decide +kernel) (show 2 ≤ 21 by decide)
theorem dJ0_indexOf_0 : decode cJ0_indexOf 0 = .ok (.aload_n 0, 1) := by decide +kernel
theorem dJ0_indexOf_1 : decode cJ0_indexOf 1 = .ok (.iload_n 1, 1) := by decide +kernel
theorem dJ0_indexOf_2 : decode cJ0_indexOf 2 = .ok (.iconst 0, 1) := by decide +kernel
theorem dJ0_indexOf_3 : decode cJ0_indexOf 3 = .ok (.invokevirtual 633, 3) := by decide +kernel
theorem dJ0_indexOf_6 : decode cJ0_indexOf 6 = .ok (.ireturn, 1) := by decide +kernel
abbrev cJ0_indexOf2 : ByteArray := prog_18_method_80_code
def yJ0_indexOf2 : MethodName := ⟨RJ0, "indexOf", "(II)I"⟩
abbrev m_J0_indexOf2 (A : (Nat → Nat) × Option Nat) : jm := (RJ0, yJ0_indexOf2, cJ0_indexOf2, 3, some .int, Zs A)
theorem mv_J0_indexOf2 {A : (Nat → Nat) × Option Nat} : jMv (m_J0_indexOf2 A) 2 := jMv_mk (N := m_J0_indexOf2 A) [711, 124, 709, 710] (show [Cond.code yJ0_indexOf2 cJ0_indexOf2 3 (some .int), Cond.initialized RJ0, Cond.instanceMethod yJ0_indexOf2, Cond.selects RJ0 yJ0_indexOf2 yJ0_indexOf2] = _ by decide +kernel) (show [Cond.code yJ0_indexOf2 cJ0_indexOf2 3 (some .int), Cond.initialized RJ0, Cond.instanceMethod yJ0_indexOf2, Cond.selects RJ0 yJ0_indexOf2 yJ0_indexOf2].all goodWord = true by decide +kernel) (show RJ0 ≠ _ ∧ RJ0 ≠ _ ∧ (parseMethodDescriptor "(II)I").map (fun d => d.parameters.length) = some 2 by decide +kernel) (show 3 ≤ 21 by decide)
theorem dJ0_indexOf2_0 : decode cJ0_indexOf2 0 = .ok (.aload_n 0, 1) := by decide +kernel
theorem dJ0_indexOf2_1 : decode cJ0_indexOf2 1 = .ok (.invokevirtual 492, 3) := by decide +kernel
theorem dJ0_indexOf2_4 : decode cJ0_indexOf2 4 = .ok (.ifCond .eq 19, 3) := by decide +kernel
theorem dJ0_indexOf2_7 : decode cJ0_indexOf2 7 = .ok (.aload_n 0, 1) := by decide +kernel
theorem dJ0_indexOf2_8 : decode cJ0_indexOf2 8 = .ok (.getfield 9, 3) := by decide +kernel
theorem dJ0_indexOf2_11 : decode cJ0_indexOf2 11 = .ok (.iload_n 1, 1) := by decide +kernel
theorem dJ0_indexOf2_12 : decode cJ0_indexOf2 12 = .ok (.iload_n 2, 1) := by decide +kernel
theorem dJ0_indexOf2_13 : decode cJ0_indexOf2 13 = .ok (.aload_n 0, 1) := by decide +kernel
theorem dJ0_indexOf2_14 : decode cJ0_indexOf2 14 = .ok (.invokevirtual 505, 3) := by decide +kernel
theorem dJ0_indexOf2_17 : decode cJ0_indexOf2 17 = .ok (.invokestatic 637, 3) := by decide +kernel
theorem dJ0_indexOf2_20 : decode cJ0_indexOf2 20 = .ok (.goto 16, 3) := by decide +kernel
theorem dJ0_indexOf2_23 : decode cJ0_indexOf2 23 = .ok (.aload_n 0, 1) := by decide +kernel
theorem dJ0_indexOf2_24 : decode cJ0_indexOf2 24 = .ok (.getfield 9, 3) := by decide +kernel
theorem dJ0_indexOf2_27 : decode cJ0_indexOf2 27 = .ok (.iload_n 1, 1) := by decide +kernel
theorem dJ0_indexOf2_28 : decode cJ0_indexOf2 28 = .ok (.iload_n 2, 1) := by decide +kernel
theorem dJ0_indexOf2_29 : decode cJ0_indexOf2 29 = .ok (.aload_n 0, 1) := by decide +kernel
theorem dJ0_indexOf2_30 : decode cJ0_indexOf2 30 = .ok (.invokevirtual 505, 3) := by decide +kernel
theorem dJ0_indexOf2_33 : decode cJ0_indexOf2 33 = .ok (.invokestatic 640, 3) := by decide +kernel
theorem dJ0_indexOf2_36 : decode cJ0_indexOf2 36 = .ok (.ireturn, 1) := by decide +kernel
abbrev cJ1_charAt : ByteArray := prog_19_method_2_code
def yJ1_charAt : MethodName := ⟨RJ1, "charAt", "([BI)C"⟩
abbrev m_J1_charAt (A : (Nat → Nat) × Option Nat) : jm := (RJ1, yJ1_charAt, cJ1_charAt, 2, some .char, Zs A)
theorem ms_J1_charAt {A : (Nat → Nat) × Option Nat} : jMs (m_J1_charAt A) 2 := jMs_mk (N := m_J1_charAt A) [654, 125, 653] (show [Cond.code yJ1_charAt cJ1_charAt 2 (some .char), Cond.initialized RJ1, Cond.static yJ1_charAt] = _ by decide +kernel) (show [Cond.code yJ1_charAt cJ1_charAt 2 (some .char), Cond.initialized RJ1, Cond.static yJ1_charAt].all goodWord = true by decide +kernel) (show RJ1 ≠ _ ∧ RJ1 ≠ _ ∧ (parseMethodDescriptor "([BI)C").map (fun d => d.parameters.length) = some 2 by decide +kernel) (show 2 ≤ 21 by decide)
theorem dJ1_charAt_0 : decode cJ1_charAt 0 = .ok (.iload_n 1, 1) := by decide +kernel
theorem dJ1_charAt_1 : decode cJ1_charAt 1 = .ok (.aload_n 0, 1) := by decide +kernel
theorem dJ1_charAt_2 : decode cJ1_charAt 2 = .ok (.arraylength, 1) := by decide +kernel
theorem dJ1_charAt_3 : decode cJ1_charAt 3 = .ok (.invokestatic 9, 3) := by decide +kernel
theorem dJ1_charAt_6 : decode cJ1_charAt 6 = .ok (.aload_n 0, 1) := by decide +kernel
theorem dJ1_charAt_7 : decode cJ1_charAt 7 = .ok (.iload_n 1, 1) := by decide +kernel
theorem dJ1_charAt_8 : decode cJ1_charAt 8 = .ok (.baload, 1) := by decide +kernel
theorem dJ1_charAt_9 : decode cJ1_charAt 9 = .ok (.sipush 255, 3) := by decide +kernel
theorem dJ1_charAt_12 : decode cJ1_charAt 12 = .ok (.iand, 1) := by decide +kernel
theorem dJ1_charAt_13 : decode cJ1_charAt 13 = .ok (.i2c, 1) := by decide +kernel
theorem dJ1_charAt_14 : decode cJ1_charAt 14 = .ok (.ireturn, 1) := by decide +kernel
abbrev cJ1_canEncode : ByteArray := prog_19_method_4_code
def yJ1_canEncode : MethodName := ⟨RJ1, "canEncode", "(I)Z"⟩
abbrev m_J1_canEncode (A : (Nat → Nat) × Option Nat) : jm := (RJ1, yJ1_canEncode, cJ1_canEncode, 1, some .boolean, Zs A)
theorem ms_J1_canEncode {A : (Nat → Nat) × Option Nat} : jMs (m_J1_canEncode A) 1 := jMs_mk (N := m_J1_canEncode A) [718, 125, 717] (show [Cond.code yJ1_canEncode cJ1_canEncode 1 (some .boolean), Cond.initialized RJ1, Cond.static yJ1_canEncode] = _ by decide +kernel) (show [Cond.code yJ1_canEncode cJ1_canEncode 1 (some .boolean), Cond.initialized RJ1, Cond.static yJ1_canEncode].all goodWord = true by decide +kernel) (show RJ1 ≠ _ ∧ RJ1 ≠ _ ∧ (parseMethodDescriptor "(I)Z").map (fun d => d.parameters.length) = some 1 by decide +kernel) (show 1 ≤ 21 by decide)
theorem dJ1_canEncode_0 : decode cJ1_canEncode 0 = .ok (.iload_n 0, 1) := by decide +kernel
theorem dJ1_canEncode_1 : decode cJ1_canEncode 1 = .ok (.ifCond .lt 14, 3) := by decide +kernel
theorem dJ1_canEncode_4 : decode cJ1_canEncode 4 = .ok (.iload_n 0, 1) := by decide +kernel
theorem dJ1_canEncode_5 : decode cJ1_canEncode 5 = .ok (.sipush 255, 3) := by decide +kernel
theorem dJ1_canEncode_8 : decode cJ1_canEncode 8 = .ok (.if_icmp .gt 7, 3) := by decide +kernel
theorem dJ1_canEncode_11 : decode cJ1_canEncode 11 = .ok (.iconst 1, 1) := by decide +kernel
theorem dJ1_canEncode_12 : decode cJ1_canEncode 12 = .ok (.goto 4, 3) := by decide +kernel
theorem dJ1_canEncode_15 : decode cJ1_canEncode 15 = .ok (.iconst 0, 1) := by decide +kernel
theorem dJ1_canEncode_16 : decode cJ1_canEncode 16 = .ok (.ireturn, 1) := by decide +kernel
abbrev cJ1_indexOf : ByteArray := prog_19_method_22_code
def yJ1_indexOf : MethodName := ⟨RJ1, "indexOf", "([BIII)I"⟩
abbrev m_J1_indexOf (A : (Nat → Nat) × Option Nat) : jm := (RJ1, yJ1_indexOf, cJ1_indexOf, 4, some .int, Zs A)
theorem ms_J1_indexOf {A : (Nat → Nat) × Option Nat} : jMs (m_J1_indexOf A) 4 := jMs_mk (N := m_J1_indexOf A) [715, 125, 714] (show [Cond.code yJ1_indexOf cJ1_indexOf 4 (some .int), Cond.initialized RJ1, Cond.static yJ1_indexOf] = _ by decide +kernel) (show [Cond.code yJ1_indexOf cJ1_indexOf 4 (some .int), Cond.initialized RJ1, Cond.static yJ1_indexOf].all goodWord = true by decide +kernel) (show RJ1 ≠ _ ∧ RJ1 ≠ _ ∧ (parseMethodDescriptor "([BIII)I").map (fun d => d.parameters.length) = some 4 by decide +kernel) (show 4 ≤ 21 by decide)
theorem dJ1_indexOf_0 : decode cJ1_indexOf 0 = .ok (.iload_n 1, 1) := by decide +kernel
theorem dJ1_indexOf_1 : decode cJ1_indexOf 1 = .ok (.invokestatic 88, 3) := by decide +kernel
theorem dJ1_indexOf_4 : decode cJ1_indexOf 4 = .ok (.ifCond .ne 5, 3) := by decide +kernel
theorem dJ1_indexOf_7 : decode cJ1_indexOf 7 = .ok (.iconst (-1), 1) := by decide +kernel
theorem dJ1_indexOf_8 : decode cJ1_indexOf 8 = .ok (.ireturn, 1) := by decide +kernel
theorem dJ1_indexOf_9 : decode cJ1_indexOf 9 = .ok (.iload_n 2, 1) := by decide +kernel
theorem dJ1_indexOf_10 : decode cJ1_indexOf 10 = .ok (.iconst 0, 1) := by decide +kernel
theorem dJ1_indexOf_11 : decode cJ1_indexOf 11 = .ok (.invokestatic 92, 3) := by decide +kernel
theorem dJ1_indexOf_14 : decode cJ1_indexOf 14 = .ok (.istore_n 2, 1) := by decide +kernel
theorem dJ1_indexOf_15 : decode cJ1_indexOf 15 = .ok (.iload_n 3, 1) := by decide +kernel
theorem dJ1_indexOf_16 : decode cJ1_indexOf 16 = .ok (.aload_n 0, 1) := by decide +kernel
theorem dJ1_indexOf_17 : decode cJ1_indexOf 17 = .ok (.arraylength, 1) := by decide +kernel
theorem dJ1_indexOf_18 : decode cJ1_indexOf 18 = .ok (.invokestatic 38, 3) := by decide +kernel
theorem dJ1_indexOf_21 : decode cJ1_indexOf 21 = .ok (.istore_n 3, 1) := by decide +kernel
theorem dJ1_indexOf_22 : decode cJ1_indexOf 22 = .ok (.iload_n 2, 1) := by decide +kernel
theorem dJ1_indexOf_23 : decode cJ1_indexOf 23 = .ok (.iload_n 3, 1) := by decide +kernel
theorem dJ1_indexOf_24 : decode cJ1_indexOf 24 = .ok (.if_icmp .lt 5, 3) := by decide +kernel
theorem dJ1_indexOf_27 : decode cJ1_indexOf 27 = .ok (.iconst (-1), 1) := by decide +kernel
theorem dJ1_indexOf_28 : decode cJ1_indexOf 28 = .ok (.ireturn, 1) := by decide +kernel
theorem dJ1_indexOf_29 : decode cJ1_indexOf 29 = .ok (.aload_n 0, 1) := by decide +kernel
theorem dJ1_indexOf_30 : decode cJ1_indexOf 30 = .ok (.iload_n 1, 1) := by decide +kernel
theorem dJ1_indexOf_31 : decode cJ1_indexOf 31 = .ok (.iload_n 2, 1) := by decide +kernel
theorem dJ1_indexOf_32 : decode cJ1_indexOf 32 = .ok (.iload_n 3, 1) := by decide +kernel
theorem dJ1_indexOf_33 : decode cJ1_indexOf 33 = .ok (.invokestatic 95, 3) := by decide +kernel
theorem dJ1_indexOf_36 : decode cJ1_indexOf 36 = .ok (.ireturn, 1) := by decide +kernel
abbrev cJ1_indexOfChar : ByteArray := prog_19_method_23_code
def yJ1_indexOfChar : MethodName := ⟨RJ1, "indexOfChar", "([BIII)I"⟩
abbrev m_J1_indexOfChar (A : (Nat → Nat) × Option Nat) : jm := (RJ1, yJ1_indexOfChar, cJ1_indexOfChar, 6, some .int, Zs A)
theorem ms_J1_indexOfChar {A : (Nat → Nat) × Option Nat} : jMs (m_J1_indexOfChar A) 4 := jMs_mk (N := m_J1_indexOfChar A) [723, 125, 722] (show [Cond.code yJ1_indexOfChar cJ1_indexOfChar 6 (some .int), Cond.initialized RJ1, Cond.static yJ1_indexOfChar] = _ by decide +kernel) (show [Cond.code yJ1_indexOfChar cJ1_indexOfChar 6 (some .int), Cond.initialized RJ1, Cond.static yJ1_indexOfChar].all goodWord = true by decide +kernel) (show RJ1 ≠ _ ∧ RJ1 ≠ _ ∧ (parseMethodDescriptor "([BIII)I").map (fun d => d.parameters.length) = some 4 by decide +kernel) (show 6 ≤ 21 by decide)
theorem dJ1_indexOfChar_0 : decode cJ1_indexOfChar 0 = .ok (.iload_n 1, 1) := by decide +kernel
theorem dJ1_indexOfChar_1 : decode cJ1_indexOfChar 1 = .ok (.i2b, 1) := by decide +kernel
theorem dJ1_indexOfChar_2 : decode cJ1_indexOfChar 2 = .ok (.istore 4, 2) := by decide +kernel
theorem dJ1_indexOfChar_4 : decode cJ1_indexOfChar 4 = .ok (.iload_n 2, 1) := by decide +kernel
theorem dJ1_indexOfChar_5 : decode cJ1_indexOfChar 5 = .ok (.istore 5, 2) := by decide +kernel
theorem dJ1_indexOfChar_7 : decode cJ1_indexOfChar 7 = .ok (.iload 5, 2) := by decide +kernel
theorem dJ1_indexOfChar_9 : decode cJ1_indexOfChar 9 = .ok (.iload_n 3, 1) := by decide +kernel
theorem dJ1_indexOfChar_10 : decode cJ1_indexOfChar 10 = .ok (.if_icmp .ge 21, 3) := by decide +kernel
theorem dJ1_indexOfChar_13 : decode cJ1_indexOfChar 13 = .ok (.aload_n 0, 1) := by decide +kernel
theorem dJ1_indexOfChar_14 : decode cJ1_indexOfChar 14 = .ok (.iload 5, 2) := by decide +kernel
theorem dJ1_indexOfChar_16 : decode cJ1_indexOfChar 16 = .ok (.baload, 1) := by decide +kernel
theorem dJ1_indexOfChar_17 : decode cJ1_indexOfChar 17 = .ok (.iload 4, 2) := by decide +kernel
theorem dJ1_indexOfChar_19 : decode cJ1_indexOfChar 19 = .ok (.if_icmp .ne 6, 3) := by decide +kernel
theorem dJ1_indexOfChar_22 : decode cJ1_indexOfChar 22 = .ok (.iload 5, 2) := by decide +kernel
theorem dJ1_indexOfChar_24 : decode cJ1_indexOfChar 24 = .ok (.ireturn, 1) := by decide +kernel
theorem dJ1_indexOfChar_25 : decode cJ1_indexOfChar 25 = .ok (.iinc 5 1, 3) := by decide +kernel
theorem dJ1_indexOfChar_28 : decode cJ1_indexOfChar 28 = .ok (.goto (-21), 3) := by decide +kernel
theorem dJ1_indexOfChar_31 : decode cJ1_indexOfChar 31 = .ok (.iconst (-1), 1) := by decide +kernel
theorem dJ1_indexOfChar_32 : decode cJ1_indexOfChar 32 = .ok (.ireturn, 1) := by decide +kernel
abbrev cJ3_checkIndex : ByteArray := prog_23_method_11_code
def yJ3_checkIndex : MethodName := ⟨RJ3, "checkIndex", "(IILjava/util/function/BiFunction;)I"⟩
abbrev m_J3_checkIndex (A : (Nat → Nat) × Option Nat) : jm := (RJ3, yJ3_checkIndex, cJ3_checkIndex, 3, some .int, Zs A)
theorem ms_J3_checkIndex {A : (Nat → Nat) × Option Nat} : jMs (m_J3_checkIndex A) 3 := jMs_mk (N := m_J3_checkIndex A) [662, 126, 661] (show [Cond.code yJ3_checkIndex cJ3_checkIndex 3 (some .int), Cond.initialized RJ3, Cond.static yJ3_checkIndex] = _ by decide +kernel) (show [Cond.code yJ3_checkIndex cJ3_checkIndex 3 (some .int), Cond.initialized RJ3, Cond.static yJ3_checkIndex].all goodWord = true by decide +kernel) (show RJ3 ≠ _ ∧ RJ3 ≠ _ ∧ (parseMethodDescriptor "(IILjava/util/function/BiFunction;)I").map (fun d => d.parameters.length) = some 3 by decide +kernel) (show 3 ≤ 21 by decide)
theorem dJ3_checkIndex_0 : decode cJ3_checkIndex 0 = .ok (.iload_n 0, 1) := by decide +kernel
theorem dJ3_checkIndex_1 : decode cJ3_checkIndex 1 = .ok (.ifCond .lt 8, 3) := by decide +kernel
theorem dJ3_checkIndex_4 : decode cJ3_checkIndex 4 = .ok (.iload_n 0, 1) := by decide +kernel
theorem dJ3_checkIndex_5 : decode cJ3_checkIndex 5 = .ok (.iload_n 1, 1) := by decide +kernel
theorem dJ3_checkIndex_6 : decode cJ3_checkIndex 6 = .ok (.if_icmp .lt 10, 3) := by decide +kernel
theorem dJ3_checkIndex_9 : decode cJ3_checkIndex 9 = .ok (.aload_n 2, 1) := by decide +kernel
theorem dJ3_checkIndex_10 : decode cJ3_checkIndex 10 = .ok (.iload_n 0, 1) := by decide +kernel
theorem dJ3_checkIndex_11 : decode cJ3_checkIndex 11 = .ok (.iload_n 1, 1) := by decide +kernel
theorem dJ3_checkIndex_12 : decode cJ3_checkIndex 12 = .ok (.invokestatic 95, 3) := by decide +kernel
theorem dJ3_checkIndex_15 : decode cJ3_checkIndex 15 = .ok (.athrow, 1) := by decide +kernel
theorem dJ3_checkIndex_16 : decode cJ3_checkIndex 16 = .ok (.iload_n 0, 1) := by decide +kernel
theorem dJ3_checkIndex_17 : decode cJ3_checkIndex 17 = .ok (.ireturn, 1) := by decide +kernel
theorem ml_s335 : Cond.methodLink RJ0 335 yJ0_coder ∈ jtbl := jt (n := 638) (by decide +kernel) rfl
theorem ml_s492 : Cond.methodLink RJ0 492 yJ0_isLatin1 ∈ jtbl := jt (n := 648) (by decide +kernel) rfl
theorem ml_s495 : Cond.methodLink RJ0 495 yJ1_charAt ∈ jtbl := jt (n := 652) (by decide +kernel) rfl
theorem ml_s9 : Cond.methodLink RJ1 9 yJ0_checkIndex ∈ jtbl := jt (n := 655) (by decide +kernel) rfl
theorem ml_s1059 : Cond.methodLink RJ0 1059 yJ3_checkIndex ∈ jtbl := jt (n := 660) (by decide +kernel) rfl
theorem ml_s633 : Cond.methodLink RJ0 633 yJ0_indexOf2 ∈ jtbl := jt (n := 708) (by decide +kernel) rfl
theorem ml_s505 : Cond.methodLink RJ0 505 yJ0_length ∈ jtbl := jt (n := 712) (by decide +kernel) rfl
theorem ml_s637 : Cond.methodLink RJ0 637 yJ1_indexOf ∈ jtbl := jt (n := 713) (by decide +kernel) rfl
theorem ml_s88 : Cond.methodLink RJ1 88 yJ1_canEncode ∈ jtbl := jt (n := 716) (by decide +kernel) rfl
theorem ml_s92 : Cond.methodLink RJ1 92 Lib.Math.max.name ∈ jtbl := jt (n := 719) (by decide +kernel) rfl
theorem ml_s38 : Cond.methodLink RJ1 38 Lib.Math.min.name ∈ jtbl := jt (n := 720) (by decide +kernel) rfl
theorem ml_s95 : Cond.methodLink RJ1 95 yJ1_indexOfChar ∈ jtbl := jt (n := 721) (by decide +kernel) rfl
theorem ml_x106 : Cond.methodLink RX4 106 yJ0_length ∈ jtbl := jt (n := 634) (by decide +kernel) rfl
theorem ml_x110 : Cond.methodLink RX4 110 yJ0_charAt ∈ jtbl := jt (n := 644) (by decide +kernel) rfl
theorem ml_x68 : Cond.methodLink RX4 68 yJ0_indexOf ∈ jtbl := jt (n := 704) (by decide +kernel) rfl
theorem fl_sv : Cond.fieldLink RJ0 9 "java/lang/String" "value" "[B" ∈ jtbl := jt (n := 1895) (by decide +kernel) rfl
theorem fl_sc : Cond.fieldLink RJ0 15 "java/lang/String" "coder" "B" ∈ jtbl := jt (n := 1896) (by decide +kernel) rfl
theorem fl_ss : Cond.fieldLink RJ0 38 "java/lang/String" "COMPACT_STRINGS" "Z" ∈ jtbl := jt (n := 642) (by decide +kernel) rfl
theorem fl_sf : Cond.fieldLink RJ0 1053 "jdk/internal/util/Preconditions" "SIOOBE_FORMATTER" "Ljava/util/function/BiFunction;" ∈ jtbl := jt (n := 658) (by decide +kernel) rfl
