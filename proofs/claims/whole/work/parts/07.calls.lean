/-! contracts and calls -/
def jPc (E : jE) (N : jm) (av : List Value) (w : jw) (h : jh) : Array Value → State → Prop := va_Pc av (fun U => jRel E w h U.heap ∧ jK E U ∧ N.2.2.2.2.2 E.2.2.2 U)
/-- what else is known at a call comes from what else is known at the caller's entry -/
def jZi (E : jE) (M N : jm) : Prop := (∀ s U : State, M.2.2.2.2.2 E.2.2.2 s → s.WarmedH U.vm → (∀ q : Nat, q < s.heap.size → ¬ E.2.2.2 ≤ q → U.heap[q]? = s.heap[q]?) → E.2.2.2 ≤ s.heap.size → N.2.2.2.2.2 E.2.2.2 U) ∧ (∀ (U : State) (g : JFrame) (mk : MethodId) (a : Array Value), N.2.2.2.2.2 E.2.2.2 U → N.2.2.2.2.2 E.2.2.2 (U.calling g mk a))
def jQc (E : jE) (r : Option Value) (w' : jw) (h' : jh) : Array Value → State → Outcome → State → Prop := fun _ st o t => o = .returned r ∧ jRel E w' h' t.heap ∧ va_F (fun q : Nat => E.2.2.2 ≤ q) st t
/-- the contract of a method: with these arguments, in this world, it answers r and leaves w'; k levels of calls below it are enough -/
def jC (E : jE) (N : jm) (k : Nat) (av : List Value) (w : jw) (r : Option Value) (w' : jw) : Prop :=
  ∀ h : jh, jOk E w h → ∃ h' : jh, jOk E w' h' ∧ h.2.2.1 ≤ h'.2.2.1 ∧ h.2.2.2 ≤ h'.2.2.2 ∧ ∀ d : Nat, k ≤ d →
    Met E.1 N.2.1 (.code N.2.1 N.2.2.1 N.2.2.2.1 N.2.2.2.2.1 :: jtbl) { frames := d, cells := h'.2.2.1 - h.2.2.1, slots := h'.2.2.2 - h.2.2.2, locals := 40 * d }
      (jPc E N av w h) (jQc E r w' h') (h'.2.2.1 - h.2.2.1) (h'.2.2.2 - h.2.2.2) (fun q : Nat => E.2.2.2 ≤ q)
theorem jK.moved {E : jE} {u U : State} (hvm : u.vm.Alike U.vm) (h : jK E u) : jK E U := va_K.moved hvm h
theorem jPc_blind {E : jE} {M N : jm} {av : List Value} {w : jw} {h : jh} (hZ : jZi E M N) : FrameBlind (jPc E N av w h) := fun a U g mk q => by
  obtain ⟨q0, q1, q2, q3⟩ := q
  exact ⟨q0, q1, jK.moved (u := U) (U := U.calling g mk a) (Vm.Alike.refl U.vm) q2, hZ.2 U g mk a q3⟩
/-- what an answer may be, by the method's kind of answer -/
def jAns (ret : Option FieldType) (r : Option Value) : Prop := match r with
  | none => ret = none
  | some (.int v) => ∃ ty, ret = some ty ∧ narrow ty (.int v) = .int v
  | some (.long _) => ret = some .long
  | _ => False
theorem jC_of {E : jE} {N : jm} {k : Nat} {av : List Value} {w w' : jw} {r : Option Value} {ls : List (Nat × Value)} (hy : plainName N.2.1.cls = true) (hown : N.2.1.cls = N.1) (hdum : ∀ _ : State, True) (hlen : (lg_sl av).length ≤ N.2.2.2.1) (hls : lv_args 0 av = ls) (ha : jAns N.2.2.2.2.1 r)
    (X : jX E N k 0 ls [] w r w') : jC E N k av w r w' := by
  intro h hO
  obtain ⟨h', a1, a2, a3, a4⟩ := X h hO
  refine ⟨h', a1, a2, a3, fun d hd => ?_⟩
  refine Met.ofW (cc := N.2.2.1) (maxL := N.2.2.2.1) (ret := N.2.2.2.2.1) hy rfl ?_
  intro p e s m args below meth c s₁ B hml hv
  obtain ⟨rfl, hRel, hK, hZ⟩ := hv
  have hts := atoms_spec (ws := .code N.2.1 N.2.2.1 N.2.2.2.1 N.2.2.2.2.1 :: jtbl) B.pre
  have hfc : s.vm.findClass N.1 = some m.cls := by rw [← hown]; exact findClass_of_methodNamed B.named
  have hr := B.returns
  have hb := B.bytes
  have hx := B.exec
  have hlocks := B.notSynchronized
  have hl := lv_entry av (n := N.2.2.2.1) hlen
  rw [hls] at hl
  rw [lg_entry_eq]
  have hB : E.2.2.2 ≤ s.heap.size := by rw [hRel.1]; exact Nat.le_add_right _ _
  refine a4 p e _ s m _ below meth c s.heap [] 0 0 _ _ ⟨hx, hb, hml, hfc, fun w hw => hts w (List.mem_cons_of_mem _ hw), hK, hB, hZ⟩ hRel va_S.rf hl hd (Nat.mul_le_mul_left 40 hd) (by rw [Nat.zero_add]; exact Nat.le_refl _) (by rw [Nat.zero_add]; exact Nat.le_refl _) ?_
  intro H1 locs1 pc1 lsA1 st1 hret hR1 hS1
  rw [Nat.zero_add, Nat.zero_add]
  have hq : ∀ t : State, t.heap = H1 → s.WarmedH t.vm → jQc E r w' h' av.toArray s (.returned r) t := fun t ht _ => ⟨rfl, by rw [ht]; exact hR1, hS1.F ht⟩
  match r, ha, hret, hq with
  | none, ha, hret, hq =>
    obtain ⟨hd, rfl⟩ := hret
    exact W.vret hx hb (by rw [hr]; exact ha) hq hS1.2.2 hd
  | some (.int v), ha, hret, hq =>
    obtain ⟨hd, rfl⟩ := hret
    obtain ⟨ty, h1, h2⟩ := ha
    exact W.zret (ty := ty) hx hb (by rw [hr]; exact h1) h2 hq hS1.2.2 hd
  | some (.long v), ha, hret, hq =>
    obtain ⟨hd, rfl⟩ := hret
    exact W.lret hx hb (by rw [hr]; exact ha) hq hS1.2.2 hd
/-- a method's words -/
def jMw (N : jm) (n : Nat) : Prop := Cond.code N.2.1 N.2.2.1 N.2.2.2.1 N.2.2.2.2.1 ∈ jtbl ∧ Cond.initialized N.2.1.cls ∈ jtbl ∧ (N.2.1.cls ≠ "java/lang/invoke/MethodHandle" ∧ N.2.1.cls ≠ "java/lang/invoke/VarHandle" ∧ (parseMethodDescriptor N.2.1.desc).map (fun d => d.parameters.length) = some n) ∧ N.2.2.2.1 ≤ 21
def jMv (N : jm) (n : Nat) : Prop := jMw N n ∧ Cond.instanceMethod N.2.1 ∈ jtbl ∧ Cond.selects N.2.1.cls N.2.1 N.2.1 ∈ jtbl
def jMs (N : jm) (n : Nat) : Prop := jMw N n ∧ Cond.static N.2.1 ∈ jtbl
def jcls (E : jE) (a : Nat) : Option String := match jkd E a with
  | some (0, ci) => (jcl[ci]?).map (fun C => C.1)
  | some (6, _) => some RX8
  | some (7, _) => some RX8
  | _ => none
theorem jrecv {E : jE} {w : jw} {h : jh} {H : Heap} {s : State} {a : Nat} {C : String} (hR : jRel E w h H) (hK : jK E s) (ha : jcls E a = some C) : ∃ cellB : Cell, H[E.2.2.2 + a]? = some cellB ∧ cellB.vm.isStatics = false ∧ s.vm.findClass C = some cellB.cls := by
  unfold jcls at ha
  cases hk : jkd E a with
  | none => rw [hk] at ha; cases ha
  | some q =>
    rw [hk] at ha
    have hc := hR.2 a q hk
    obtain ⟨t, n⟩ := q
    have row : ∀ (h6 : 6 ≤ t), C = RX8 → ∃ cellB : Cell, H[E.2.2.2 + a]? = some cellB ∧ cellB.vm.isStatics = false ∧ s.vm.findClass C = some cellB.cls := by
      intro h6 e
      obtain ⟨⟨cell, g1, g2, g3, -⟩, -⟩ := jcell_row hc h6
      subst e
      exact ⟨cell, g1, by rw [g3]; rfl, by rw [g2]; exact (hK.1 8 (RX8, TX8, 2) rfl).2.1⟩
    match t, hc, ha, row with
    | 0, hc, ha, _ =>
      obtain ⟨C0, h0, cell, g1, g2, g3, -⟩ := hc
      simp only [] at ha h0
      rw [h0] at ha
      cases ha
      exact ⟨cell, g1, by rw [g3]; rfl, by rw [g2]; exact (hK.1 n C0 h0).2.1⟩
    | 1, _, ha, _ => cases ha
    | 2, _, ha, _ => cases ha
    | 3, _, ha, _ => cases ha
    | 4, _, ha, _ => cases ha
    | 5, _, ha, _ => cases ha
    | 6, _, ha, row => exact row (by omega) (Option.some.inj ha).symm
    | 7, _, ha, row => exact row (by omega) (Option.some.inj ha).symm
    | t + 8, _, ha, _ => cases ha
theorem jgood {ws : List Cond} (h : ∀ w ∈ ws, w ∈ jtbl) : GoodIn jtbl ws := fun w hw => ⟨h w hw, good_of_word (jtbl_good w (h w hw))⟩
/-- behind any call that came back -/
theorem jx_back {E : jE} {M N : jm} {k pc : Nat} {ls : List (Nat × Value)} {rest st av : List Value} {w w1 w' : jw} {r rv : Option Value} {k' : Nat} (hC : jC E N k' av w rv w1)
    (hrun : ∀ (h h1 : jh) (p : Program) (e : Env) (R : Room) (s : State) (m : MethodId) (args : Array Value) (below : List Frame) (meth : Method) (c : Code) (H : Heap) (locs : List Loc) (cells slots : Nat) (lsA : Array Slot),
      jCx E M p s m args c → jRel E w h H → jS E s H locs → lv_has lsA M.2.2.2.1 ls → k ≤ R.frames → 40 * k ≤ R.locals → cells + (h1.2.2.1 - h.2.2.1) ≤ R.cells → slots + (h1.2.2.2 - h.2.2.2) ≤ R.slots →
      (∀ d : Nat, k' ≤ d → Met E.1 N.2.1 (.code N.2.1 N.2.2.1 N.2.2.2.1 N.2.2.2.2.1 :: jtbl) { frames := d, cells := h1.2.2.1 - h.2.2.1, slots := h1.2.2.2 - h.2.2.2, locals := 40 * d } (jPc E N av w h) (jQc E rv w1 h1) (h1.2.2.1 - h.2.2.1) (h1.2.2.2 - h.2.2.2) (fun q : Nat => E.2.2.2 ≤ q)) →
      va_Run p E.1 e R s m args below meth c H locs cells slots (h1.2.2.1 - h.2.2.1) (h1.2.2.2 - h.2.2.2) (F0 m pc lsA st) rest (jQc E rv w1 h1 av.toArray) (fun q : Nat => E.2.2.2 ≤ q))
    (kk : jX E M k (pc + 3) ls (rv.toList ++ rest) w1 r w') : jX E M k pc ls st w r w' := by
  intro h hO
  obtain ⟨h1, o1, c1, s1, hM⟩ := hC h hO
  obtain ⟨h', o2, c2, s2, a4⟩ := kk h1 o1
  refine ⟨h', o2, Nat.le_trans c1 c2, Nat.le_trans s1 s2, fun p e R s m args below meth c H locs cells slots lsA Q b1 b2 b3 b4 b5 b6 b7 b8 b9 => ?_⟩
  have run := hrun h h1 p e R s m args below meth c H locs cells slots lsA b1 b2 b3 b4 b5 b6 (by omega) (by omega) hM
  intro T hT X
  obtain ⟨v, st₀, t, T', L, h0, X', hL, e1, e2, ⟨hv, hR1, hz, hkp⟩, go⟩ := run T hT X
  have hv' : v = rv := by cases hv; rfl
  subst hv'
  rw [h0] at hz hkp
  have hS1 : jS E s T'.heap (locs ++ L) := by
    refine ⟨Nat.le_trans b3.1 (by rw [e1]; exact hz), fun q g1 g2 => ?_, fun q hq => ?_⟩
    · rw [e1, hkp q (Nat.lt_of_lt_of_le g1 b3.1) g2]
      exact b3.2.1 q g1 g2
    · rcases List.mem_append.mp hq with g | g
      · exact b3.2.2 q g
      · exact hL q g
  have ec : cells + (h1.2.2.1 - h.2.2.1) + (h'.2.2.1 - h1.2.2.1) = cells + (h'.2.2.1 - h.2.2.1) := by omega
  have es : slots + (h1.2.2.2 - h.2.2.2) + (h'.2.2.2 - h1.2.2.2) = slots + (h'.2.2.2 - h.2.2.2) := by omega
  obtain ⟨t2, g1, g2⟩ := a4 p e R s m args below meth c T'.heap (locs ++ L) (cells + (h1.2.2.1 - h.2.2.1)) (slots + (h1.2.2.2 - h.2.2.2)) lsA Q b1 (by rw [e1]; exact hR1) hS1 b4 b5 b6 (by rw [ec]; exact b7) (by rw [es]; exact b8)
    (fun H2 locs2 pc2 lsA2 st2 d1 d2 d3 => by rw [ec, es]; exact b9 H2 locs2 pc2 lsA2 st2 d1 d2 d3) T' rfl X'
  exact ⟨t2, go t2 g1, g2⟩
/-- a call of a method of an object -/
theorem jx_callV {E : jE} {M N : jm} {k k' pc idx n a : Nat} {ls : List (Nat × Value)} {rest st As : List Value} {w w1 w' : jw} {r rv : Option Value} (d : decode M.2.2.1 pc = .ok (.invokevirtual idx, 3)) (hlk : Cond.methodLink M.1 idx N.2.1 ∈ jtbl) (hN : jMv N n) (hC : jC E N k' (.ref (E.2.2.2 + a) :: As) w rv w1)
    (hst : st = As.reverse ++ .ref (E.2.2.2 + a) :: rest) (hn : As.length = n) (ha : jcls E a = some N.2.1.cls) (hk : k' + 1 ≤ k) (hcat : (rest.map fun v => v.category).sum ≤ 8) (kk : jX E M k (pc + 3) ls (rv.toList ++ rest) w1 r w') (hZ : jZi E M N := by exact ⟨fun _ _ _ _ _ _ => trivial, fun _ _ _ _ _ => trivial⟩) : jX E M k pc ls st w r w' := by
  refine jx_back hC (fun h h1 p e R s m args below meth c H locs cells slots lsA b1 b2 b3 b4 b5 b6 b7 b8 hM => ?_) kk
  obtain ⟨⟨hcode, hini, hd, hL⟩, hin, hse⟩ := hN
  obtain ⟨hx, hb, hml, hown, hts, hK, hBs, hZs⟩ := id b1
  refine va_runV (As := As) (rest := rest) ⟨hx, hb, hml, hown, hts⟩ (hM k' (Nat.le_refl _)) (cwV (C := N.2.1.cls) n hts (jgood (fun w hw => ?_)) rfl rfl rfl ⟨rfl, hd⟩ ⟨by show k' + 1 ≤ R.frames; omega, by show 8 + (N.2.2.2.1 + 11) + 40 * k' ≤ R.locals; omega⟩) ⟨jPc_blind hZ, jrecv b2 hK ha, fun U hU hW => ⟨rfl, by rw [hU]; exact b2, jK.moved hW.alike hK, hZ.1 s U hZs hW (fun q z1 z2 => by rw [hU]; exact b3.2.1 q z1 z2) hBs⟩⟩ rfl hn b4.1 hst (lv_room hcat) d ⟨b7, b8⟩
  rcases List.mem_append.mp hw with g | g
  · simp only [List.mem_cons, List.not_mem_nil, or_false] at g
    rcases g with rfl | rfl | rfl | rfl
    · exact hlk
    · exact hin
    · exact hse
    · exact hini
  · rcases List.mem_cons.mp g with rfl | g
    · exact hcode
    · exact g
/-- a call of a static method of the own kind -/
theorem jx_callS {E : jE} {M N : jm} {k k' pc idx n : Nat} {ls : List (Nat × Value)} {rest st As : List Value} {w w1 w' : jw} {r rv : Option Value} (d : decode M.2.2.1 pc = .ok (.invokestatic idx, 3)) (hlk : Cond.methodLink M.1 idx N.2.1 ∈ jtbl) (hN : jMs N n) (hC : jC E N k' As w rv w1)
    (hst : st = As.reverse ++ rest) (hn : As.length = n) (ho : N.2.1.cls = M.1) (hk : k' + 1 ≤ k) (hcat : (rest.map fun v => v.category).sum ≤ 8) (kk : jX E M k (pc + 3) ls (rv.toList ++ rest) w1 r w') (hZ : jZi E M N := by exact ⟨fun _ _ _ _ _ _ => trivial, fun _ _ _ _ _ => trivial⟩) : jX E M k pc ls st w r w' := by
  refine jx_back hC (fun h h1 p e R s m args below meth c H locs cells slots lsA b1 b2 b3 b4 b5 b6 b7 b8 hM => ?_) kk
  obtain ⟨⟨hcode, hini, hd, hL⟩, hse⟩ := hN
  obtain ⟨hx, hb, hml, hown, hts, hK, hBs, hZs⟩ := id b1
  refine va_runS (As := As) (rest := rest) ⟨hx, hb, hml, hown, hts⟩ (hM k' (Nat.le_refl _)) (cwS n hts (jgood (fun w hw => ?_)) rfl rfl rfl ⟨ho, hd⟩ ⟨by show k' + 1 ≤ R.frames; omega, by show 8 + (N.2.2.2.1 + 11) + 40 * k' ≤ R.locals; omega⟩) ⟨jPc_blind hZ, fun U hU hW => ⟨rfl, by rw [hU]; exact b2, jK.moved hW.alike hK, hZ.1 s U hZs hW (fun q z1 z2 => by rw [hU]; exact b3.2.1 q z1 z2) hBs⟩⟩ rfl hn b4.1 hst (lv_room hcat) d ⟨b7, b8⟩
  rcases List.mem_append.mp hw with g | g
  · simp only [List.mem_cons, List.not_mem_nil, or_false] at g
    rcases g with rfl | rfl | rfl
    · exact hlk
    · exact hse
    · rw [← ho]; exact hini
  · rcases List.mem_cons.mp g with rfl | g
    · exact hcode
    · exact g
