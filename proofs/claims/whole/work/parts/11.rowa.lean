/-! rows: what is asked and changed at a place, without a new array -/
def rat (l : List Int32) (i : Int32) : Int32 := if i < 0 then 0 else l.getD i.toNatClampNeg 0
def rset (l : List Int32) (i x : Int32) : List Int32 := if i < 0 then l else l.set i.toNatClampNeg x
def rcut (l : List Int32) (n : Int32) : List Int32 := if n < 0 then l else l.take n.toNatClampNeg
theorem jX_ok {E : jE} {M : jm} {k pc : Nat} {ls : List (Nat × Value)} {st : List Value} {w w' : jw} {r : Option Value} (f : (∃ h, jOk E w h) → jX E M k pc ls st w r w') : jX E M k pc ls st w r w' := fun h hO => f ⟨h, hO⟩ h hO
theorem kd_mem {k : Nat} {q : Nat × Nat} (h : kd k = some q) : (k, q) ∈ kdl := by
  unfold kd at h
  cases hf : kdl.find? (fun q => q.1 == k) with
  | none => rw [hf] at h; cases h
  | some z =>
    rw [hf] at h
    have h1 := List.find?_some hf
    have h2 := List.mem_of_find?_eq_some hf
    obtain ⟨a, b⟩ := z
    have e1 : a = k := by simpa using h1
    have e2 : b = q := by simpa using h
    subst e1; subst e2
    exact h2
theorem kdl_6 : ∀ x ∈ kdl, 6 ≤ x.2.1 → x.1 ∈ jrows ∧ 1 ≤ x.2.2 ∧ (x.2.1 = 6 ∧ x.1 ≠ 13 ∧ x.1 ≠ 15 ∨ x.2.1 = 7 ∧ (x.1 = 13 ∨ x.1 = 15)) := by decide +kernel
theorem jrows_nd : jrows.Nodup := by decide +kernel
theorem kd_row {k : Nat} {q : Nat × Nat} (h : kd k = some q) (h6 : 6 ≤ q.1) : k ∈ jrows ∧ 1 ≤ q.2 ∧ (q.1 = 6 ∧ k ≠ 13 ∧ k ≠ 15 ∨ q.1 = 7 ∧ (k = 13 ∨ k = 15)) := kdl_6 (k, q) (kd_mem h) h6
theorem jOk_cap {E : jE} {w : jw} {h : jh} {a : Nat} {q : Nat × Nat} (hO : jOk E w h) (hk : jkd E a = some q) (h6 : 6 ≤ q.1) : (w.2.2.2 a).length ≤ h.2.1 a ∧ 1 ≤ h.2.1 a ∧ h.2.1 a ≤ 8192 := by
  obtain ⟨h1, h2, h3, -⟩ := hO
  obtain ⟨g1, g2, -⟩ := h1 a q hk h6
  obtain ⟨-, z1, z2⟩ := kd_row (jkd_kd hk) h6
  refine ⟨g1, by omega, ?_⟩
  obtain ⟨t, n⟩ := q
  rcases z2 with ⟨e, -⟩ | ⟨e, -⟩
  · simp only [] at e; subst e; exact (h2 a n hk).1
  · simp only [] at e; subst e; have := h3 a n hk; omega
theorem jlen {E : jE} {w : jw} {a : Nat} {q : Nat × Nat} (hO : ∃ h, jOk E w h) (hk : jkd E a = some q) (h6 : 6 ≤ q.1) : (w.2.2.2 a).length ≤ 8192 := by
  obtain ⟨h, hO⟩ := hO
  have := jOk_cap hO hk h6
  omega
/-- the world behind a change of one row, its array, its hidden numbers -/
theorem jRel_row {E : jE} {w w1 : jw} {h h1 : jh} {H H1 : Heap} {a : Nat} {q : Nat × Nat} (hR : jRel E w h H) (hO : jOk E w h) (hk : jkd E a = some q) (h6 : 6 ≤ q.1) (ag : ∀ k, k ≠ a → jal w w1 k) (hG : ∀ k, k ≠ a → h1.1 k = h.1 k ∧ h1.2.1 k = h.2.1 k) (hz : H1.size = E.2.2.2 + h1.2.2.1)
    (oq : ∀ x, x < H.size → x ≠ E.2.2.2 + a → x ≠ E.2.2.2 + h.1 a → H1[x]? = H[x]?) (hc : jcell E w1 h1 H1 a q) : jRel E w1 h1 H1 := by
  refine ⟨hz, fun k q' hkq => ?_⟩
  by_cases hkk : k = a
  · subst hkk
    cases hkq.symm.trans hk
    exact hc
  · obtain ⟨o1, -, -, o4, o5, -⟩ := hO
    have na := (o1 a q hk h6).2.2.2
    refine jcell_kept (hR.2 k q' hkq) (ag k hkk) (fun _ => (hG k hkk).1) (fun _ => (hG k hkk).2) (oq _ ?_ (by omega) (fun e => ?_)) (fun h6' => oq _ ?_ (fun e => ?_) (fun e => ?_))
    · rw [hR.1]; have := o5 k q' hkq; omega
    · have e1 : k = h.1 a := by omega
      rw [← e1, hkq] at na
      cases na
    · rw [hR.1]; have := (o1 k q' hkq h6').2.2.1; omega
    · have e1 : h.1 k = a := by omega
      have e2 := (o1 k q' hkq h6').2.2.2
      rw [e1, hk] at e2
      cases e2
    · exact hkk (o4 k a q' q hkq h6' hk h6 (by omega))
theorem nI_lt_of {i : Int32} {L : Nat} (h0 : ¬ i < 0) (h : ¬ nI L ≤ i) (hL : L < 2 ^ 31) : i.toNatClampNeg < L := by
  obtain ⟨j, h1, h2, h3, h4, h5⟩ := pk_mu h0 h hL
  omega
theorem nI_ge_of {i : Int32} {L : Nat} (h0 : ¬ i < 0) (h : nI L ≤ i) (hL : L < 2 ^ 31) : L ≤ i.toNatClampNeg := by
  obtain ⟨j, hj, rfl⟩ := nI_of h0
  rw [nI_clamp hj]
  exact (nI_leI hL hj).mp h
theorem vp_in_of_lt {i : Int32} {n : Nat} (h0 : ¬ i < 0) (h : i.toNatClampNeg < n) : vp_in i n := fun q => q.elim h0 (fun z => by omega)
/-- an instruction, or several, that write nothing, with what is hidden in order -/
theorem jX_goO {E : jE} {M : jm} {k pc pc' : Nat} {ls ls' : List (Nat × Value)} {st st' : List Value} {w w' : jw} {r : Option Value}
    (hs : ∀ (h : jh) (p : Program) (e : Env) (R : Room) (s : State) (m : MethodId) (args : Array Value) (below : List Frame) (meth : Method) (c : Code) (H : Heap) (locs : List Loc) (cells slots : Nat) (lsA : Array Slot) (Q : State → Prop),
      jCx E M p s m args c → jRel E w h H → jOk E w h → lv_has lsA M.2.2.2.1 ls → (∀ lsB : Array Slot, lv_has lsB M.2.2.2.1 ls' → W p E.1 e R s m args below meth c H locs cells slots Q (F0 m pc' lsB st')) → W p E.1 e R s m args below meth c H locs cells slots Q (F0 m pc lsA st))
    (kk : jX E M k pc' ls' st' w r w') : jX E M k pc ls st w r w' := by
  intro h hO
  obtain ⟨h', a1, a2, a3, a4⟩ := kk h hO
  exact ⟨h', a1, a2, a3, fun p e R s m args below meth c H locs cells slots lsA Q b1 b2 b3 b4 b5 b6 b7 b8 b9 =>
    hs h p e R s m args below meth c H locs cells slots lsA Q b1 b2 hO b4 (fun lsB hB => a4 p e R s m args below meth c H locs cells slots lsB Q b1 b2 b3 hB b5 b6 b7 b8 b9)⟩
/-- several instructions that write, what is hidden staying as it is -/
theorem jX_wrO {E : jE} {M : jm} {k pc pc' : Nat} {ls : List (Nat × Value)} {st st' : List Value} {w w1 w' : jw} {r : Option Value} (e : ∀ h, jOk E w h → jOk E w1 h)
    (hs : ∀ (h : jh) (p : Program) (e : Env) (R : Room) (s : State) (m : MethodId) (args : Array Value) (below : List Frame) (meth : Method) (c : Code) (H : Heap) (locs : List Loc) (cells slots : Nat) (lsA : Array Slot) (Q : State → Prop),
      jCx E M p s m args c → jRel E w h H → jOk E w h → jS E s H locs → lv_has lsA M.2.2.2.1 ls → (∀ (H1 : Heap) (locs1 : List Loc), jRel E w1 h H1 → jS E s H1 locs1 → W p E.1 e R s m args below meth c H1 locs1 cells slots Q (F0 m pc' lsA st')) → W p E.1 e R s m args below meth c H locs cells slots Q (F0 m pc lsA st))
    (kk : jX E M k pc' ls st' w1 r w') : jX E M k pc ls st w r w' := by
  intro h hO
  obtain ⟨h', a1, a2, a3, a4⟩ := kk h (e h hO)
  exact ⟨h', a1, a2, a3, fun p e R s m args below meth c H locs cells slots lsA Q b1 b2 b3 b4 b5 b6 b7 b8 b9 =>
    hs h p e R s m args below meth c H locs cells slots lsA Q b1 b2 hO b3 b4 (fun H1 locs1 c1 c2 => a4 p e R s m args below meth c H1 locs1 cells slots lsA Q b1 c1 c2 b4 b5 b6 b7 b8 b9)⟩
theorem jOk_R {E : jE} {w : jw} {h : jh} {a : Nat} {l : List Int32} (hO : jOk E w h) (hl : l.length ≤ (w.2.2.2 a).length) : jOk E (jsetR w a l) h := by
  obtain ⟨h1, h2⟩ := hO
  refine ⟨fun k q hk hq => ?_, h2⟩
  obtain ⟨g1, g2⟩ := h1 k q hk hq
  refine ⟨?_, g2⟩
  by_cases e : k = a
  · subst e; simp only [jsetR, if_pos]; omega
  · simp only [jsetR, if_neg e]; exact g1
set_option maxRecDepth 20000 in
set_option maxHeartbeats 1000000 in
theorem x_row_at {E : jE} {k a : Nat} {q : Nat × Nat} {i : Int32} {w : jw} (hk : jkd E a = some q) (h6 : 6 ≤ q.1) : jX E m_X8_at k 0 [(0, .ref (E.2.2.2 + a)), (1, .int i)] [] w (some (.int (rat (w.2.2.2 a) i))) w := by
  refine jX_ok (fun hex => ?_)
  have hL := jlen hex hk h6
  refine jx_iload_n dX8_at_0 rfl ?_
  refine jx_if_lt (tgt := 21) dX8_at_1 (by decide) (fun c1 => ?_) (fun c1 => ?_)
  · refine jx_iconst (v := 0) dX8_at_21 (by decide) ?_
    exact jx_iret dX8_at_22 (by simp [rat, c1]) rfl
  refine jx_iload_n dX8_at_4 rfl ?_
  refine jx_aload_n dX8_at_5 rfl ?_
  refine jx_getn dX8_at_6 fl_X8_19 hk h6 ?_
  refine jx_icmp_ge (tgt := 21) dX8_at_9 (by decide) (fun c2 => ?_) (fun c2 => ?_)
  · refine jx_iconst (v := 0) dX8_at_21 (by decide) ?_
    refine jx_iret dX8_at_22 ?_ rfl
    have := nI_ge_of c1 c2 (by omega)
    simp [rat, c1, List.getD, List.getElem?_eq_none this]
  have hlt := nI_lt_of c1 c2 (by omega)
  refine jX_goO (pc' := 18) (ls' := [(0, .ref (E.2.2.2 + a)), (1, .int i)]) (st' := [.int (rat (w.2.2.2 a) i)]) (fun h p e R s m args below meth c H locs cells slots lsA Q C hR hO hl kw => ?_) (jx_goto (tgt := 22) dX8_at_18 (by decide) (jx_iret dX8_at_22 rfl rfl))
  have hcap := jOk_cap hO hk h6
  refine lv_aload_n C.1 C.2.1 dX8_at_12 rfl (lv_at hl 0 rfl) ?_
  obtain ⟨hOb, f, hf, hA⟩ := jcell_row (hR.2 a _ hk) h6
  refine jW_get (N := 0) (C0 := (RX8, TX8, 2)) C dX8_at_13 fl_X8_13 rfl hOb ?_
  refine lv_iload_n C.1 C.2.1 dX8_at_16 rfl (lv_at hl 1 rfl) ?_
  have e1 : f i.toNatClampNeg = rat (w.2.2.2 a) i := by
    rw [hf i.toNatClampNeg _ (List.getElem?_eq_getElem hlt)]
    simp [rat, c1, List.getD, List.getElem?_eq_getElem hlt]
  refine W.iald (v := .int (rat (w.2.2.2 a) i)) C.1 C.2.1 hA ((C.2.2.2.2.2.1.2 0 _ rfl).1 _ _) (fun q => by cases q) (by rw [arrV_size]; exact vp_in_of_lt c1 (by omega)) (by rw [arrV_read _ _ (by omega), e1]) rfl rfl dX8_at_17 (kw _ hl)
theorem c_row_at {E : jE} {k a : Nat} {q : Nat × Nat} {i : Int32} {w : jw} (hk : jkd E a = some q) (h6 : 6 ≤ q.1) : jC E m_X8_at k [.ref (E.2.2.2 + a), .int i] w (some (.int (rat (w.2.2.2 a) i))) w :=
  jC_of (by decide) rfl (fun _ => trivial) (Nat.le_of_ble_eq_true rfl) rfl ⟨.int, rfl, rfl⟩ (x_row_at hk h6)
/-- one int of a row's array is written -/
theorem rw_store {p : Program} {e : Env} {R : Room} {s : State} {m : MethodId} {args : Array Value} {below : List Frame} {meth : Method} {c : Code} {H : Heap} {locs : List Loc} {cells slots : Nat} {Q : State → Prop} {E : jE} {M : jm} {pc : Nat} {ls : Array Slot} {rest : List Value} {G n : Nat} {f : Nat → Int32} {i x : Int32} (C : jCx E M p s m args c) (hS : jS E s H locs) (d : decode M.2.2.1 pc = .ok (.iastore, 1)) (hA : H[E.2.2.2 + G]? = some (arrV (E.2.2.1 0) n (fun i => .int (f i)))) (hi : vp_in i n)
    (kk : ∀ (H1 : Heap) (locs1 : List Loc), H1[E.2.2.2 + G]? = some (arrV (E.2.2.1 0) n (fun j => .int (upd f i.toNatClampNeg x j))) → H1.size = H.size → (∀ q, q ≠ E.2.2.2 + G → H1[q]? = H[q]?) → jS E s H1 locs1 → W p E.1 e R s m args below meth c H1 locs1 cells slots Q (F0 m (pc + 1) ls rest)) : W p E.1 e R s m args below meth c H locs cells slots Q (F0 m pc ls (.int x :: .int i :: .ref (E.2.2.2 + G) :: rest)) := by
  refine W.iast C.1 C.2.1 hA ((C.2.2.2.2.2.1.2 0 _ rfl).1 n _) (fun q => by cases q) (by rw [arrV_size]; exact hi) rfl rfl d fun H1 e1 z oq => ?_
  refine kk H1 _ ?_ z oq (hS.put z oq (Nat.le_add_right _ _))
  rw [e1, arrV_store]
  congr 2
  funext q
  by_cases hq : q = i.toNatClampNeg <;> simp [updV, upd, hq]
set_option maxRecDepth 20000 in
set_option maxHeartbeats 1000000 in
theorem x_row_change {E : jE} {k a : Nat} {q : Nat × Nat} {i x : Int32} {w : jw} (hk : jkd E a = some q) (h6 : 6 ≤ q.1) : jX E m_X8_change k 0 [(0, .ref (E.2.2.2 + a)), (1, .int i), (2, .int x)] [] w none (jsetR w a (rset (w.2.2.2 a) i x)) := by
  refine jX_ok (fun hex => ?_)
  have hL := jlen hex hk h6
  have same : ∀ l, l = w.2.2.2 a → jsetR w a l = w := by
    intro l hl
    subst hl
    unfold jsetR
    have : (fun p => if p = a then w.2.2.2 a else w.2.2.2 p) = w.2.2.2 := by funext p; by_cases e : p = a <;> simp [e]
    rw [this]
  refine jx_iload_n dX8_change_0 rfl ?_
  refine jx_if_lt (tgt := 19) dX8_change_1 (by decide) (fun c1 => ?_) (fun c1 => ?_)
  · exact jx_vret dX8_change_19 rfl (same _ (by simp [rset, c1]))
  refine jx_iload_n dX8_change_4 rfl ?_
  refine jx_aload_n dX8_change_5 rfl ?_
  refine jx_getn dX8_change_6 fl_X8_19 hk h6 ?_
  refine jx_icmp_ge (tgt := 19) dX8_change_9 (by decide) (fun c2 => ?_) (fun c2 => ?_)
  · refine jx_vret dX8_change_19 rfl (same _ ?_)
    have := nI_ge_of c1 c2 (by omega)
    simp [rset, c1, List.set_eq_of_length_le this]
  have hlt := nI_lt_of c1 c2 (by omega)
  refine jX_wrO (pc' := 19) (st' := []) (w1 := jsetR w a (rset (w.2.2.2 a) i x)) (fun h hO => jOk_R hO (by unfold rset; split <;> simp)) (fun h p e R s m args below meth c H locs cells slots lsA Q C hR hO hS hl kw => ?_) (jx_vret dX8_change_19 rfl rfl)
  have hcap := jOk_cap hO hk h6
  refine lv_aload_n C.1 C.2.1 dX8_change_12 rfl (lv_at hl 0 rfl) ?_
  obtain ⟨hOb, f, hf, hA⟩ := jcell_row (hR.2 a _ hk) h6
  refine jW_get (N := 0) (C0 := (RX8, TX8, 2)) C dX8_change_13 fl_X8_13 rfl hOb ?_
  refine lv_iload_n C.1 C.2.1 dX8_change_16 rfl (lv_at hl 1 rfl) ?_
  refine lv_iload_n C.1 C.2.1 dX8_change_17 rfl (lv_at hl 2 rfl) ?_
  refine rw_store (n := h.2.1 a) C hS dX8_change_18 hA (vp_in_of_lt c1 (by omega)) (fun H1 locs1 g1 g2 g3 g4 => ?_)
  have na : h.1 a ≠ a := fun z => by
    have := (hO.1 a q hk h6).2.2.2
    rw [z, hk] at this
    cases this
  refine kw H1 locs1 (jRel_row hR hO hk h6 (fun k hk => jal_R hk) (fun k _ => ⟨rfl, rfl⟩) (by rw [g2]; exact hR.1) (fun x _ _ hx => g3 x hx) (jcell_of_row h6 ⟨?_, _, ?_, g1⟩)) g4
  · have e1 : jrv E.2.2.2 (jsetR w a (rset (w.2.2.2 a) i x)) h a = jrv E.2.2.2 w h a := by
      funext j
      simp [jrv, jsetR, rset, c1]
    rw [e1]
    exact hOb.kept (g3 _ (by omega))
  · intro j v hj
    simp only [jsetR, if_pos, rset, if_neg c1] at hj
    rw [List.getElem?_set] at hj
    by_cases e2 : j = i.toNatClampNeg
    · subst e2
      rw [if_pos rfl, if_pos hlt] at hj
      cases hj
      simp [upd]
    · rw [if_neg (fun z => e2 z.symm)] at hj
      simp only [upd, if_neg e2]
      exact hf j v hj
theorem c_row_change {E : jE} {k a : Nat} {q : Nat × Nat} {i x : Int32} {w : jw} (hk : jkd E a = some q) (h6 : 6 ≤ q.1) : jC E m_X8_change k [.ref (E.2.2.2 + a), .int i, .int x] w none (jsetR w a (rset (w.2.2.2 a) i x)) :=
  jC_of (by decide) rfl (fun _ => trivial) (Nat.le_of_ble_eq_true rfl) rfl rfl (x_row_change hk h6)
set_option maxRecDepth 20000 in
set_option maxHeartbeats 1000000 in
theorem x_row_shorten {E : jE} {k a : Nat} {q : Nat × Nat} {i : Int32} {w : jw} (hk : jkd E a = some q) (h6 : 6 ≤ q.1) : jX E m_X8_shorten k 0 [(0, .ref (E.2.2.2 + a)), (1, .int i)] [] w none (jsetR w a (rcut (w.2.2.2 a) i)) := by
  refine jX_ok (fun hex => ?_)
  have hL := jlen hex hk h6
  have same : ∀ l, l = w.2.2.2 a → jsetR w a l = w := by
    intro l hl
    subst hl
    unfold jsetR
    have : (fun p => if p = a then w.2.2.2 a else w.2.2.2 p) = w.2.2.2 := by funext p; by_cases e : p = a <;> simp [e]
    rw [this]
  refine jx_iload_n dX8_shorten_0 rfl ?_
  refine jx_if_lt (tgt := 17) dX8_shorten_1 (by decide) (fun c1 => ?_) (fun c1 => ?_)
  · exact jx_vret dX8_shorten_17 rfl (same _ (by simp [rcut, c1]))
  refine jx_iload_n dX8_shorten_4 rfl ?_
  refine jx_aload_n dX8_shorten_5 rfl ?_
  refine jx_getn dX8_shorten_6 fl_X8_19 hk h6 ?_
  refine jx_icmp_ge (tgt := 17) dX8_shorten_9 (by decide) (fun c2 => ?_) (fun c2 => ?_)
  · refine jx_vret dX8_shorten_17 rfl (same _ ?_)
    have := nI_ge_of c1 c2 (by omega)
    simp [rcut, c1, List.take_of_length_le this]
  have hlt := nI_lt_of c1 c2 (by omega)
  have hi : i = nI i.toNatClampNeg := by
    obtain ⟨j, hj, rfl⟩ := nI_of c1
    rw [nI_clamp hj]
  refine jX_wrO (pc' := 17) (st' := []) (w1 := jsetR w a (rcut (w.2.2.2 a) i)) (fun h hO => jOk_R hO (by unfold rcut; split <;> simp [List.length_take]; omega)) (fun h p e R s m args below meth c H locs cells slots lsA Q C hR hO hS hl kw => ?_) (jx_vret dX8_shorten_17 rfl rfl)
  refine lv_aload_n C.1 C.2.1 dX8_shorten_12 rfl (lv_at hl 0 rfl) ?_
  obtain ⟨hOb, f, hf, hA⟩ := jcell_row (hR.2 a _ hk) h6
  refine lv_iload_n C.1 C.2.1 dX8_shorten_13 rfl (lv_at hl 1 rfl) ?_
  refine jW_put (N := 0) (C0 := (RX8, TX8, 2)) C hS (Nat.le_add_right _ _) dX8_shorten_14 fp_X8_19 rfl hOb rfl rfl (fun H1 locs1 g1 g2 g3 g4 => ?_)
  have na : h.1 a ≠ a := fun z => by
    have := (hO.1 a q hk h6).2.2.2
    rw [z, hk] at this
    cases this
  refine kw H1 locs1 (jRel_row hR hO hk h6 (fun k hk => jal_R hk) (fun k _ => ⟨rfl, rfl⟩) (by rw [g2]; exact hR.1) (fun x _ hx _ => g3 x hx) (jcell_of_row h6 ⟨?_, f, ?_, by rw [g3 _ (by omega)]; exact hA⟩)) g4
  · refine g1.to (fun j hj => ?_)
    have e1 : (rcut (w.2.2.2 a) i).length = i.toNatClampNeg := by simp [rcut, c1]; omega
    have hj : j < 2 := hj
    rcases (show j = 0 ∨ j = 1 by omega) with rfl | rfl
    · simp [updV, jrv]
    · simp only [updV, jrv, jsetR, if_pos, e1]
      rw [← hi]
      rfl
  · intro j v hj
    simp only [jsetR, if_pos, rcut, if_neg c1] at hj
    rw [List.getElem?_take] at hj
    split at hj
    · exact hf j v hj
    · cases hj
theorem c_row_shorten {E : jE} {k a : Nat} {q : Nat × Nat} {i : Int32} {w : jw} (hk : jkd E a = some q) (h6 : 6 ≤ q.1) : jC E m_X8_shorten k [.ref (E.2.2.2 + a), .int i] w none (jsetR w a (rcut (w.2.2.2 a) i)) :=
  jC_of (by decide) rfl (fun _ => trivial) (Nat.le_of_ble_eq_true rfl) rfl rfl (x_row_shorten hk h6)
