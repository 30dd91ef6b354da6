/-! The made world: fields of ints, arrays, rows; beside it what is hidden: each row's array and its room, how many cells and slots were made. -/
abbrev jw : Type := (Nat → Nat → Int32) × (Nat → Nat → Int32) × (Nat → Nat → Int64) × (Nat → List Int32)
abbrev jh : Type := (Nat → Nat) × (Nat → Nat) × Nat × Nat
/-- what a run keeps to: the launch, the numbers of kinds and slots, of array kinds, the first made address -/
abbrev jE : Type := Launch × va_G × (Nat → ClassId) × Nat
/-- a method: owner, name, bytes, places, answer, what else is known at its entry -/
abbrev jm : Type := String × MethodName × ByteArray × Nat × Option FieldType × (Nat → State → Prop)
def jtbl : List Cond := lw_tbl.filter goodWord
theorem jtbl_in : ∀ w ∈ jtbl, w ∈ lw_tbl := fun w h => (List.mem_filter.mp h).1
theorem jtbl_good : ∀ w ∈ jtbl, goodWord w = true := fun w h => (List.mem_filter.mp h).2
theorem jt {n : Nat} {w : Cond} (h : lw_tbl[n]? = some w) (g : goodWord w = true) : w ∈ jtbl := List.mem_filter.mpr ⟨List.mem_of_getElem? h, g⟩
theorem jts (ps : List Nat) {ws : List Cond} (h : ws = ps.filterMap (fun i => lw_tbl[i]?)) (g : ws.all goodWord = true) : ∀ w ∈ ws, w ∈ jtbl := by
  intro w hw
  have h1 := List.all_eq_true.mp g w hw
  rw [h] at hw
  obtain ⟨i, -, hi⟩ := List.mem_filterMap.mp hw
  exact jt hi h1
def jtys (A : Nat → ClassId) : List (ClassId × FieldType) := [(A 0, .int), (A 1, .byte), (A 2, .long), (A 3, .boolean), (A 4, .object RX9)]
def jK (E : jE) (U : State) : Prop := va_K E.2.1 jcl (jtys E.2.2.1) U
def jv (B : Nat) (w : jw) (k j : Nat) : Value := match sref k j with
  | some r => .ref (B + r)
  | none => .int (w.1 k j)
theorem jv_r {B : Nat} {w : jw} {k j r : Nat} (h : sref k j = some r) : jv B w k j = .ref (B + r) := by unfold jv; rw [h]
theorem jv_i {B : Nat} {w : jw} {k j : Nat} (h : sref k j = none) : jv B w k j = .int (w.1 k j) := by unfold jv; rw [h]
def jrv (B : Nat) (w : jw) (h : jh) (k : Nat) : Nat → Value := fun j => if j = 0 then .ref (B + h.1 k) else .int (nI (w.2.2.2 k).length)
def jcell (E : jE) (w : jw) (h : jh) (H : Heap) (k : Nat) (q : Nat × Nat) : Prop :=
  match q.1 with
  | 0 => ∃ C : vw_C, jcl[q.2]? = some C ∧ t_OB (E.2.2.2 + k) (E.2.1.1 q.2) C.2.2 (E.2.1.2 q.2) H (jv E.2.2.2 w k)
  | 1 => H[E.2.2.2 + k]? = some (arrV (E.2.2.1 0) q.2 (fun i => .int (w.2.1 k i)))
  | 2 => H[E.2.2.2 + k]? = some (arrV (E.2.2.1 1) q.2 (fun i => .int (w.2.1 k i)))
  | 3 => H[E.2.2.2 + k]? = some (arrV (E.2.2.1 3) q.2 (fun i => .int (w.2.1 k i)))
  | 4 => H[E.2.2.2 + k]? = some (arrV (E.2.2.1 2) q.2 (fun i => .long (w.2.2.1 k i)))
  | 5 => H[E.2.2.2 + k]? = some (arrV (E.2.2.1 4) q.2 (fun i => .ref (E.2.2.2 + (69 + 31 * i))))
  | _ => t_OB (E.2.2.2 + k) (E.2.1.1 8) 2 (E.2.1.2 8) H (jrv E.2.2.2 w h k) ∧ ∃ f : Nat → Int32, (∀ (i : Nat) (v : Int32), (w.2.2.2 k)[i]? = some v → f i = v) ∧ H[E.2.2.2 + h.1 k]? = some (arrV (E.2.2.1 0) (h.2.1 k) (fun i => .int (f i)))
/-- all cells are made; before that the model's are not there -/
def jfull (E : jE) : Prop := E.2.2.1 999 = 0
def jkd (E : jE) (k : Nat) : Option (Nat × Nat) := if k < 162 ∨ E.2.2.1 999 = 0 then kd k else none
theorem jkd_kd {E : jE} {k : Nat} {q : Nat × Nat} (h : jkd E k = some q) : kd k = some q := by
  unfold jkd at h
  split at h
  · exact h
  · cases h
theorem jkd_lo {E : jE} {k : Nat} {q : Nat × Nat} (hk : k < 162) (h : kd k = some q) : jkd E k = some q := by unfold jkd; rw [if_pos (Or.inl hk)]; exact h
theorem jkd_hi {E : jE} {k : Nat} {q : Nat × Nat} (hE : jfull E) (h : kd k = some q) : jkd E k = some q := by unfold jkd; rw [if_pos (Or.inr (show E.2.2.1 999 = 0 from hE))]; exact h
def jRel (E : jE) (w : jw) (h : jh) (H : Heap) : Prop := H.size = E.2.2.2 + h.2.2.1 ∧ ∀ (k : Nat) (q : Nat × Nat), jkd E k = some q → jcell E w h H k q
def jsum (P : Nat → Nat) : Nat := (jrows.map P).sum
def jT (P : Nat → Nat) (k : Nat) : Nat := if k = 13 ∨ k = 15 then P k * (P k + 1) / 2 else 2 * P k
def jsumT (P : Nat → Nat) : Nat := (jrows.map (jT P)).sum
/-- what is hidden when the class's cells have just been made -/
def jh0 : jh := (fun k => k + 1, fun k => match kd k with
  | some q => q.2
  | none => 0, 162, 3875)
def jOk (E : jE) (w : jw) (h : jh) : Prop :=
  (∀ (k : Nat) (q : Nat × Nat), jkd E k = some q → 6 ≤ q.1 → (w.2.2.2 k).length ≤ h.2.1 k ∧ q.2 ≤ h.2.1 k ∧ h.1 k < h.2.2.1 ∧ jkd E (h.1 k) = none) ∧
  (∀ (k n : Nat), jkd E k = some (6, n) → h.2.1 k ≤ 8192 ∧ ∃ i : Nat, h.2.1 k = n * 2 ^ i) ∧
  (∀ (k n : Nat), jkd E k = some (7, n) → h.2.1 k ≤ 1024) ∧
  (∀ (k k' : Nat) (q q' : Nat × Nat), jkd E k = some q → 6 ≤ q.1 → jkd E k' = some q' → 6 ≤ q'.1 → h.1 k = h.1 k' → k = k') ∧
  (∀ (k : Nat) (q : Nat × Nat), jkd E k = some q → k < h.2.2.1) ∧
  h.2.2.1 ≤ 193 + jsum h.2.1 ∧ h.2.2.2 ≤ 300000 + jsumT h.2.1 ∧ (¬ jfull E → h = jh0)
theorem jOk_same {E : jE} {w w1 : jw} {h : jh} (hO : jOk E w h) (e : ∀ k, (w1.2.2.2 k).length = (w.2.2.2 k).length) : jOk E w1 h := by
  obtain ⟨h1, h2⟩ := hO
  exact ⟨fun k q hk hq => by rw [e k]; exact h1 k q hk hq, h2⟩
/-- two worlds that are alike at a place -/
def jal (w w1 : jw) (k : Nat) : Prop := w1.1 k = w.1 k ∧ w1.2.1 k = w.2.1 k ∧ w1.2.2.1 k = w.2.2.1 k ∧ w1.2.2.2 k = w.2.2.2 k
theorem jv_al {B : Nat} {w w1 : jw} {k : Nat} (h : jal w w1 k) : jv B w1 k = jv B w k := by
  funext j
  unfold jv
  rw [h.1]
theorem jcell_kept {E : jE} {w w1 : jw} {h h1 : jh} {H H1 : Heap} {k : Nat} {q : Nat × Nat} (hc : jcell E w h H k q) (ag : jal w w1 k) (g1 : 6 ≤ q.1 → h1.1 k = h.1 k) (g2 : 6 ≤ q.1 → h1.2.1 k = h.2.1 k) (e1 : H1[E.2.2.2 + k]? = H[E.2.2.2 + k]?) (e2 : 6 ≤ q.1 → H1[E.2.2.2 + h.1 k]? = H[E.2.2.2 + h.1 k]?) : jcell E w1 h1 H1 k q := by
  obtain ⟨t, n⟩ := q
  obtain ⟨a1, a2, a3, a4⟩ := id ag
  match t, hc, g1, g2, e2 with
  | 0, hc, _, _, _ =>
    obtain ⟨C, hC, hO⟩ := hc
    exact ⟨C, hC, by rw [jv_al ag]; exact hO.kept e1⟩
  | 1, hc, _, _, _ => show _ = _; rw [e1, a2]; exact hc
  | 2, hc, _, _, _ => show _ = _; rw [e1, a2]; exact hc
  | 3, hc, _, _, _ => show _ = _; rw [e1, a2]; exact hc
  | 4, hc, _, _, _ => show _ = _; rw [e1, a3]; exact hc
  | 5, hc, _, _, _ => show _ = _; rw [e1]; exact hc
  | t + 6, hc, g1, g2, e2 =>
    have z : 6 ≤ t + 6 := by omega
    obtain ⟨hO, f, hf, hA⟩ := hc
    refine ⟨?_, f, fun i v hv => hf i v (by rw [← a4]; exact hv), ?_⟩
    · have : jrv E.2.2.2 w1 h1 k = jrv E.2.2.2 w h k := by unfold jrv; rw [g1 z, a4]
      rw [this]
      exact hO.kept e1
    · rw [g1 z, g2 z, e2 z]; exact hA
theorem jRel_set {E : jE} {w w1 : jw} {h : jh} {H H1 : Heap} {k0 : Nat} {q0 : Nat × Nat} (hR : jRel E w h H) (hO : jOk E w h) (hk : jkd E k0 = some q0) (ag : ∀ k, k ≠ k0 → jal w w1 k) (z : H1.size = H.size) (oq : ∀ q, q ≠ E.2.2.2 + k0 → H1[q]? = H[q]?) (hc : jcell E w1 h H1 k0 q0) : jRel E w1 h H1 := by
  refine ⟨by rw [z]; exact hR.1, fun k q hkq => ?_⟩
  by_cases hkk : k = k0
  · subst hkk
    cases hkq.symm.trans hk
    exact hc
  · refine jcell_kept (hR.2 k q hkq) (ag k hkk) (fun _ => rfl) (fun _ => rfl) (oq _ (by omega)) (fun h6 => oq _ (fun e => ?_))
    have e1 : h.1 k = k0 := by omega
    have e2 := (hO.1 k q hkq h6).2.2.2
    rw [e1, hk] at e2
    cases e2
/-- what is known all through a method's body -/
def jCx (E : jE) (M : jm) (p : Program) (s : State) (m : MethodId) (args : Array Value) (c : Code) : Prop :=
  p.tables.exec = Jvm.exec ∧ c.code = M.2.2.1 ∧ c.maxLocals = M.2.2.2.1 ∧ s.vm.findClass M.1 = some m.cls ∧ (∀ w ∈ jtbl, w.before args s = true) ∧ jK E s ∧ E.2.2.2 ≤ s.heap.size ∧ M.2.2.2.2.2 E.2.2.2 s
def jS (E : jE) (s : State) (H : Heap) (locs : List Loc) : Prop := va_S (fun q : Nat => E.2.2.2 ≤ q) s.heap H locs
/-- a frame that is about to answer -/
def jRet (code : ByteArray) (r : Option Value) (pc : Nat) (st : List Value) : Prop := match r with
  | none => decode code pc = .ok (.return_, 1) ∧ st = []
  | some (.int v) => decode code pc = .ok (.ireturn, 1) ∧ st = [.int v]
  | some (.long v) => decode code pc = .ok (.lreturn, 1) ∧ st = [.long v]
  | _ => False
/-- from this place of a method's body, with these places, this stack and this world, it answers r and leaves the world w'; k levels of calls are enough -/
def jX (E : jE) (M : jm) (k pc : Nat) (ls : List (Nat × Value)) (st : List Value) (w : jw) (r : Option Value) (w' : jw) : Prop :=
  ∀ h : jh, jOk E w h → ∃ h' : jh, jOk E w' h' ∧ h.2.2.1 ≤ h'.2.2.1 ∧ h.2.2.2 ≤ h'.2.2.2 ∧
    ∀ (p : Program) (e : Env) (R : Room) (s : State) (m : MethodId) (args : Array Value) (below : List Frame) (meth : Method) (c : Code) (H : Heap) (locs : List Loc) (cells slots : Nat) (lsA : Array Slot) (Q : State → Prop),
      jCx E M p s m args c → jRel E w h H → jS E s H locs → lv_has lsA M.2.2.2.1 ls → k ≤ R.frames → 40 * k ≤ R.locals →
      cells + (h'.2.2.1 - h.2.2.1) ≤ R.cells → slots + (h'.2.2.2 - h.2.2.2) ≤ R.slots →
      (∀ (H1 : Heap) (locs1 : List Loc) (pc1 : Nat) (lsA1 : Array Slot) (st1 : List Value), jRet M.2.2.1 r pc1 st1 → jRel E w' h' H1 → jS E s H1 locs1 →
        W p E.1 e R s m args below meth c H1 locs1 (cells + (h'.2.2.1 - h.2.2.1)) (slots + (h'.2.2.2 - h.2.2.2)) Q (F0 m pc1 lsA1 st1)) →
      W p E.1 e R s m args below meth c H locs cells slots Q (F0 m pc lsA st)
/-- an instruction that writes nothing -/
theorem jX_go {E : jE} {M : jm} {k pc pc' : Nat} {ls ls' : List (Nat × Value)} {st st' : List Value} {w w' : jw} {r : Option Value}
    (hs : ∀ (h : jh) (p : Program) (e : Env) (R : Room) (s : State) (m : MethodId) (args : Array Value) (below : List Frame) (meth : Method) (c : Code) (H : Heap) (locs : List Loc) (cells slots : Nat) (lsA : Array Slot) (Q : State → Prop),
      jCx E M p s m args c → jRel E w h H → lv_has lsA M.2.2.2.1 ls → (∀ lsB : Array Slot, lv_has lsB M.2.2.2.1 ls' → W p E.1 e R s m args below meth c H locs cells slots Q (F0 m pc' lsB st')) → W p E.1 e R s m args below meth c H locs cells slots Q (F0 m pc lsA st))
    (kk : jX E M k pc' ls' st' w r w') : jX E M k pc ls st w r w' := by
  intro h hO
  obtain ⟨h', a1, a2, a3, a4⟩ := kk h hO
  exact ⟨h', a1, a2, a3, fun p e R s m args below meth c H locs cells slots lsA Q b1 b2 b3 b4 b5 b6 b7 b8 b9 =>
    hs h p e R s m args below meth c H locs cells slots lsA Q b1 b2 b4 (fun lsB hB => a4 p e R s m args below meth c H locs cells slots lsB Q b1 b2 b3 hB b5 b6 b7 b8 b9)⟩
/-- an instruction that writes a cell of the world -/
theorem jX_wr {E : jE} {M : jm} {k pc pc' : Nat} {ls : List (Nat × Value)} {st st' : List Value} {w w1 w' : jw} {r : Option Value} (e : ∀ k, (w1.2.2.2 k).length = (w.2.2.2 k).length)
    (hs : ∀ (h : jh) (p : Program) (e : Env) (R : Room) (s : State) (m : MethodId) (args : Array Value) (below : List Frame) (meth : Method) (c : Code) (H : Heap) (locs : List Loc) (cells slots : Nat) (lsA : Array Slot) (Q : State → Prop),
      jCx E M p s m args c → jRel E w h H → jOk E w h → jS E s H locs → (∀ (H1 : Heap) (locs1 : List Loc), jRel E w1 h H1 → jS E s H1 locs1 → W p E.1 e R s m args below meth c H1 locs1 cells slots Q (F0 m pc' lsA st')) → W p E.1 e R s m args below meth c H locs cells slots Q (F0 m pc lsA st))
    (kk : jX E M k pc' ls st' w1 r w') : jX E M k pc ls st w r w' := by
  intro h hO
  obtain ⟨h', a1, a2, a3, a4⟩ := kk h (jOk_same hO e)
  exact ⟨h', a1, a2, a3, fun p e R s m args below meth c H locs cells slots lsA Q b1 b2 b3 b4 b5 b6 b7 b8 b9 =>
    hs h p e R s m args below meth c H locs cells slots lsA Q b1 b2 hO b3 (fun H1 locs1 c1 c2 => a4 p e R s m args below meth c H1 locs1 cells slots lsA Q b1 c1 c2 b4 b5 b6 b7 b8 b9)⟩
