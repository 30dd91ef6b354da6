/-! Row.add -/
def upN (f : Nat → Nat) (a v : Nat) : Nat → Nat := fun k => if k = a then v else f k
theorem upN_s {f : Nat → Nat} {a v : Nat} : upN f a v a = v := by simp [upN]
theorem upN_n {f : Nat → Nat} {a v k : Nat} (h : k ≠ a) : upN f a v k = f k := by simp [upN, h]
theorem sum_up {F G : Nat → Nat} {a : Nat} (hne : ∀ k, k ≠ a → G k = F k) : ∀ {l : List Nat}, l.Nodup → a ∈ l → (l.map G).sum + F a = (l.map F).sum + G a
  | [], _, h => by cases h
  | b :: l, hnd, h => by
    obtain ⟨n1, n2⟩ := List.nodup_cons.mp hnd
    by_cases e : b = a
    · subst e
      have : l.map G = l.map F := List.map_congr_left (fun k hk => hne k (fun z => n1 (z ▸ hk)))
      simp only [List.map_cons, List.sum_cons, this]
      omega
    · have ih := sum_up hne n2 ((List.mem_cons.mp h).resolve_left (fun z => e z.symm))
      simp only [List.map_cons, List.sum_cons, hne b e]
      omega
theorem jT_n {P : Nat → Nat} {a v k : Nat} (h : k ≠ a) : jT (upN P a v) k = jT P k := by simp [jT, upN_n h]
theorem jOk_R2 {E : jE} {w : jw} {h : jh} {a : Nat} {l : List Int32} (hO : jOk E w h) (hl : l.length ≤ h.2.1 a) : jOk E (jsetR w a l) h := by
  obtain ⟨h1, h2⟩ := hO
  refine ⟨fun k q hk hq => ?_, h2⟩
  obtain ⟨g1, g2⟩ := h1 k q hk hq
  refine ⟨?_, g2⟩
  by_cases e : k = a
  · subst e; simp only [jsetR, if_pos]; omega
  · simp only [jsetR, if_neg e]; exact g1
/-- a row gets a longer array, at the next free place -/
theorem jOk_grow {E : jE} {w : jw} {h : jh} {a v : Nat} {q : Nat × Nat} {l : List Int32} (hE : jfull E) (hO : jOk E w h) (hk : jkd E a = some q) (h6 : 6 ≤ q.1) (hv : h.2.1 a < v) (c6 : q.1 = 6 → v ≤ 8192 ∧ ∃ i : Nat, v = q.2 * 2 ^ i) (c7 : q.1 = 7 → v ≤ 1024) (hT : jT h.2.1 a + v ≤ jT (upN h.2.1 a v) a) (hl : l.length ≤ v) :
    jOk E (jsetR w a l) (upN h.1 a h.2.2.1, upN h.2.1 a v, h.2.2.1 + 1, h.2.2.2 + v) := by
  obtain ⟨o1, o2, o3, o4, o5, o6, o7, o8⟩ := hO
  obtain ⟨r1, r2, r3⟩ := kd_row (jkd_kd hk) h6
  have nn : jkd E h.2.2.1 = none := by
    cases hz : jkd E h.2.2.1 with
    | none => rfl
    | some z => have := o5 _ _ hz; omega
  refine ⟨fun k q' hk' hq' => ?_, fun k n hkn => ?_, fun k n hkn => ?_, fun k k' q1 q2 e1 e2 e3 e4 e5 => ?_, fun k q' hk' => ?_, ?_, ?_, fun z => absurd hE z⟩
  · by_cases e : k = a
    · subst e
      cases hk.symm.trans hk'
      have := (o1 k q hk h6).2.1
      refine ⟨by simp only [jsetR, if_pos, upN_s]; exact hl, by simp only [upN_s]; omega, by simp only [upN_s]; omega, by simp only [upN_s]; exact nn⟩
    · obtain ⟨g1, g2, g3, g4⟩ := o1 k q' hk' hq'
      exact ⟨by simp only [jsetR, if_neg e, upN_n e]; exact g1, by simp only [upN_n e]; exact g2, by simp only [upN_n e]; omega, by simp only [upN_n e]; exact g4⟩
  · by_cases e : k = a
    · subst e
      cases hk.symm.trans hkn
      simp only [upN_s]
      exact c6 rfl
    · simp only [upN_n e]
      exact o2 k n hkn
  · by_cases e : k = a
    · subst e
      cases hk.symm.trans hkn
      simp only [upN_s]
      exact c7 rfl
    · simp only [upN_n e]
      exact o3 k n hkn
  · by_cases ea : k = a
    · by_cases eb : k' = a
      · rw [ea, eb]
      · simp only [ea, upN_s, upN_n eb] at e5
        have := (o1 k' q2 e3 e4).2.2.1
        omega
    · by_cases eb : k' = a
      · simp only [eb, upN_s, upN_n ea] at e5
        have := (o1 k q1 e1 e2).2.2.1
        omega
      · simp only [upN_n ea, upN_n eb] at e5
        exact o4 k k' q1 q2 e1 e2 e3 e4 e5
  · have := o5 k q' hk'
    show k < h.2.2.1 + 1
    omega
  · have := sum_up (F := h.2.1) (G := upN h.2.1 a v) (fun k hk => upN_n hk) jrows_nd r1
    simp only [upN_s] at this
    show h.2.2.1 + 1 ≤ 193 + jsum (upN h.2.1 a v)
    unfold jsum at o6 ⊢
    omega
  · have := sum_up (F := jT h.2.1) (G := jT (upN h.2.1 a v)) (fun k hk => jT_n hk) jrows_nd r1
    show h.2.2.2 + v ≤ 300000 + jsumT (upN h.2.1 a v)
    unfold jsumT at o7 ⊢
    omega
section RT
variable {p : Program} {e : Env} {R : Room} {s : State} {m : MethodId} {args : Array Value} {below : List Frame} {meth : Method} {c : Code} {H : Heap} {locs : List Loc} {cells slots : Nat} {Q : State → Prop} {E : jE} {lsA : Array Slot}
def rv2 (B g L : Nat) : Nat → Value := fun j => if j = 0 then .ref (B + g) else .int (nI L)
set_option maxRecDepth 20000 in
set_option maxHeartbeats 1000000 in
theorem rw_tail {a g L P : Nat} {f : Nat → Int32} {x : Int32} (C : jCx E m_X8_add p s m args c) (hS : jS E s H locs) (hl : lv_has lsA 2 [(0, .ref (E.2.2.2 + a)), (1, .int x)]) (hOb : t_OB (E.2.2.2 + a) (E.2.1.1 8) 2 (E.2.1.2 8) H (rv2 E.2.2.2 g L)) (hA : H[E.2.2.2 + g]? = some (arrV (E.2.2.1 0) P (fun i => .int (f i)))) (hag : a ≠ g) (hL : L < P) (hP : P < 2 ^ 30)
    (kk : ∀ (H1 : Heap) (locs1 : List Loc), t_OB (E.2.2.2 + a) (E.2.1.1 8) 2 (E.2.1.2 8) H1 (rv2 E.2.2.2 g (L + 1)) → H1[E.2.2.2 + g]? = some (arrV (E.2.2.1 0) P (fun i => .int (upd f L x i))) → H1.size = H.size → (∀ q, q ≠ E.2.2.2 + a → q ≠ E.2.2.2 + g → H1[q]? = H[q]?) → jS E s H1 locs1 → W p E.1 e R s m args below meth c H1 locs1 cells slots Q (F0 m 59 lsA [])) :
    W p E.1 e R s m args below meth c H locs cells slots Q (F0 m 39 lsA []) := by
  refine lv_aload_n C.1 C.2.1 dX8_add_39 rfl (lv_at hl 0 rfl) ?_
  refine jW_get (N := 0) (C0 := (RX8, TX8, 2)) C dX8_add_40 fl_X8_13 rfl hOb ?_
  refine lv_aload_n C.1 C.2.1 dX8_add_43 rfl (lv_at hl 0 rfl) ?_
  refine jW_get (N := 0) (C0 := (RX8, TX8, 2)) C dX8_add_44 fl_X8_19 rfl hOb ?_
  refine lv_iload_n C.1 C.2.1 dX8_add_47 rfl (lv_at hl 1 rfl) ?_
  refine rw_store (G := g) (n := P) (i := nI L) C hS dX8_add_48 hA (vp_in_nI hL (by omega)) (fun H1 locs1 g1 g2 g3 g4 => ?_)
  rw [nI_clamp (by omega)] at g1
  have hOb1 := hOb.kept (g3 (E.2.2.2 + a) (by omega))
  refine lv_aload_n C.1 C.2.1 dX8_add_49 rfl (lv_at hl 0 rfl) ?_
  refine lv_dup C.1 C.2.1 dX8_add_50 rfl ?_
  refine jW_get (N := 0) (C0 := (RX8, TX8, 2)) C dX8_add_51 fl_X8_19 rfl hOb1 ?_
  refine lv_iconst (v := 1) C.1 C.2.1 dX8_add_54 (by decide) ?_
  refine lv_iadd (x := nI L) (y := 1) C.1 C.2.1 dX8_add_55 ?_
  refine jW_put (N := 0) (C0 := (RX8, TX8, 2)) (v := .int (nI L + 1)) C g4 (Nat.le_add_right _ _) dX8_add_56 fp_X8_19 rfl hOb1 rfl rfl (fun H2 locs2 k1 k2 k3 k4 => ?_)
  refine kk H2 locs2 (k1.to (fun j hj => ?_)) (by rw [k3 _ (by omega)]; exact g1) (by rw [k2, g2]) (fun q h1 h2 => by rw [k3 q h1, g3 q h2]) k4
  have hj : j < 2 := hj
  rcases (show j = 0 ∨ j = 1 by omega) with rfl | rfl
  · simp [updV, rv2]
  · simp [updV, rv2, nI_1]
end RT
theorem t_OB_eq {o : Nat} {cC : ClassId} {N : Nat} {iS : Nat → Nat} {H : Heap} {V V' : Nat → Value} (h : t_OB o cC N iS H V) (hv : V = V') : t_OB o cC N iS H V' := hv ▸ h
theorem tw_co : Cond.methodLink RX8 24 yJ7_copyOf ∈ jtbl := jt (n := 517) (by decide +kernel) rfl
theorem tw_cos : Cond.static yJ7_copyOf ∈ jtbl := jt (n := 518) (by decide +kernel) rfl
theorem tw_coc : Cond.code yJ7_copyOf cJ7_copyOf 3 (some (.array .int)) ∈ jtbl := jt (n := 519) (by decide +kernel) (by decide +kernel)
theorem tw_coi : Cond.initialized RJ7 ∈ jtbl := jt (n := 121) (by decide +kernel) rfl
set_option maxRecDepth 20000 in
set_option maxHeartbeats 4000000 in
theorem x_row_add {E : jE} {a n0 : Nat} {x : Int32} {w : jw} (hk : jkd E a = some (6, n0)) (hlen : (w.2.2.2 a).length ≤ 4096) (hg : jfull E ∨ (w.2.2.2 a).length < n0) : jX E m_X8_add 2 0 [(0, .ref (E.2.2.2 + a)), (1, .int x)] [] w none (jsetR w a (w.2.2.2 a ++ [x])) := by
  have h6 : 6 ≤ (6, n0).1 := Nat.le_refl _
  refine jx_aload_n dX8_add_0 rfl ?_
  refine jx_getn dX8_add_1 fl_X8_19 hk h6 ?_
  refine jx_ldc dX8_add_4 kc_X8_23 ?_
  refine jx_icmp_lt (tgt := 10) dX8_add_6 (by decide) (fun _ => ?_) (fun c1 => absurd (nI_lt (b := 1048576) (by omega) (by decide)) c1)
  intro h hO
  have hcap := jOk_cap hO hk h6
  obtain ⟨z1, z2, z3⟩ := kd_row (jkd_kd hk) h6
  have hne : a ≠ 13 ∧ a ≠ 15 := by rcases z3 with z | z; exact z.2; exact absurd z.1 (by simp)
  have na : h.1 a ≠ a := fun z => by
    have := (hO.1 a _ hk h6).2.2.2
    rw [z, hk] at this
    cases this
  have erv : jrv E.2.2.2 w h a = rv2 E.2.2.2 (h.1 a) (w.2.2.2 a).length := rfl
  have fin : ∀ (f : Nat → Int32), (∀ (i : Nat) (v : Int32), (w.2.2.2 a)[i]? = some v → f i = v) → ∀ (i : Nat) (v : Int32), ((jsetR w a (w.2.2.2 a ++ [x])).2.2.2 a)[i]? = some v → upd f (w.2.2.2 a).length x i = v := by
    intro f hf i v hv
    simp only [jsetR, if_pos] at hv
    rw [List.getElem?_append] at hv
    split at hv
    · next hlt =>
      have : i ≠ (w.2.2.2 a).length := by omega
      simp only [upd, if_neg this]
      exact hf i v hv
    · next hge =>
      have hz : i - (w.2.2.2 a).length < 1 := (List.getElem?_eq_some_iff.mp hv).1
      have e1 : i = (w.2.2.2 a).length := by omega
      subst e1
      simp at hv
      simp [upd, hv]
  have elen : ((jsetR w a (w.2.2.2 a ++ [x])).2.2.2 a).length = (w.2.2.2 a).length + 1 := by simp [jsetR]
  by_cases hp : (w.2.2.2 a).length < h.2.1 a
  · refine ⟨h, jOk_R2 hO (by simp; omega), Nat.le_refl _, Nat.le_refl _, fun p e R s m args below meth c H locs cells slots lsA Q C hR hS hl b5 b6 b7 b8 b9 => ?_⟩
    obtain ⟨hOb, f, hf, hA⟩ := jcell_row (hR.2 a _ hk) h6
    refine lv_aload_n C.1 C.2.1 dX8_add_10 rfl (lv_at hl 0 rfl) ?_
    refine jW_get (N := 0) (C0 := (RX8, TX8, 2)) C dX8_add_11 fl_X8_19 rfl hOb ?_
    refine lv_aload_n C.1 C.2.1 dX8_add_14 rfl (lv_at hl 0 rfl) ?_
    refine jW_get (N := 0) (C0 := (RX8, TX8, 2)) C dX8_add_15 fl_X8_13 rfl hOb ?_
    refine W.alen (n := nI (h.2.1 a)) C.1 C.2.1 hA ((C.2.2.2.2.2.1.2 0 _ rfl).1 _ _) (by rw [arrV_size]; rfl) rfl rfl dX8_add_18 ?_
    refine W.eq (g2 := F0 m 19 lsA [.int (nI (h.2.1 a)), .int (nI (w.2.2.2 a).length)]) rfl ?_
    refine lv_icmp_lt (tgt := 39) C.1 C.2.1 dX8_add_19 (by decide) (fun _ => ?_) (fun c1 => absurd (nI_lt hp (by omega)) c1)
    refine rw_tail C hS hl (t_OB_eq hOb erv) hA (Ne.symm na) hp (by omega) (fun H1 locs1 g1 g2 g3 g4 g5 => ?_)
    have e9 : rv2 E.2.2.2 (h.1 a) ((w.2.2.2 a).length + 1) = jrv E.2.2.2 (jsetR w a (w.2.2.2 a ++ [x])) h a := by
      funext j
      simp only [rv2, jrv, elen]
    have z9 := b9 H1 locs1 59 lsA [] ⟨dX8_add_59, rfl⟩ (jRel_row hR hO hk h6 (fun k hk => jal_R hk) (fun k _ => ⟨rfl, rfl⟩) (by rw [g3]; exact hR.1) (fun q _ h1 h2 => g4 q h1 h2) (jcell_of_row h6 ⟨t_OB_eq g1 e9, _, fin f hf, g2⟩)) g5
    rw [Nat.sub_self, Nat.sub_self] at z9
    exact z9
  · have el : (w.2.2.2 a).length = h.2.1 a := by omega
    have hE : jfull E := hg.resolve_right (fun z => by have := (hO.1 a _ hk h6).2.1; simp only [] at this; omega)
    obtain ⟨i0, hi0⟩ := (hO.2.1 a n0 hk).2
    refine ⟨(upN h.1 a h.2.2.1, upN h.2.1 a (2 * h.2.1 a), h.2.2.1 + 1, h.2.2.2 + 2 * h.2.1 a), jOk_grow hE hO hk h6 (by omega) (fun _ => ⟨by omega, i0 + 1, by rw [hi0, Nat.pow_succ]; simp only []; rw [Nat.mul_comm (2 ^ i0) 2, ← Nat.mul_assoc, Nat.mul_comm 2 n0, Nat.mul_assoc, Nat.mul_left_comm]⟩) (fun z => absurd z (by simp)) (by simp [jT, hne.1, hne.2, upN_s]; omega) (by simp; omega), by simp, by simp, fun p e R s m args below meth c H locs cells slots lsA Q C hR hS hl b5 b6 b7 b8 b9 => ?_⟩
    obtain ⟨hOb, f, hf, hA⟩ := jcell_row (hR.2 a _ hk) h6
    have hsz := hR.1
    have e2 : h.2.2.1 + 1 - h.2.2.1 = 1 := by omega
    have e3 : h.2.2.2 + 2 * h.2.1 a - h.2.2.2 = 2 * h.2.1 a := by omega
    simp only [e2, e3] at b7 b8 b9
    refine lv_aload_n C.1 C.2.1 dX8_add_10 rfl (lv_at hl 0 rfl) ?_
    refine jW_get (N := 0) (C0 := (RX8, TX8, 2)) C dX8_add_11 fl_X8_19 rfl hOb ?_
    refine lv_aload_n C.1 C.2.1 dX8_add_14 rfl (lv_at hl 0 rfl) ?_
    refine jW_get (N := 0) (C0 := (RX8, TX8, 2)) C dX8_add_15 fl_X8_13 rfl hOb ?_
    refine W.alen (n := nI (h.2.1 a)) C.1 C.2.1 hA ((C.2.2.2.2.2.1.2 0 _ rfl).1 _ _) (by rw [arrV_size]; rfl) rfl rfl dX8_add_18 ?_
    refine W.eq (g2 := F0 m 19 lsA [.int (nI (h.2.1 a)), .int (nI (w.2.2.2 a).length)]) rfl ?_
    refine lv_icmp_lt (tgt := 39) C.1 C.2.1 dX8_add_19 (by decide) (fun c1 => absurd c1 (nI_nlt (by omega) (by omega))) (fun _ => ?_)
    refine lv_aload_n C.1 C.2.1 dX8_add_22 rfl (lv_at hl 0 rfl) ?_
    refine lv_aload_n C.1 C.2.1 dX8_add_23 rfl (lv_at hl 0 rfl) ?_
    refine jW_get (N := 0) (C0 := (RX8, TX8, 2)) C dX8_add_24 fl_X8_13 rfl hOb ?_
    refine lv_aload_n C.1 C.2.1 dX8_add_27 rfl (lv_at hl 0 rfl) ?_
    refine jW_get (N := 0) (C0 := (RX8, TX8, 2)) C dX8_add_28 fl_X8_19 rfl hOb ?_
    refine lv_iconst (v := nI 2) C.1 C.2.1 dX8_add_31 (by decide) ?_
    refine lv_imul (x := nI (w.2.2.2 a).length) (y := nI 2) C.1 C.2.1 dX8_add_32 ?_
    rw [pk_mul, show (w.2.2.2 a).length * 2 = 2 * h.2.1 a by omega]
    refine W.eq (g2 := F0 m 33 lsA [.int (nI (2 * h.2.1 a)), .ref (E.2.2.2 + h.1 a), .ref (E.2.2.2 + a)]) rfl ?_
    have hK := C.2.2.2.2.2.1
    have run := va_runS (e := e) (below := below) (meth := meth) (locs := locs) (cells := cells) (slots := slots) (As := [.ref (E.2.2.2 + h.1 a), .int (nI (2 * h.2.1 a))]) (rest := [.ref (E.2.2.2 + a)]) (g := F0 m 33 lsA [.int (nI (2 * h.2.1 a)), .ref (E.2.2.2 + h.1 a), .ref (E.2.2.2 + a)]) ⟨C.1, C.2.1, C.2.2.1, C.2.2.2.1, C.2.2.2.2.1⟩ (c_copyOf (E := E) (a := E.2.2.2 + h.1 a) (n := h.2.1 a) (N := 2 * h.2.1 a) (d := 0) (f := f) (by omega) (by omega))
      ⟨callB_of (R := R) 2 C.2.2.2.2.1 (jgood (fun w hw => by rcases List.mem_cons.mp hw with rfl | g; exact tw_coc; exact g)) rfl rfl rfl (C.2.2.2.2.1 _ tw_coi) (C.2.2.2.2.1 _ tw_co) (by decide +kernel) ⟨by show 0 + 1 + 1 ≤ R.frames; omega, by show 8 + (3 + 11) + 40 * (0 + 1) ≤ R.locals; omega⟩, C.2.2.2.2.1 _ tw_cos⟩
      ⟨fun a' U g mk q => by obtain ⟨q0, q1, q2, q3⟩ := q; exact ⟨q0, q1, jK.moved (u := U) (U := U.calling g mk a') (Vm.Alike.refl U.vm) q2, q3⟩, fun U hU hW => ⟨rfl, by rw [hU]; exact hA, jK.moved hW.alike hK, by rw [hU, hsz]; exact Nat.le_add_right _ _⟩⟩ rfl rfl hl.1 rfl (lv_room (by simp [Value.category])) dX8_add_33 ⟨b7, b8⟩
    intro T hT X
    obtain ⟨v, st₀, t, T', L, h0, X', hLl, e1, e4, ⟨hv, k1, k2, k3⟩, go⟩ := run T hT X
    cases hv
    rw [h0, hsz] at k1
    rw [h0, hsz] at k2
    rw [h0] at k3 go
    rw [hsz] at go
    have hS1 : jS E s T'.heap (locs ++ L) := by
      refine ⟨Nat.le_trans hS.1 (by rw [e1, k1, hsz]; omega), fun q g1 g2 => ?_, fun q hq => ?_⟩
      · rw [e1, k3 q (Nat.lt_of_lt_of_le g1 hS.1)]
        exact hS.2.1 q g1 g2
      · rcases List.mem_append.mp hq with g | g
        · exact hS.2.2 q g
        · exact hLl q g
    have hlt1 : h.1 a < h.2.2.1 := (hO.1 a _ hk h6).2.2.1
    have hlt2 : a < h.2.2.1 := hO.2.2.2.2.1 a _ hk
    have key : W p E.1 e R s m args below meth c T'.heap (locs ++ L) (cells + 1) (slots + 2 * h.2.1 a) Q (F0 m 36 lsA [.ref (E.2.2.2 + h.2.2.1), .ref (E.2.2.2 + a)]) := by
      have hOb1 : t_OB (E.2.2.2 + a) (E.2.1.1 8) 2 (E.2.1.2 8) T'.heap (jrv E.2.2.2 w h a) := hOb.kept (by rw [e1]; exact k3 _ (by omega))
      refine jW_put (N := 0) (C0 := (RX8, TX8, 2)) (v := .ref (E.2.2.2 + h.2.2.1)) C hS1 (Nat.le_add_right _ _) dX8_add_36 fp_X8_13 rfl hOb1 rfl rfl (fun H2 locs2 m1 m2 m3 m4 => ?_)
      refine rw_tail (g := h.2.2.1) (P := 2 * h.2.1 a) (L := (w.2.2.2 a).length) (f := fun i => if i < h.2.1 a then f i else 0) C m4 hl (m1.to (fun j hj => ?_)) (by rw [m3 _ (by omega), e1]; exact k2) (by omega) (by omega) (by omega) (fun H3 locs3 g1 g2 g3 g4 g5 => ?_)
      · by_cases hj : j = 0
        · subst hj; simp [updV, rv2]
        · simp [updV, rv2, jrv, hj]
      · have e9 : rv2 E.2.2.2 h.2.2.1 ((w.2.2.2 a).length + 1) = jrv E.2.2.2 (jsetR w a (w.2.2.2 a ++ [x])) (upN h.1 a h.2.2.1, upN h.2.1 a (2 * h.2.1 a), h.2.2.1 + 1, h.2.2.2 + 2 * h.2.1 a) a := by
          funext j
          simp only [rv2, jrv, elen, upN_s]
        refine b9 H3 locs3 59 lsA [] ⟨dX8_add_59, rfl⟩ (jRel_row hR hO hk h6 (fun k hk => jal_R hk) (fun k hk => ⟨upN_n hk, upN_n hk⟩) (by rw [g3, m2, e1, k1]; show _ = E.2.2.2 + (h.2.2.1 + 1); omega) (fun q q1 q2 q3 => by rw [g4 q q2 (by omega), m3 q q2, e1, k3 q q1]) (jcell_of_row h6 ⟨t_OB_eq g1 e9, _, fin _ ?_, by simp only [upN_s]; exact g2⟩)) g5
        intro i v hv
        have hil : i < (w.2.2.2 a).length := (List.getElem?_eq_some_iff.mp hv).1
        rw [if_pos (by omega)]
        exact hf i v hv
    obtain ⟨t2, a1, b1⟩ := key T' rfl X'
    exact ⟨t2, go t2 a1, b1⟩
theorem c_row_add {E : jE} {a n0 : Nat} {x : Int32} {w : jw} (hk : jkd E a = some (6, n0)) (hlen : (w.2.2.2 a).length ≤ 4096) (hg : jfull E ∨ (w.2.2.2 a).length < n0) : jC E m_X8_add 2 [.ref (E.2.2.2 + a), .int x] w none (jsetR w a (w.2.2.2 a ++ [x])) :=
  jC_of (by decide) rfl (fun _ => trivial) (Nat.le_of_ble_eq_true rfl) rfl rfl (x_row_add hk hlen hg)
