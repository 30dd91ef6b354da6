/-! Row.fill and Row.copyFrom -/
section RF
variable {p : Program} {e : Env} {R : Room} {s : State} {m : MethodId} {args : Array Value} {below : List Frame} {meth : Method} {c : Code} {cells slots : Nat} {Q : State → Prop} {E : jE}
set_option maxRecDepth 20000 in
set_option maxHeartbeats 4000000 in
theorem rw_fill {a g L P N : Nat} {x : Int32} (C : jCx E m_X8_fill p s m args c) (hag : a ≠ g) (hN : N ≤ P) (hP : P < 2 ^ 30) : ∀ (k i : Nat), i + k = N → ∀ (H : Heap) (locs : List Loc) (lsA : Array Slot) (f : Nat → Int32), jS E s H locs → lv_has lsA 4 [(0, .ref (E.2.2.2 + a)), (1, .int (nI N)), (2, .int x), (3, .int (nI i))] → t_OB (E.2.2.2 + a) (E.2.1.1 8) 2 (E.2.1.2 8) H (rv2 E.2.2.2 g L) → H[E.2.2.2 + g]? = some (arrV (E.2.2.1 0) P (fun j => .int (f j))) → (∀ j, j < i → f j = x) →
    (∀ (H1 : Heap) (locs1 : List Loc) (lsB : Array Slot) (f1 : Nat → Int32), t_OB (E.2.2.2 + a) (E.2.1.1 8) 2 (E.2.1.2 8) H1 (rv2 E.2.2.2 g N) → H1[E.2.2.2 + g]? = some (arrV (E.2.2.1 0) P (fun j => .int (f1 j))) → (∀ j, j < N → f1 j = x) → H1.size = H.size → (∀ q, q ≠ E.2.2.2 + a → q ≠ E.2.2.2 + g → H1[q]? = H[q]?) → jS E s H1 locs1 → W p E.1 e R s m args below meth c H1 locs1 cells slots Q (F0 m 61 lsB [])) →
    W p E.1 e R s m args below meth c H locs cells slots Q (F0 m 29 lsA []) := by
  intro k
  induction k with
  | zero =>
    intro i hi H locs lsA f hS hl hOb hA hf kk
    have ei : i = N := by omega
    subst ei
    refine lv_iload_n C.1 C.2.1 dX8_fill_29 rfl (lv_at hl 3 rfl) ?_
    refine lv_iload_n C.1 C.2.1 dX8_fill_30 rfl (lv_at hl 1 rfl) ?_
    refine lv_icmp_ge (tgt := 56) C.1 C.2.1 dX8_fill_31 (by decide) (fun _ => ?_) (fun c1 => absurd (nI_le (Nat.le_refl i) (by omega)) c1)
    refine lv_aload_n C.1 C.2.1 dX8_fill_56 rfl (lv_at hl 0 rfl) ?_
    refine lv_iload_n C.1 C.2.1 dX8_fill_57 rfl (lv_at hl 1 rfl) ?_
    refine jW_put (N := 0) (C0 := (RX8, TX8, 2)) (v := .int (nI i)) C hS (Nat.le_add_right _ _) dX8_fill_58 fp_X8_19 rfl hOb rfl rfl (fun H1 locs1 k1 k2 k3 k4 => ?_)
    refine kk H1 locs1 lsA f (k1.to (fun j hj => ?_)) (by rw [k3 _ (by omega)]; exact hA) hf k2 (fun q h1 h2 => k3 q h1) k4
    have hj : j < 2 := hj
    rcases (show j = 0 ∨ j = 1 by omega) with rfl | rfl
    · simp [updV, rv2]
    · simp [updV, rv2]
  | succ k ih =>
    intro i hi H locs lsA f hS hl hOb hA hf kk
    refine lv_iload_n C.1 C.2.1 dX8_fill_29 rfl (lv_at hl 3 rfl) ?_
    refine lv_iload_n C.1 C.2.1 dX8_fill_30 rfl (lv_at hl 1 rfl) ?_
    refine lv_icmp_ge (tgt := 56) C.1 C.2.1 dX8_fill_31 (by decide) (fun c1 => absurd ((nI_leI (by omega) (by omega)).mp c1) (by omega)) (fun _ => ?_)
    refine lv_iload_n C.1 C.2.1 dX8_fill_34 rfl (lv_at hl 3 rfl) ?_
    refine lv_aload_n C.1 C.2.1 dX8_fill_35 rfl (lv_at hl 0 rfl) ?_
    refine jW_get (N := 0) (C0 := (RX8, TX8, 2)) C dX8_fill_36 fl_X8_13 rfl hOb ?_
    refine W.alen (n := nI P) C.1 C.2.1 hA ((C.2.2.2.2.2.1.2 0 _ rfl).1 _ _) (by rw [arrV_size]; rfl) rfl rfl dX8_fill_39 ?_
    refine W.eq (g2 := F0 m 40 lsA [.int (nI P), .int (nI i)]) rfl ?_
    refine lv_icmp_ge (tgt := 56) C.1 C.2.1 dX8_fill_40 (by decide) (fun c1 => absurd ((nI_leI (by omega) (by omega)).mp c1) (by omega)) (fun _ => ?_)
    refine lv_aload_n C.1 C.2.1 dX8_fill_43 rfl (lv_at hl 0 rfl) ?_
    refine jW_get (N := 0) (C0 := (RX8, TX8, 2)) C dX8_fill_44 fl_X8_13 rfl hOb ?_
    refine lv_iload_n C.1 C.2.1 dX8_fill_47 rfl (lv_at hl 3 rfl) ?_
    refine lv_iload_n C.1 C.2.1 dX8_fill_48 rfl (lv_at hl 2 rfl) ?_
    refine rw_store (G := g) (n := P) (i := nI i) C hS dX8_fill_49 hA (vp_in_nI (by omega) (by omega)) (fun H1 locs1 g1 g2 g3 g4 => ?_)
    rw [nI_clamp (by omega)] at g1
    refine lv_iinc (v := nI (i + 1)) (lv' := [(3, .int (nI (i + 1))), (0, .ref (E.2.2.2 + a)), (1, .int (nI N)), (2, .int x)]) C.1 C.2.1 dX8_fill_50 hl (k := 3) rfl (by rw [← nI_1]; rfl) (by decide) rfl (fun lsB hB => ?_)
    refine lv_goto (tgt := 29) C.1 C.2.1 dX8_fill_53 (by decide) ?_
    refine ih (i + 1) (by omega) H1 locs1 lsB _ g4 (lv_sub hB [1, 2, 3, 0] rfl) (hOb.kept (g3 _ (by omega))) g1 (fun j hj => ?_) (fun H2 locs2 lsC f2 m1 m2 m3 m4 m5 m6 => kk H2 locs2 lsC f2 m1 m2 m3 (by rw [m4, g2]) (fun q h1 h2 => by rw [m5 q h1 h2, g3 q h2]) m6)
    by_cases e1 : j = i
    · subst e1; simp [upd]
    · simp only [upd, if_neg e1]; exact hf j (by omega)
end RF
theorem rep_get {N i : Nat} {x v : Int32} (h : (List.replicate N x)[i]? = some v) : i < N ∧ v = x := by
  have h1 := (List.getElem?_eq_some_iff.mp h)
  obtain ⟨hl, he⟩ := h1
  simp at hl he
  exact ⟨hl, he.symm⟩
set_option maxRecDepth 20000 in
set_option maxHeartbeats 4000000 in
theorem x_row_fill {E : jE} {k a N : Nat} {q : Nat × Nat} {x : Int32} {w : jw} (hk : jkd E a = some q) (h6 : 6 ≤ q.1) (hN : jfull E ∧ q.1 = 7 ∧ N ≤ 1024 ∨ N ≤ q.2) : jX E m_X8_fill k 0 [(0, .ref (E.2.2.2 + a)), (1, .int (nI N)), (2, .int x)] [] w none (jsetR w a (List.replicate N x)) := by
  intro h hO
  have hcap := jOk_cap hO hk h6
  have hq2 := (hO.1 a q hk h6).2.1
  have hNb : N ≤ 8192 := by omega
  obtain ⟨z1, z2, z3⟩ := kd_row (jkd_kd hk) h6
  have na : h.1 a ≠ a := fun z => by
    have := (hO.1 a _ hk h6).2.2.2
    rw [z, hk] at this
    cases this
  have elen : ((jsetR w a (List.replicate N x)).2.2.2 a).length = N := by simp [jsetR]
  have fin : ∀ f1 : Nat → Int32, (∀ j, j < N → f1 j = x) → ∀ (i : Nat) (v : Int32), ((jsetR w a (List.replicate N x)).2.2.2 a)[i]? = some v → f1 i = v := by
    intro f1 h1 i v hv
    simp only [jsetR, if_pos] at hv
    obtain ⟨g1, g2⟩ := rep_get hv
    rw [h1 i g1, g2]
  have head : ∀ (X : Prop), X → X := fun _ h => h
  by_cases hp : N ≤ h.2.1 a
  · refine ⟨h, jOk_R2 hO (by simp; omega), Nat.le_refl _, Nat.le_refl _, fun p e R s m args below meth c H locs cells slots lsA Q C hR hS hl b5 b6 b7 b8 b9 => ?_⟩
    obtain ⟨hOb, f, hf, hA⟩ := jcell_row (hR.2 a _ hk) h6
    refine lv_iload_n C.1 C.2.1 dX8_fill_0 rfl (lv_at hl 1 rfl) ?_
    refine lv_if_lt (tgt := 10) C.1 C.2.1 dX8_fill_1 (by decide) (fun c1 => absurd c1 (nI_pos (by omega))) (fun _ => ?_)
    refine lv_iload_n C.1 C.2.1 dX8_fill_4 rfl (lv_at hl 1 rfl) ?_
    refine lv_ldc C.1 C.2.1 C.2.2.2.1 (C.2.2.2.2.1 _ kc_X8_23) dX8_fill_5 ?_
    refine lv_icmp_le (tgt := 11) C.1 C.2.1 dX8_fill_7 (by decide) (fun _ => ?_) (fun c1 => absurd (nI_le (b := 1048576) (by omega) (by decide)) c1)
    refine lv_iload_n C.1 C.2.1 dX8_fill_11 rfl (lv_at hl 1 rfl) ?_
    refine lv_aload_n C.1 C.2.1 dX8_fill_12 rfl (lv_at hl 0 rfl) ?_
    refine jW_get (N := 0) (C0 := (RX8, TX8, 2)) C dX8_fill_13 fl_X8_13 rfl hOb ?_
    refine W.alen (n := nI (h.2.1 a)) C.1 C.2.1 hA ((C.2.2.2.2.2.1.2 0 _ rfl).1 _ _) (by rw [arrV_size]; rfl) rfl rfl dX8_fill_16 ?_
    refine W.eq (g2 := F0 m 17 lsA [.int (nI (h.2.1 a)), .int (nI N)]) rfl ?_
    refine lv_icmp_le (tgt := 27) C.1 C.2.1 dX8_fill_17 (by decide) (fun _ => ?_) (fun c1 => absurd (nI_le hp (by omega)) c1)
    refine lv_iconst (v := nI 0) C.1 C.2.1 dX8_fill_27 (by decide) ?_
    refine lv_istore_n (lv' := [(3, .int (nI 0)), (0, .ref (E.2.2.2 + a)), (1, .int (nI N)), (2, .int x)]) C.1 C.2.1 dX8_fill_28 rfl hl (by decide) rfl (fun lsB hB => ?_)
    refine rw_fill (g := h.1 a) (L := (w.2.2.2 a).length) (P := h.2.1 a) C (Ne.symm na) hp (by omega) N 0 (by omega) H locs lsB f hS (lv_sub hB [1, 2, 3, 0] rfl) hOb hA (fun j hj => absurd hj (by omega)) (fun H1 locs1 lsC f1 g1 g2 g3 g4 g5 g6 => ?_)
    have e9 : rv2 E.2.2.2 (h.1 a) N = jrv E.2.2.2 (jsetR w a (List.replicate N x)) h a := by
      funext j
      simp only [rv2, jrv, elen]
    have z9 := b9 H1 locs1 61 lsC [] ⟨dX8_fill_61, rfl⟩ (jRel_row hR hO hk h6 (fun k hk => jal_R hk) (fun k _ => ⟨rfl, rfl⟩) (by rw [g4]; exact hR.1) (fun q _ h1 h2 => g5 q h1 h2) (jcell_of_row h6 ⟨t_OB_eq g1 e9, f1, fin f1 g3, g2⟩)) g6
    rw [Nat.sub_self, Nat.sub_self] at z9
    exact z9
  · have hE : jfull E := by rcases hN with z | z; exact z.1; omega
    have h7 : q.1 = 7 := by rcases hN with z | z; exact z.2.1; omega
    have hN7 : N ≤ 1024 := by rcases hN with z | z; exact z.2.2; omega
    have ha15 : a = 13 ∨ a = 15 := by rcases z3 with z | z; exact absurd z.1 (by omega); exact z.2
    have hT : jT h.2.1 a + N ≤ jT (upN h.2.1 a N) a := by
      simp only [jT, if_pos ha15, upN_s]
      have h1 : h.2.1 a + 1 ≤ N := by omega
      have h2 : h.2.1 a * (h.2.1 a + 1) ≤ (N - 1) * N := Nat.mul_le_mul (by omega) h1
      have h3 : N * (N + 1) = (N - 1) * N + 2 * N := by
        obtain ⟨M, rfl⟩ : ∃ M, N = M + 1 := ⟨N - 1, by omega⟩
        simp only [Nat.add_sub_cancel]
        rw [Nat.mul_add (M + 1), Nat.mul_one, Nat.mul_comm (M + 1) (M + 1), Nat.add_mul M 1 (M + 1)]
        omega
      omega
    refine ⟨(upN h.1 a h.2.2.1, upN h.2.1 a N, h.2.2.1 + 1, h.2.2.2 + N), jOk_grow hE hO hk h6 (by omega) (fun z => absurd z (by omega)) (fun _ => hN7) hT (by simp), by simp, by simp, fun p e R s m args below meth c H locs cells slots lsA Q C hR hS hl b5 b6 b7 b8 b9 => ?_⟩
    have hsz := hR.1
    have e2 : h.2.2.1 + 1 - h.2.2.1 = 1 := by omega
    have e3 : h.2.2.2 + N - h.2.2.2 = N := by omega
    simp only [e2, e3] at b7 b8 b9
    obtain ⟨hOb, f, hf, hA⟩ := jcell_row (hR.2 a _ hk) h6
    have hlt1 : h.1 a < h.2.2.1 := (hO.1 a _ hk h6).2.2.1
    have hlt2 : a < h.2.2.1 := hO.2.2.2.2.1 a _ hk
    refine lv_iload_n C.1 C.2.1 dX8_fill_0 rfl (lv_at hl 1 rfl) ?_
    refine lv_if_lt (tgt := 10) C.1 C.2.1 dX8_fill_1 (by decide) (fun c1 => absurd c1 (nI_pos (by omega))) (fun _ => ?_)
    refine lv_iload_n C.1 C.2.1 dX8_fill_4 rfl (lv_at hl 1 rfl) ?_
    refine lv_ldc C.1 C.2.1 C.2.2.2.1 (C.2.2.2.2.1 _ kc_X8_23) dX8_fill_5 ?_
    refine lv_icmp_le (tgt := 11) C.1 C.2.1 dX8_fill_7 (by decide) (fun _ => ?_) (fun c1 => absurd (nI_le (b := 1048576) (by omega) (by decide)) c1)
    refine lv_iload_n C.1 C.2.1 dX8_fill_11 rfl (lv_at hl 1 rfl) ?_
    refine lv_aload_n C.1 C.2.1 dX8_fill_12 rfl (lv_at hl 0 rfl) ?_
    refine jW_get (N := 0) (C0 := (RX8, TX8, 2)) C dX8_fill_13 fl_X8_13 rfl hOb ?_
    refine W.alen (n := nI (h.2.1 a)) C.1 C.2.1 hA ((C.2.2.2.2.2.1.2 0 _ rfl).1 _ _) (by rw [arrV_size]; rfl) rfl rfl dX8_fill_16 ?_
    refine W.eq (g2 := F0 m 17 lsA [.int (nI (h.2.1 a)), .int (nI N)]) rfl ?_
    refine lv_icmp_le (tgt := 27) C.1 C.2.1 dX8_fill_17 (by decide) (fun c1 => absurd ((nI_leI (by omega) (by omega)).mp c1) (by omega)) (fun _ => ?_)
    refine lv_aload_n C.1 C.2.1 dX8_fill_20 rfl (lv_at hl 0 rfl) ?_
    refine lv_iload_n C.1 C.2.1 dX8_fill_21 rfl (lv_at hl 1 rfl) ?_
    refine va_newaK (atype := .int) C.1 C.2.1 (C.2.2.2.2.1 _ tw_aI) (g := F0 m 22 lsA [.int (nI N), .ref (E.2.2.2 + a)]) rfl dX8_fill_22 rfl (nI_pos (by omega)) (nI_clamp (by omega)) (by show N * 4 ≤ 536870912; omega) (by omega) (by omega) hsz (fun H1 cA g1 g2 g3 g4 g5 => ?_)
    have eA : cA = E.2.2.1 0 := Option.some.inj (g5.symm.trans (C.2.2.2.2.2.1.2 0 _ rfl).2)
    subst eA
    refine W.eq (g2 := F0 m 24 lsA [.ref (E.2.2.2 + h.2.2.1), .ref (E.2.2.2 + a)]) rfl ?_
    have hS1 : jS E s H1 locs := ⟨Nat.le_trans hS.1 (by omega), fun q k1 k2 => by rw [g3 q (by have := hS.1; omega)]; exact hS.2.1 q k1 k2, hS.2.2⟩
    have hOb1 : t_OB (E.2.2.2 + a) (E.2.1.1 8) 2 (E.2.1.2 8) H1 (jrv E.2.2.2 w h a) := hOb.kept (g3 _ (by omega))
    refine jW_put (N := 0) (C0 := (RX8, TX8, 2)) (v := .ref (E.2.2.2 + h.2.2.1)) C hS1 (Nat.le_add_right _ _) dX8_fill_24 fp_X8_13 rfl hOb1 rfl rfl (fun H2 locs2 m1 m2 m3 m4 => ?_)
    refine lv_iconst (v := nI 0) C.1 C.2.1 dX8_fill_27 (by decide) ?_
    refine lv_istore_n (lv' := [(3, .int (nI 0)), (0, .ref (E.2.2.2 + a)), (1, .int (nI N)), (2, .int x)]) C.1 C.2.1 dX8_fill_28 rfl hl (by decide) rfl (fun lsB hB => ?_)
    refine rw_fill (g := h.2.2.1) (L := (w.2.2.2 a).length) (P := N) C (by omega) (Nat.le_refl N) (by omega) N 0 (by omega) H2 locs2 lsB (fun _ => 0) m4 (lv_sub hB [1, 2, 3, 0] rfl) (m1.to (fun j hj => ?_)) (by rw [m3 _ (by omega)]; exact g1) (fun j hj => absurd hj (by omega)) (fun H3 locs3 lsC f1 n1 n2 n3 n4 n5 n6 => ?_)
    · by_cases hj : j = 0
      · subst hj; simp [updV, rv2]
      · simp [updV, rv2, jrv, hj]
    · have e9 : rv2 E.2.2.2 h.2.2.1 N = jrv E.2.2.2 (jsetR w a (List.replicate N x)) (upN h.1 a h.2.2.1, upN h.2.1 a N, h.2.2.1 + 1, h.2.2.2 + N) a := by
        funext j
        simp only [rv2, jrv, elen, upN_s]
      exact b9 H3 locs3 61 lsC [] ⟨dX8_fill_61, rfl⟩ (jRel_row hR hO hk h6 (fun k hk => jal_R hk) (fun k hk => ⟨upN_n hk, upN_n hk⟩) (by rw [n4, m2, g2]; show _ = E.2.2.2 + (h.2.2.1 + 1); omega) (fun q q1 q2 q3 => by rw [n5 q q2 (by omega), m3 q q2, g3 q (by omega)]) (jcell_of_row h6 ⟨t_OB_eq n1 e9, f1, fin f1 n3, by simp only [upN_s]; exact n2⟩)) n6
theorem c_row_fill {E : jE} {k a N : Nat} {q : Nat × Nat} {x : Int32} {w : jw} (hk : jkd E a = some q) (h6 : 6 ≤ q.1) (hN : jfull E ∧ q.1 = 7 ∧ N ≤ 1024 ∨ N ≤ q.2) : jC E m_X8_fill k [.ref (E.2.2.2 + a), .int (nI N), .int x] w none (jsetR w a (List.replicate N x)) :=
  jC_of (by decide) rfl (fun _ => trivial) (Nat.le_of_ble_eq_true rfl) rfl rfl (x_row_fill hk h6 hN)
