/-! Row.copyFrom -/
theorem tw_rcp : Cond.methodLink RX8 30 arraycopyName ∈ jtbl := jt (n := 1299) (by decide +kernel) rfl
section RCP
variable {p : Program} {e : Env} {R : Room} {s : State} {m : MethodId} {args : Array Value} {below : List Frame} {meth : Method} {c : Code} {H : Heap} {locs : List Loc} {cells slots : Nat} {Q : State → Prop} {E : jE} {lsA : Array Slot}
set_option maxRecDepth 20000 in
set_option maxHeartbeats 4000000 in
theorem rw_cptail {a b g gb L Lb P Pb : Nat} {f fb : Nat → Int32} (C : jCx E m_X8_copyFrom p s m args c) (hS : jS E s H locs) (hl : lv_has lsA 2 [(0, .ref (E.2.2.2 + a)), (1, .ref (E.2.2.2 + b))]) (hOb : t_OB (E.2.2.2 + a) (E.2.1.1 8) 2 (E.2.1.2 8) H (rv2 E.2.2.2 g L)) (hA : H[E.2.2.2 + g]? = some (arrV (E.2.2.1 0) P (fun i => .int (f i)))) (hObb : t_OB (E.2.2.2 + b) (E.2.1.1 8) 2 (E.2.1.2 8) H (rv2 E.2.2.2 gb Lb)) (hAb : H[E.2.2.2 + gb]? = some (arrV (E.2.2.1 0) Pb (fun i => .int (fb i)))) (h1 : a ≠ g) (h2 : b ≠ g) (h3 : a ≠ b) (hL : Lb ≤ P) (hLb : Lb ≤ Pb) (hP : P < 2 ^ 30) (hf : 1 ≤ R.frames) (hlo : 40 ≤ R.locals)
    (kk : ∀ (H1 : Heap) (locs1 : List Loc), t_OB (E.2.2.2 + a) (E.2.1.1 8) 2 (E.2.1.2 8) H1 (rv2 E.2.2.2 g Lb) → H1[E.2.2.2 + g]? = some (arrV (E.2.2.1 0) P (fun i => .int (if i < Lb then fb i else f i))) → H1.size = H.size → (∀ q, q ≠ E.2.2.2 + a → q ≠ E.2.2.2 + g → H1[q]? = H[q]?) → jS E s H1 locs1 → W p E.1 e R s m args below meth c H1 locs1 cells slots Q (F0 m 48 lsA [])) :
    W p E.1 e R s m args below meth c H locs cells slots Q (F0 m 23 lsA []) := by
  refine lv_aload_n C.1 C.2.1 dX8_copyFrom_23 rfl (lv_at hl 1 rfl) ?_
  refine jW_get (N := 0) (C0 := (RX8, TX8, 2)) C dX8_copyFrom_24 fl_X8_13 rfl hObb ?_
  refine lv_iconst (v := 0) C.1 C.2.1 dX8_copyFrom_27 (by decide) ?_
  refine lv_aload_n C.1 C.2.1 dX8_copyFrom_28 rfl (lv_at hl 0 rfl) ?_
  refine jW_get (N := 0) (C0 := (RX8, TX8, 2)) C dX8_copyFrom_29 fl_X8_13 rfl hOb ?_
  refine lv_iconst (v := 0) C.1 C.2.1 dX8_copyFrom_32 (by decide) ?_
  refine lv_aload_n C.1 C.2.1 dX8_copyFrom_33 rfl (lv_at hl 1 rfl) ?_
  refine jW_get (N := 0) (C0 := (RX8, TX8, 2)) C dX8_copyFrom_34 fl_X8_19 rfl hObb ?_
  refine jW_copy (a := E.2.2.2 + g) (a0 := E.2.2.2 + gb) (k := Lb) C.1 C.2.1 (by rw [C.2.2.1]; exact hl.1.symm) C.2.2.2.1 (C.2.2.2.2.1 _ tw_rcp) C.2.2.2.2.1 (C.2.2.2.2.2.1.2 0 _ rfl).1 hAb hA (by omega) hLb hL hf (by show 0 + 18 ≤ R.locals; omega) dX8_copyFrom_37 (fun H1 L1 g1 g2 g3 g4 => ?_)
  have hS1 : jS E s H1 (locs ++ L1) := by
    refine ⟨by rw [g2]; exact hS.1, fun q k1 k2 => ?_, fun q hq => ?_⟩
    · rw [g3 q (fun z => k2 (by show E.2.2.2 ≤ q; omega))]
      exact hS.2.1 q k1 k2
    · rcases List.mem_append.mp hq with z | z
      · exact hS.2.2 q z
      · show E.2.2.2 ≤ q.base
        rw [g4 q z]
        exact Nat.le_add_right _ _
  have hOb1 := hOb.kept (g3 (E.2.2.2 + a) (by omega))
  have hObb1 := hObb.kept (g3 (E.2.2.2 + b) (by omega))
  refine lv_aload_n C.1 C.2.1 dX8_copyFrom_40 rfl (lv_at hl 0 rfl) ?_
  refine lv_aload_n C.1 C.2.1 dX8_copyFrom_41 rfl (lv_at hl 1 rfl) ?_
  refine jW_get (N := 0) (C0 := (RX8, TX8, 2)) C dX8_copyFrom_42 fl_X8_19 rfl hObb1 ?_
  refine jW_put (N := 0) (C0 := (RX8, TX8, 2)) (v := .int (nI Lb)) C hS1 (Nat.le_add_right _ _) dX8_copyFrom_45 fp_X8_19 rfl hOb1 rfl rfl (fun H2 locs2 k1 k2 k3 k4 => ?_)
  refine kk H2 locs2 (k1.to (fun j hj => ?_)) (by rw [k3 _ (by omega)]; exact g1) (by rw [k2, g2]) (fun q z1 z2 => by rw [k3 q z1, g3 q z2]) k4
  have hj : j < 2 := hj
  rcases (show j = 0 ∨ j = 1 by omega) with rfl | rfl
  · simp [updV, rv2]
  · simp [updV, rv2]
end RCP
theorem pow_gap {n i j : Nat} (h : n * 2 ^ i < n * 2 ^ j) : 2 * (n * 2 ^ i) ≤ n * 2 ^ j := by
  have hij : i < j := by
    rcases Nat.lt_or_ge i j with z | z
    · exact z
    · have := Nat.mul_le_mul_left n (Nat.pow_le_pow_right (show 0 < 2 by decide) z)
      omega
  have h1 : 2 ^ (i + 1) ≤ 2 ^ j := Nat.pow_le_pow_right (by decide) hij
  have h2 := Nat.mul_le_mul_left n h1
  rw [Nat.pow_succ, ← Nat.mul_assoc] at h2
  omega
set_option maxRecDepth 20000 in
set_option maxHeartbeats 4000000 in
theorem x_row_copyFrom {E : jE} {a b n0 : Nat} {w : jw} (hE : jfull E) (hk : jkd E a = some (6, n0)) (hkb : jkd E b = some (6, n0)) (hab : a ≠ b) : jX E m_X8_copyFrom 1 0 [(0, .ref (E.2.2.2 + a)), (1, .ref (E.2.2.2 + b))] [] w none (jsetR w a (w.2.2.2 b)) := by
  have h6 : 6 ≤ (6, n0).1 := Nat.le_refl _
  intro h hO
  have hcap := jOk_cap hO hk h6
  have hcapb := jOk_cap hO hkb h6
  obtain ⟨z1, z2, z3⟩ := kd_row (jkd_kd hk) h6
  have hne : a ≠ 13 ∧ a ≠ 15 := by rcases z3 with z | z; exact z.2; exact absurd z.1 (by simp)
  have oa := hO.1 a _ hk h6
  have ob := hO.1 b _ hkb h6
  have nka : ∀ k q, jkd E k = some q → h.1 a ≠ k := fun k q hkq z => by
    have := oa.2.2.2
    rw [z, hkq] at this
    cases this
  have elen : ((jsetR w a (w.2.2.2 b)).2.2.2 a).length = (w.2.2.2 b).length := by simp [jsetR]
  have fin : ∀ (f fb : Nat → Int32), (∀ (i : Nat) (v : Int32), (w.2.2.2 b)[i]? = some v → fb i = v) → ∀ (i : Nat) (v : Int32), ((jsetR w a (w.2.2.2 b)).2.2.2 a)[i]? = some v → (if i < (w.2.2.2 b).length then fb i else f i) = v := by
    intro f fb hfb i v hv
    simp only [jsetR, if_pos] at hv
    have hi : i < (w.2.2.2 b).length := (List.getElem?_eq_some_iff.mp hv).1
    rw [if_pos hi]
    exact hfb i v hv
  by_cases hp : (w.2.2.2 b).length ≤ h.2.1 a
  · refine ⟨h, jOk_R2 hO hp, Nat.le_refl _, Nat.le_refl _, fun p e R s m args below meth c H locs cells slots lsA Q C hR hS hl b5 b6 b7 b8 b9 => ?_⟩
    obtain ⟨hOb, f, hf, hA⟩ := jcell_row (hR.2 a _ hk) h6
    obtain ⟨hObb, fb, hfb, hAb⟩ := jcell_row (hR.2 b _ hkb) h6
    refine lv_aload_n C.1 C.2.1 dX8_copyFrom_0 rfl (lv_at hl 0 rfl) ?_
    refine jW_get (N := 0) (C0 := (RX8, TX8, 2)) C dX8_copyFrom_1 fl_X8_13 rfl hOb ?_
    refine W.alen (n := nI (h.2.1 a)) C.1 C.2.1 hA ((C.2.2.2.2.2.1.2 0 _ rfl).1 _ _) (by rw [arrV_size]; rfl) rfl rfl dX8_copyFrom_4 ?_
    refine W.eq (g2 := F0 m 5 lsA [.int (nI (h.2.1 a))]) rfl ?_
    refine lv_aload_n C.1 C.2.1 dX8_copyFrom_5 rfl (lv_at hl 1 rfl) ?_
    refine jW_get (N := 0) (C0 := (RX8, TX8, 2)) C dX8_copyFrom_6 fl_X8_19 rfl hObb ?_
    refine lv_icmp_ge (x := nI (h.2.1 a)) (y := nI (w.2.2.2 b).length) (tgt := 23) C.1 C.2.1 dX8_copyFrom_9 (by decide) (fun _ => ?_) (fun c1 => absurd (nI_le hp (by omega)) c1)
    refine rw_cptail (g := h.1 a) (gb := h.1 b) C hS hl hOb hA hObb hAb (Ne.symm (nka a _ hk)) (Ne.symm (nka b _ hkb)) hab hp hcapb.1 (by omega) b5 (by omega) (fun H1 locs1 g1 g2 g3 g4 g5 => ?_)
    have e9 : rv2 E.2.2.2 (h.1 a) (w.2.2.2 b).length = jrv E.2.2.2 (jsetR w a (w.2.2.2 b)) h a := by
      funext j
      simp only [rv2, jrv, elen]
    have z9 := b9 H1 locs1 48 lsA [] ⟨dX8_copyFrom_48, rfl⟩ (jRel_row hR hO hk h6 (fun k hk => jal_R hk) (fun k _ => ⟨rfl, rfl⟩) (by rw [g3]; exact hR.1) (fun q _ h1 h2 => g4 q h1 h2) (jcell_of_row h6 ⟨t_OB_eq g1 e9, _, fin f fb hfb, g2⟩)) g5
    rw [Nat.sub_self, Nat.sub_self] at z9
    exact z9
  · obtain ⟨i0, hi0⟩ := (hO.2.1 a n0 hk).2
    obtain ⟨j0, hj0⟩ := (hO.2.1 b n0 hkb).2
    have hgap : 2 * h.2.1 a ≤ h.2.1 b := by rw [hi0, hj0]; exact pow_gap (by rw [← hi0, ← hj0]; omega)
    refine ⟨(upN h.1 a h.2.2.1, upN h.2.1 a (h.2.1 b), h.2.2.1 + 1, h.2.2.2 + h.2.1 b), jOk_grow hE hO hk h6 (by omega) (fun _ => ⟨by omega, j0, hj0⟩) (fun z => absurd z (by simp)) (by simp [jT, hne.1, hne.2, upN_s]; omega) hcapb.1, by simp, by simp, fun p e R s m args below meth c H locs cells slots lsA Q C hR hS hl b5 b6 b7 b8 b9 => ?_⟩
    have hsz := hR.1
    have e2 : h.2.2.1 + 1 - h.2.2.1 = 1 := by omega
    have e3 : h.2.2.2 + h.2.1 b - h.2.2.2 = h.2.1 b := by omega
    simp only [e2, e3] at b7 b8 b9
    obtain ⟨hOb, f, hf, hA⟩ := jcell_row (hR.2 a _ hk) h6
    obtain ⟨hObb, fb, hfb, hAb⟩ := jcell_row (hR.2 b _ hkb) h6
    have la : a < h.2.2.1 := hO.2.2.2.2.1 a _ hk
    have lb : b < h.2.2.1 := hO.2.2.2.2.1 b _ hkb
    refine lv_aload_n C.1 C.2.1 dX8_copyFrom_0 rfl (lv_at hl 0 rfl) ?_
    refine jW_get (N := 0) (C0 := (RX8, TX8, 2)) C dX8_copyFrom_1 fl_X8_13 rfl hOb ?_
    refine W.alen (n := nI (h.2.1 a)) C.1 C.2.1 hA ((C.2.2.2.2.2.1.2 0 _ rfl).1 _ _) (by rw [arrV_size]; rfl) rfl rfl dX8_copyFrom_4 ?_
    refine W.eq (g2 := F0 m 5 lsA [.int (nI (h.2.1 a))]) rfl ?_
    refine lv_aload_n C.1 C.2.1 dX8_copyFrom_5 rfl (lv_at hl 1 rfl) ?_
    refine jW_get (N := 0) (C0 := (RX8, TX8, 2)) C dX8_copyFrom_6 fl_X8_19 rfl hObb ?_
    refine lv_icmp_ge (x := nI (h.2.1 a)) (y := nI (w.2.2.2 b).length) (tgt := 23) C.1 C.2.1 dX8_copyFrom_9 (by decide) (fun c1 => absurd ((nI_leI (by omega) (by omega)).mp c1) hp) (fun _ => ?_)
    refine lv_aload_n C.1 C.2.1 dX8_copyFrom_12 rfl (lv_at hl 0 rfl) ?_
    refine lv_aload_n C.1 C.2.1 dX8_copyFrom_13 rfl (lv_at hl 1 rfl) ?_
    refine jW_get (N := 0) (C0 := (RX8, TX8, 2)) C dX8_copyFrom_14 fl_X8_13 rfl hObb ?_
    refine W.alen (n := nI (h.2.1 b)) C.1 C.2.1 hAb ((C.2.2.2.2.2.1.2 0 _ rfl).1 _ _) (by rw [arrV_size]; rfl) rfl rfl dX8_copyFrom_17 ?_
    refine W.eq (g2 := F0 m 18 lsA [.int (nI (h.2.1 b)), .ref (E.2.2.2 + a)]) rfl ?_
    refine va_newaK (atype := .int) C.1 C.2.1 (C.2.2.2.2.1 _ tw_aI) (g := F0 m 18 lsA [.int (nI (h.2.1 b)), .ref (E.2.2.2 + a)]) rfl dX8_copyFrom_18 rfl (nI_pos (by omega)) (nI_clamp (by omega)) (by show h.2.1 b * 4 ≤ 536870912; omega) (by omega) (by omega) hsz (fun H1 cA g1 g2 g3 g4 g5 => ?_)
    have eA : cA = E.2.2.1 0 := Option.some.inj (g5.symm.trans (C.2.2.2.2.2.1.2 0 _ rfl).2)
    subst eA
    refine W.eq (g2 := F0 m 20 lsA [.ref (E.2.2.2 + h.2.2.1), .ref (E.2.2.2 + a)]) rfl ?_
    have hS1 : jS E s H1 locs := ⟨Nat.le_trans hS.1 (by omega), fun q k1 k2 => by rw [g3 q (by have := hS.1; omega)]; exact hS.2.1 q k1 k2, hS.2.2⟩
    have hOb1 : t_OB (E.2.2.2 + a) (E.2.1.1 8) 2 (E.2.1.2 8) H1 (jrv E.2.2.2 w h a) := hOb.kept (g3 _ (by omega))
    refine jW_put (N := 0) (C0 := (RX8, TX8, 2)) (v := .ref (E.2.2.2 + h.2.2.1)) C hS1 (Nat.le_add_right _ _) dX8_copyFrom_20 fp_X8_13 rfl hOb1 rfl rfl (fun H2 locs2 m1 m2 m3 m4 => ?_)
    have hObb2 : t_OB (E.2.2.2 + b) (E.2.1.1 8) 2 (E.2.1.2 8) H2 (jrv E.2.2.2 w h b) := hObb.kept (by rw [m3 _ (by omega), g3 _ (by omega)])
    have hAb2 : H2[E.2.2.2 + h.1 b]? = some (arrV (E.2.2.1 0) (h.2.1 b) (fun i => .int (fb i))) := by
      have n1 : h.1 b ≠ a := fun z => by
        have := ob.2.2.2
        rw [z, hk] at this
        cases this
      rw [m3 _ (by omega), g3 _ (by have := ob.2.2.1; omega)]
      exact hAb
    refine rw_cptail (g := h.2.2.1) (gb := h.1 b) (L := (w.2.2.2 a).length) (P := h.2.1 b) (f := fun _ => 0) C m4 hl (m1.to (fun j hj => ?_)) (by rw [m3 _ (by omega)]; exact g1) hObb2 hAb2 (by omega) (by omega) hab hcapb.1 hcapb.1 (by omega) b5 (by omega) (fun H3 locs3 n1 n2 n3 n4 n5 => ?_)
    · by_cases hj : j = 0
      · subst hj; simp [updV, rv2]
      · simp [updV, rv2, jrv, hj]
    · have e9 : rv2 E.2.2.2 h.2.2.1 (w.2.2.2 b).length = jrv E.2.2.2 (jsetR w a (w.2.2.2 b)) (upN h.1 a h.2.2.1, upN h.2.1 a (h.2.1 b), h.2.2.1 + 1, h.2.2.2 + h.2.1 b) a := by
        funext j
        simp only [rv2, jrv, elen, upN_s]
      exact b9 H3 locs3 48 lsA [] ⟨dX8_copyFrom_48, rfl⟩ (jRel_row hR hO hk h6 (fun k hk => jal_R hk) (fun k hk => ⟨upN_n hk, upN_n hk⟩) (by rw [n3, m2, g2]; show _ = E.2.2.2 + (h.2.2.1 + 1); omega) (fun q q1 q2 q3 => by rw [n4 q q2 (by omega), m3 q q2, g3 q (by omega)]) (jcell_of_row h6 ⟨t_OB_eq n1 e9, _, fin _ fb hfb, by simp only [upN_s]; exact n2⟩)) n5
theorem c_row_copyFrom {E : jE} {a b n0 : Nat} {w : jw} (hE : jfull E) (hk : jkd E a = some (6, n0)) (hkb : jkd E b = some (6, n0)) (hab : a ≠ b) : jC E m_X8_copyFrom 1 [.ref (E.2.2.2 + a), .ref (E.2.2.2 + b)] w none (jsetR w a (w.2.2.2 b)) :=
  jC_of (by decide) rfl (fun _ => trivial) (Nat.le_of_ble_eq_true rfl) rfl rfl (x_row_copyFrom hE hk hkb hab)
