/-! kinds, fields, and the rules that look at or change a cell -/
def jFl (own : String) (idx ci j : Nat) : Prop := ∃ (C : String) (T : u_T) (N : Nat), jcl[ci]? = some (C, T, N) ∧ j < N ∧ Cond.fieldLink own idx (T j).1 (T j).2.1 (T j).2.2.1 ∈ jtbl
def jFp (own : String) (idx ci j : Nat) : Prop := ∃ (C : String) (T : u_T) (N : Nat), jcl[ci]? = some (C, T, N) ∧ j < N ∧ Cond.fieldLink own idx (T j).1 (T j).2.1 (T j).2.2.1 ∈ jtbl ∧ (T j).2.2.2 = false
def jcok (ci : Nat) (C : String) (T : u_T) (N : Nat) : Prop := (∀ w ∈ u_ws C T N, w ∈ jtbl) ∧ (∀ k, k < N → parseFieldDescriptor (T k).2.2.1 = some (jty ci k)) ∧ (∀ a, a < N → ∀ b, b < N → a ≠ b → (T a).2.1 ≠ (T b).2.1)
theorem jcok_0 : jcok 0 RX0 TX0 4 := ⟨jts [416, 418, 420, 422] (by decide +kernel) (by decide +kernel), tyX0_ok, nmX0⟩
theorem jcok_1 : jcok 1 RX1 TX1 7 := ⟨jts [432, 434, 436, 438, 440, 442, 444] (by decide +kernel) (by decide +kernel), tyX1_ok, nmX1⟩
theorem jcok_2 : jcok 2 RX2 TX2 5 := ⟨jts [317, 319, 321, 323, 325] (by decide +kernel) (by decide +kernel), tyX2_ok, nmX2⟩
theorem jcok_3 : jcok 3 RX3 TX3 3 := ⟨jts [458, 460, 462] (by decide +kernel) (by decide +kernel), tyX3_ok, nmX3⟩
theorem jcok_4 : jcok 4 RX4 TX4 4 := ⟨jts [181, 183, 185, 187] (by decide +kernel) (by decide +kernel), tyX4_ok, nmX4⟩
theorem jcok_5 : jcok 5 RX5 TX5 4 := ⟨jts [477, 479, 481, 483] (by decide +kernel) (by decide +kernel), tyX5_ok, nmX5⟩
theorem jcok_6 : jcok 6 RX6 TX6 9 := ⟨jts [278, 280, 282, 284, 286, 288, 290, 292, 294] (by decide +kernel) (by decide +kernel), tyX6_ok, nmX6⟩
theorem jcok_7 : jcok 7 RX7 TX7 9 := ⟨jts [212, 214, 216, 218, 220, 222, 224, 226, 228] (by decide +kernel) (by decide +kernel), tyX7_ok, nmX7⟩
theorem jcok_8 : jcok 8 RX8 TX8 2 := ⟨jts [158, 160] (by decide +kernel) (by decide +kernel), tyX8_ok, nmX8⟩
theorem jcok_9 : jcok 9 RX9 TX9 5 := ⟨jts [344, 346, 348, 350, 352] (by decide +kernel) (by decide +kernel), tyX9_ok, nmX9⟩
theorem jcok_10 : jcok 10 RX10 TX10 9 := ⟨jts [375, 377, 379, 381, 383, 385, 387, 389, 391] (by decide +kernel) (by decide +kernel), tyX10_ok, nmX10⟩
theorem jcok_11 : jcok 11 RX11 TX11 12 := ⟨jts [550, 552, 554, 556, 558, 560, 562, 564, 566, 568, 570, 572] (by decide +kernel) (by decide +kernel), tyX11_ok, nmX11⟩
theorem jcok_12 : jcok 12 RX12 TX12 48 := ⟨jts [1398, 1400, 1402, 1404, 1406, 1408, 1410, 1412, 1414, 1416, 1418, 1420, 1422, 1424, 1426, 1428, 1430, 1432, 1434, 1436, 1438, 1440, 1442, 1444, 1446, 1448, 1450, 1452, 1454, 1456, 1458, 1460, 1462, 1464, 1466, 1468, 1470, 1472, 1474, 1476, 1478, 1480, 1482, 1484, 1486, 1488, 1490, 1492] (by decide +kernel) (by decide +kernel), tyX12_ok, nmX12⟩
theorem jcl_ok {ci : Nat} {C : String} {T : u_T} {N : Nat} (h : jcl[ci]? = some (C, T, N)) : jcok ci C T N := by
  match ci, h with
  | 0, h => cases Option.some.inj h; exact jcok_0
  | 1, h => cases Option.some.inj h; exact jcok_1
  | 2, h => cases Option.some.inj h; exact jcok_2
  | 3, h => cases Option.some.inj h; exact jcok_3
  | 4, h => cases Option.some.inj h; exact jcok_4
  | 5, h => cases Option.some.inj h; exact jcok_5
  | 6, h => cases Option.some.inj h; exact jcok_6
  | 7, h => cases Option.some.inj h; exact jcok_7
  | 8, h => cases Option.some.inj h; exact jcok_8
  | 9, h => cases Option.some.inj h; exact jcok_9
  | 10, h => cases Option.some.inj h; exact jcok_10
  | 11, h => cases Option.some.inj h; exact jcok_11
  | 12, h => cases Option.some.inj h; exact jcok_12
  | n + 13, h => simp at h
section JH
variable {p : Program} {e : Env} {R : Room} {s : State} {m : MethodId} {args : Array Value} {below : List Frame} {meth : Method} {c : Code} {H : Heap} {locs : List Loc} {cells slots : Nat} {Q : State → Prop} {E : jE} {M : jm} {pc : Nat} {ls : Array Slot} {rest : List Value}
theorem jW_get {idx ci j a N : Nat} {V : Nat → Value} {C0 : vw_C} (C : jCx E M p s m args c) (d : decode M.2.2.1 pc = .ok (.getfield idx, 3)) (fl : jFl M.1 idx ci j) (h0 : jcl[ci]? = some C0) (hO : t_OB a (E.2.1.1 ci) C0.2.2 (E.2.1.2 ci) H V)
    (kk : W p E.1 e R s m args below meth c H locs cells slots Q (F0 m (pc + 3) ls (V j :: rest))) : W p E.1 e R s m args below meth c H locs cells slots Q (F0 m pc ls (.ref a :: rest)) := by
  obtain ⟨C1, T, N, hc, hj, hlk⟩ := fl
  cases h0.symm.trans hc
  obtain ⟨hx, hb, hml, hown, hts, hK, -⟩ := C
  obtain ⟨hin, hty, hnm⟩ := jcl_ok hc
  obtain ⟨cell, q1, q2, q3, q4⟩ := hO
  obtain ⟨hS, hfc, kC, hkC, hkind⟩ := hK.1 ci _ hc
  obtain ⟨cf, kf, fi, f, hi, hsl⟩ := hS j hj
  refine W.getf hx hb hown (hts _ hlk) hi (u_facts hfc hkC (u_lays hts hin hj) hi).1 q1 (by rw [q3]; exact fun h => by cases h) (v := V j) ?_ rfl rfl d kk
  rw [hsl, q4 j hj]
theorem jW_put {idx ci j a N : Nat} {V : Nat → Value} {v : Value} {C0 : vw_C} (C : jCx E M p s m args c) (hS0 : jS E s H locs) (hB : E.2.2.2 ≤ a) (d : decode M.2.2.1 pc = .ok (.putfield idx, 3)) (fl : jFp M.1 idx ci j) (h0 : jcl[ci]? = some C0) (hO : t_OB a (E.2.1.1 ci) C0.2.2 (E.2.1.2 ci) H V)
    (hn : narrow (jty ci j) v = v) (hf : fits (jty ci j) v = true)
    (kk : ∀ (H1 : Heap) (locs1 : List Loc), t_OB a (E.2.1.1 ci) C0.2.2 (E.2.1.2 ci) H1 (updV V j v) → H1.size = H.size → (∀ q, q ≠ a → H1[q]? = H[q]?) → jS E s H1 locs1 → W p E.1 e R s m args below meth c H1 locs1 cells slots Q (F0 m (pc + 3) ls rest)) : W p E.1 e R s m args below meth c H locs cells slots Q (F0 m pc ls (v :: .ref a :: rest)) := by
  obtain ⟨C1, T, N, hc, hj, hlk, hfin⟩ := fl
  cases h0.symm.trans hc
  obtain ⟨hx, hb, hml, hown, hts, hK, -⟩ := C
  obtain ⟨hin, hty, hnm⟩ := jcl_ok hc
  have hap := va_apart (own := M.1) hts hin (jty ci) hty hnm hK hc
  obtain ⟨cell, q1, q2, q3, q4⟩ := hO
  obtain ⟨hS, hfc, kC, hkC, hkind⟩ := hK.1 ci _ hc
  obtain ⟨cf, kf, fi, f, hi, hsl⟩ := hS j hj
  have hlay := hts _ (hin _ (u_in_lay hj))
  unfold u_lay at hlay
  rw [if_neg (by rw [hfin]; decide)] at hlay
  have hst := (u_facts hfc hkC (u_lays hts hin hj) hi).1
  have h6 := u_store hfc hkC hkind hlay hi (hty j hj) hn hf
  refine W.putK hx hb (f := f) ⟨hown, hts _ hlk, ⟨_, _, _, hi⟩, hst⟩ (by rw [q2]; exact h6) q1 q3 (by rw [hsl]; exact k2_hasslot (q4 j hj)) rfl rfl d fun H' e1 e2 e3 => ?_
  rw [hsl] at e1 ⊢
  exact kk H' _ ⟨_, e1, q2, q3, t_set q4 hap hj v⟩ e2 e3 (hS0.put e2 e3 hB)
end JH
def jsetI (w : jw) (a j : Nat) (x : Int32) : jw := (fun p q => if p = a ∧ q = j then x else w.1 p q, w.2)
def jsetX (w : jw) (a i : Nat) (x : Int32) : jw := (w.1, fun p q => if p = a ∧ q = i then x else w.2.1 p q, w.2.2)
def jsetL (w : jw) (a i : Nat) (x : Int64) : jw := (w.1, w.2.1, fun p q => if p = a ∧ q = i then x else w.2.2.1 p q, w.2.2.2)
def jsetR (w : jw) (a : Nat) (l : List Int32) : jw := (w.1, w.2.1, w.2.2.1, fun p => if p = a then l else w.2.2.2 p)
theorem jal_I {w : jw} {a j k : Nat} {x : Int32} (h : k ≠ a) : jal w (jsetI w a j x) k := ⟨by funext q; simp [jsetI, h], rfl, rfl, rfl⟩
theorem jal_X {w : jw} {a j k : Nat} {x : Int32} (h : k ≠ a) : jal w (jsetX w a j x) k := ⟨rfl, by funext q; simp [jsetX, h], rfl, rfl⟩
theorem jal_L {w : jw} {a j k : Nat} {x : Int64} (h : k ≠ a) : jal w (jsetL w a j x) k := ⟨rfl, rfl, by funext q; simp [jsetL, h], rfl⟩
theorem jal_R {w : jw} {a k : Nat} {l : List Int32} (h : k ≠ a) : jal w (jsetR w a l) k := ⟨rfl, rfl, rfl, by simp [jsetR, h]⟩
section JX2
variable {E : jE} {M : jm} {k pc : Nat} {ls : List (Nat × Value)} {rest : List Value} {w w' : jw} {r : Option Value}
theorem jx_getr {idx ci j a q : Nat} (d : decode M.2.2.1 pc = .ok (.getfield idx, 3)) (fl : jFl M.1 idx ci j) (hk : jkd E a = some (0, ci)) (hs : sref a j = some q) (kk : jX E M k (pc + 3) ls (.ref (E.2.2.2 + q) :: rest) w r w') : jX E M k pc ls (.ref (E.2.2.2 + a) :: rest) w r w' :=
  jX_go (fun h p e R s m args below meth c H locs cells slots lsA Q C hR hl kw => by
    obtain ⟨C0, h0, hO⟩ := hR.2 a _ hk
    exact jW_get (N := 0) C d fl h0 hO (by rw [jv_r hs]; exact kw _ hl)) kk
theorem jx_geti {idx ci j a : Nat} (d : decode M.2.2.1 pc = .ok (.getfield idx, 3)) (fl : jFl M.1 idx ci j) (hk : jkd E a = some (0, ci)) (hs : sref a j = none) (kk : jX E M k (pc + 3) ls (.int (w.1 a j) :: rest) w r w') : jX E M k pc ls (.ref (E.2.2.2 + a) :: rest) w r w' :=
  jX_go (fun h p e R s m args below meth c H locs cells slots lsA Q C hR hl kw => by
    obtain ⟨C0, h0, hO⟩ := hR.2 a _ hk
    exact jW_get (N := 0) C d fl h0 hO (by rw [jv_i hs]; exact kw _ hl)) kk
theorem jcell_row {E : jE} {w : jw} {h : jh} {H : Heap} {k : Nat} {q : Nat × Nat} (hc : jcell E w h H k q) (h6 : 6 ≤ q.1) : t_OB (E.2.2.2 + k) (E.2.1.1 8) 2 (E.2.1.2 8) H (jrv E.2.2.2 w h k) ∧ ∃ f : Nat → Int32, (∀ (i : Nat) (v : Int32), (w.2.2.2 k)[i]? = some v → f i = v) ∧ H[E.2.2.2 + h.1 k]? = some (arrV (E.2.2.1 0) (h.2.1 k) (fun i => .int (f i))) := by
  obtain ⟨t, n⟩ := q
  match t, h6, hc with
  | t + 6, _, hc => exact hc
theorem jcell_of_row {E : jE} {w : jw} {h : jh} {H : Heap} {k : Nat} {q : Nat × Nat} (h6 : 6 ≤ q.1) (hc : t_OB (E.2.2.2 + k) (E.2.1.1 8) 2 (E.2.1.2 8) H (jrv E.2.2.2 w h k) ∧ ∃ f : Nat → Int32, (∀ (i : Nat) (v : Int32), (w.2.2.2 k)[i]? = some v → f i = v) ∧ H[E.2.2.2 + h.1 k]? = some (arrV (E.2.2.1 0) (h.2.1 k) (fun i => .int (f i)))) : jcell E w h H k q := by
  obtain ⟨t, n⟩ := q
  match t, h6 with
  | t + 6, _ => exact hc
theorem jx_getn {idx a : Nat} {q : Nat × Nat} (d : decode M.2.2.1 pc = .ok (.getfield idx, 3)) (fl : jFl M.1 idx 8 1) (hk : jkd E a = some q) (h6 : 6 ≤ q.1) (kk : jX E M k (pc + 3) ls (.int (nI (w.2.2.2 a).length) :: rest) w r w') : jX E M k pc ls (.ref (E.2.2.2 + a) :: rest) w r w' :=
  jX_go (fun h p e R s m args below meth c H locs cells slots lsA Q C hR hl kw => by
    obtain ⟨hO, -⟩ := jcell_row (hR.2 a _ hk) h6
    exact jW_get (N := 0) (C0 := (RX8, TX8, 2)) C d fl rfl hO (kw _ hl)) kk
theorem jx_puti {idx ci j a : Nat} {x : Int32} (d : decode M.2.2.1 pc = .ok (.putfield idx, 3)) (fl : jFp M.1 idx ci j) (hk : jkd E a = some (0, ci)) (hs : sref a j = none) (hn : narrow (jty ci j) (.int x) = .int x) (hf : fits (jty ci j) (.int x) = true)
    (kk : jX E M k (pc + 3) ls rest (jsetI w a j x) r w') : jX E M k pc ls (.int x :: .ref (E.2.2.2 + a) :: rest) w r w' := by
  refine jX_wr (w1 := (jsetI w a j x)) (fun _ => rfl) (fun h p e R s m args below meth c H locs cells slots lsA Q C hR hO hS kw => ?_) kk
  obtain ⟨C0, h0, hOb⟩ := hR.2 a _ hk
  refine jW_put (N := 0) C hS (Nat.le_add_right _ _) d fl h0 hOb hn hf (fun H1 locs1 g1 g2 g3 g4 => ?_)
  refine kw H1 locs1 (jRel_set hR hO hk (fun k hk => jal_I hk) g2 g3 ⟨C0, h0, g1.to (fun i _ => ?_)⟩) g4
  unfold updV
  by_cases hi : i = j
  · subst hi
    rw [if_pos rfl, jv_i hs]
    simp [jsetI]
  · rw [if_neg hi]
    unfold jv
    cases sref a i with
    | some q => rfl
    | none => simp [jsetI, hi]
theorem jx_iald {a n : Nat} {i : Int32} (d : decode M.2.2.1 pc = .ok (.iaload, 1)) (hk : jkd E a = some (1, n)) (hi : vp_in i n) (kk : jX E M k (pc + 1) ls (.int (w.2.1 a i.toNatClampNeg) :: rest) w r w') : jX E M k pc ls (.int i :: .ref (E.2.2.2 + a) :: rest) w r w' :=
  jX_go (fun h p e R s m args below meth c H locs cells slots lsA Q C hR hl kw => by
    have hlt : i.toNatClampNeg < n := Nat.not_le.mp fun q => hi (Or.inr q)
    exact W.iald (v := .int (w.2.1 a i.toNatClampNeg)) C.1 C.2.1 (hR.2 a _ hk) ((C.2.2.2.2.2.1.2 0 _ rfl).1 n (fun j => .int (w.2.1 a j))) (fun q => by cases q) (by rw [arrV_size]; exact hi) (by rw [arrV_read _ _ hlt]) rfl rfl d (kw _ hl)) kk
theorem jx_bald {a n : Nat} {i : Int32} (d : decode M.2.2.1 pc = .ok (.baload, 1)) (hk : jkd E a = some (2, n)) (hi : vp_in i n) (kk : jX E M k (pc + 1) ls (.int (w.2.1 a i.toNatClampNeg) :: rest) w r w') : jX E M k pc ls (.int i :: .ref (E.2.2.2 + a) :: rest) w r w' :=
  jX_go (fun h p e R s m args below meth c H locs cells slots lsA Q C hR hl kw => by
    have hlt : i.toNatClampNeg < n := Nat.not_le.mp fun q => hi (Or.inr q)
    exact W.bald (v := .int (w.2.1 a i.toNatClampNeg)) C.1 C.2.1 (hR.2 a _ hk) ((C.2.2.2.2.2.1.2 1 _ rfl).1 n (fun j => .int (w.2.1 a j))) (fun q => by cases q) (by rw [arrV_size]; exact hi) (by rw [arrV_read _ _ hlt]) rfl rfl d (kw _ hl)) kk
theorem jx_zald {a n : Nat} {i : Int32} (d : decode M.2.2.1 pc = .ok (.baload, 1)) (hk : jkd E a = some (3, n)) (hi : vp_in i n) (kk : jX E M k (pc + 1) ls (.int (w.2.1 a i.toNatClampNeg) :: rest) w r w') : jX E M k pc ls (.int i :: .ref (E.2.2.2 + a) :: rest) w r w' :=
  jX_go (fun h p e R s m args below meth c H locs cells slots lsA Q C hR hl kw => by
    have hlt : i.toNatClampNeg < n := Nat.not_le.mp fun q => hi (Or.inr q)
    exact W.zald (v := .int (w.2.1 a i.toNatClampNeg)) C.1 C.2.1 (hR.2 a _ hk) ((C.2.2.2.2.2.1.2 3 _ rfl).1 n (fun j => .int (w.2.1 a j))) (fun q => by cases q) (by rw [arrV_size]; exact hi) (by rw [arrV_read _ _ hlt]) rfl rfl d (kw _ hl)) kk
theorem jx_lald {a n : Nat} {i : Int32} (d : decode M.2.2.1 pc = .ok (.laload, 1)) (hk : jkd E a = some (4, n)) (hi : vp_in i n) (kk : jX E M k (pc + 1) ls (.long (w.2.2.1 a i.toNatClampNeg) :: rest) w r w') : jX E M k pc ls (.int i :: .ref (E.2.2.2 + a) :: rest) w r w' :=
  jX_go (fun h p e R s m args below meth c H locs cells slots lsA Q C hR hl kw => by
    have hlt : i.toNatClampNeg < n := Nat.not_le.mp fun q => hi (Or.inr q)
    exact W.lald (v := .long (w.2.2.1 a i.toNatClampNeg)) C.1 C.2.1 (hR.2 a _ hk) ((C.2.2.2.2.2.1.2 2 _ rfl).1 n (fun j => .long (w.2.2.1 a j))) (fun q => by cases q) (by rw [arrV_size]; exact hi) (by rw [arrV_read _ _ hlt]) rfl rfl d (kw _ hl)) kk
theorem jx_aald {a n : Nat} {i : Int32} (d : decode M.2.2.1 pc = .ok (.aaload, 1)) (hk : jkd E a = some (5, n)) (hi : vp_in i n) (kk : jX E M k (pc + 1) ls (.ref (E.2.2.2 + (69 + 31 * i.toNatClampNeg)) :: rest) w r w') : jX E M k pc ls (.int i :: .ref (E.2.2.2 + a) :: rest) w r w' :=
  jX_go (fun h p e R s m args below meth c H locs cells slots lsA Q C hR hl kw => by
    have hlt : i.toNatClampNeg < n := Nat.not_le.mp fun q => hi (Or.inr q)
    exact W.aald (v := .ref (E.2.2.2 + (69 + 31 * i.toNatClampNeg))) (ty := .object RX9) C.1 C.2.1 (hR.2 a _ hk) ((C.2.2.2.2.2.1.2 4 _ rfl).1 n _) rfl (fun q => by cases q) (by rw [arrV_size]; exact hi) (by rw [arrV_read _ _ hlt]) rfl rfl d (kw _ hl)) kk
theorem jx_alen {a n : Nat} (d : decode M.2.2.1 pc = .ok (.arraylength, 1)) (hk : jkd E a = some (5, n)) (kk : jX E M k (pc + 1) ls (.int (nI n) :: rest) w r w') : jX E M k pc ls (.ref (E.2.2.2 + a) :: rest) w r w' :=
  jX_go (fun h p e R s m args below meth c H locs cells slots lsA Q C hR hl kw => by
    exact W.alen (n := nI n) C.1 C.2.1 (hR.2 a _ hk) ((C.2.2.2.2.2.1.2 4 _ rfl).1 n _) (by rw [arrV_size]; rfl) rfl rfl d (kw _ hl)) kk
theorem jx_iast {a n : Nat} {i x : Int32} (d : decode M.2.2.1 pc = .ok (.iastore, 1)) (hk : jkd E a = some (1, n)) (hi : vp_in i n) (kk : jX E M k (pc + 1) ls rest (jsetX w a i.toNatClampNeg x) r w') : jX E M k pc ls (.int x :: .int i :: .ref (E.2.2.2 + a) :: rest) w r w' := by
  refine jX_wr (w1 := (jsetX w a i.toNatClampNeg x)) (fun _ => rfl) (fun h p e R s m args below meth c H locs cells slots lsA Q C hR hO hS kw => ?_) kk
  have hcl : H[E.2.2.2 + a]? = some (arrV (E.2.2.1 0) n (fun i => .int (w.2.1 a i))) := hR.2 a _ hk
  refine W.iast C.1 C.2.1 hcl ((C.2.2.2.2.2.1.2 0 _ rfl).1 n (fun j => .int (w.2.1 a j))) (fun q => by cases q) (by rw [arrV_size]; exact hi) rfl rfl d fun H1 e1 z oq => ?_
  refine kw H1 _ (jRel_set hR hO hk (fun k hk => jal_X hk) z oq ?_) (hS.put z oq (Nat.le_add_right _ _))
  show H1[E.2.2.2 + a]? = some _
  rw [e1, arrV_store]
  congr 2
  funext q
  by_cases hq : q = i.toNatClampNeg <;> simp [updV, jsetX, hq]
theorem jx_bast {a n : Nat} {i x : Int32} (d : decode M.2.2.1 pc = .ok (.bastore, 1)) (hk : jkd E a = some (2, n)) (hi : vp_in i n) (kk : jX E M k (pc + 1) ls rest (jsetX w a i.toNatClampNeg x.toInt8.toInt32) r w') : jX E M k pc ls (.int x :: .int i :: .ref (E.2.2.2 + a) :: rest) w r w' := by
  refine jX_wr (w1 := (jsetX w a i.toNatClampNeg x.toInt8.toInt32)) (fun _ => rfl) (fun h p e R s m args below meth c H locs cells slots lsA Q C hR hO hS kw => ?_) kk
  have hcl : H[E.2.2.2 + a]? = some (arrV (E.2.2.1 1) n (fun i => .int (w.2.1 a i))) := hR.2 a _ hk
  refine W.bast C.1 C.2.1 hcl ((C.2.2.2.2.2.1.2 1 _ rfl).1 n (fun j => .int (w.2.1 a j))) (fun q => by cases q) (by rw [arrV_size]; exact hi) rfl rfl d fun H1 e1 z oq => ?_
  refine kw H1 _ (jRel_set hR hO hk (fun k hk => jal_X hk) z oq ?_) (hS.put z oq (Nat.le_add_right _ _))
  show H1[E.2.2.2 + a]? = some _
  rw [e1, arrV_store]
  congr 2
  funext q
  by_cases hq : q = i.toNatClampNeg <;> simp [updV, jsetX, hq, narrow_byte]
theorem jx_zast {a n : Nat} {i x : Int32} (d : decode M.2.2.1 pc = .ok (.bastore, 1)) (hk : jkd E a = some (3, n)) (hi : vp_in i n) (hx : narrow .boolean (.int x) = .int x) (kk : jX E M k (pc + 1) ls rest (jsetX w a i.toNatClampNeg x) r w') : jX E M k pc ls (.int x :: .int i :: .ref (E.2.2.2 + a) :: rest) w r w' := by
  refine jX_wr (w1 := (jsetX w a i.toNatClampNeg x)) (fun _ => rfl) (fun h p e R s m args below meth c H locs cells slots lsA Q C hR hO hS kw => ?_) kk
  have hcl : H[E.2.2.2 + a]? = some (arrV (E.2.2.1 3) n (fun i => .int (w.2.1 a i))) := hR.2 a _ hk
  refine W.zast C.1 C.2.1 hcl ((C.2.2.2.2.2.1.2 3 _ rfl).1 n (fun j => .int (w.2.1 a j))) (fun q => by cases q) (by rw [arrV_size]; exact hi) rfl rfl d fun H1 e1 z oq => ?_
  refine kw H1 _ (jRel_set hR hO hk (fun k hk => jal_X hk) z oq ?_) (hS.put z oq (Nat.le_add_right _ _))
  show H1[E.2.2.2 + a]? = some _
  rw [e1, arrV_store, hx]
  congr 2
  funext q
  by_cases hq : q = i.toNatClampNeg <;> simp [updV, jsetX, hq]
theorem jx_last {a n : Nat} {i : Int32} {x : Int64} (d : decode M.2.2.1 pc = .ok (.lastore, 1)) (hk : jkd E a = some (4, n)) (hi : vp_in i n) (kk : jX E M k (pc + 1) ls rest (jsetL w a i.toNatClampNeg x) r w') : jX E M k pc ls (.long x :: .int i :: .ref (E.2.2.2 + a) :: rest) w r w' := by
  refine jX_wr (w1 := (jsetL w a i.toNatClampNeg x)) (fun _ => rfl) (fun h p e R s m args below meth c H locs cells slots lsA Q C hR hO hS kw => ?_) kk
  have hcl : H[E.2.2.2 + a]? = some (arrV (E.2.2.1 2) n (fun i => .long (w.2.2.1 a i))) := hR.2 a _ hk
  refine W.last C.1 C.2.1 hcl ((C.2.2.2.2.2.1.2 2 _ rfl).1 n (fun j => .long (w.2.2.1 a j))) (fun q => by cases q) (by rw [arrV_size]; exact hi) rfl rfl d fun H1 e1 z oq => ?_
  refine kw H1 _ (jRel_set hR hO hk (fun k hk => jal_L hk) z oq ?_) (hS.put z oq (Nat.le_add_right _ _))
  show H1[E.2.2.2 + a]? = some _
  rw [e1, arrV_store]
  congr 2
  funext q
  by_cases hq : q = i.toNatClampNeg <;> simp [updV, jsetL, hq]
end JX2
