/-! contracts of the JDK's methods over the constant texts -/
def sch (i k : Nat) : Int32 := ((((sbyt.getD i []).getD k 0) &&& 255).toUInt32 % 65536).toInt32
def sixF (c : Int32) : List Int32 → Nat → Int32
  | [], _ => -1
  | b :: l, k => if b = c.toInt8.toInt32 then nI k else sixF c l (k + 1)
def six (i : Nat) (c : Int32) : Int32 := if c < 0 then -1 else if 255 < c then -1 else sixF c (sbyt.getD i []) 0
theorem slen_b : ∀ i, i < 12 → slen.getD i 0 = (sbyt.getD i []).length ∧ 0 < slen.getD i 0 ∧ slen.getD i 0 < 100 ∧ nI (slen.getD i 0) >>> ((0 : Int32) &&& 31) = nI (slen.getD i 0) := by decide
theorem pnJ0 : plainName RJ0 = true := by decide
theorem pnJ1 : plainName RJ1 = true := by decide
theorem pnJ3 : plainName RJ3 = true := by decide
section JSC
variable {E : jE} {A : (Nat → Nat) × Option Nat} {i : Nat} {w : jw}
set_option maxRecDepth 20000 in
set_option maxHeartbeats 2000000 in
theorem c_coder (hi : i < 12) : jC E (m_J0_coder A) 0 [.ref (A.1 i)] w (some (.int 0)) w := by
  refine jC_of (ls := [(0, .ref (A.1 i))]) pnJ0 rfl (fun _ => trivial) (Nat.le_of_ble_eq_true rfl) rfl ⟨.byte, rfl, rfl⟩ ?_
  refine jx_scs rfl fl_ss dJ0_coder_0 ?_
  refine jx_if_eq (tgt := 13) dJ0_coder_3 (by decide) (fun c => absurd c (by decide)) (fun _ => ?_)
  refine jx_aload_n dJ0_coder_6 rfl ?_
  refine jx_scod rfl hi fl_sc dJ0_coder_7 ?_
  refine jx_goto (tgt := 14) dJ0_coder_10 (by decide) ?_
  exact jx_iret dJ0_coder_14 rfl rfl
set_option maxRecDepth 20000 in
set_option maxHeartbeats 2000000 in
theorem c_latin (hi : i < 12) : jC E (m_J0_isLatin1 A) 0 [.ref (A.1 i)] w (some (.int 1)) w := by
  refine jC_of (ls := [(0, .ref (A.1 i))]) pnJ0 rfl (fun _ => trivial) (Nat.le_of_ble_eq_true rfl) rfl ⟨.boolean, rfl, rfl⟩ ?_
  refine jx_scs rfl fl_ss dJ0_isLatin1_0 ?_
  refine jx_if_eq (tgt := 17) dJ0_isLatin1_3 (by decide) (fun c => absurd c (by decide)) (fun _ => ?_)
  refine jx_aload_n dJ0_isLatin1_6 rfl ?_
  refine jx_scod rfl hi fl_sc dJ0_isLatin1_7 ?_
  refine jx_if_ne (tgt := 17) dJ0_isLatin1_10 (by decide) (fun c => absurd rfl c) (fun _ => ?_)
  refine jx_iconst (v := 1) dJ0_isLatin1_13 (by decide) ?_
  refine jx_goto (tgt := 18) dJ0_isLatin1_14 (by decide) ?_
  exact jx_iret dJ0_isLatin1_18 rfl rfl
set_option maxRecDepth 20000 in
set_option maxHeartbeats 2000000 in
theorem c_slen (hi : i < 12) : jC E (m_J0_length A) 1 [.ref (A.1 i)] w (some (.int (nI (slen.getD i 0)))) w := by
  refine jC_of (ls := [(0, .ref (A.1 i))]) pnJ0 rfl (fun _ => trivial) (Nat.le_of_ble_eq_true rfl) rfl ⟨.int, rfl, rfl⟩ ?_
  refine jx_aload_n dJ0_length_0 rfl ?_
  refine jx_sval rfl hi fl_sv dJ0_length_1 ?_
  refine jx_sal rfl hi dJ0_length_4 ?_
  refine jx_aload_n dJ0_length_5 rfl ?_
  refine jx_cVs (As := []) (rest := [.int (nI (slen.getD i 0))]) rfl hi dJ0_length_6 ml_s335 (mv_J0_coder (A := A)) (c_coder hi) rfl rfl rfl (by decide) (Nat.le_of_ble_eq_true rfl) (Zs_i rfl rfl) ?_
  refine jx_ishr dJ0_length_9 ?_
  exact jx_iret dJ0_length_10 (by rw [(slen_b i hi).2.2.2]) rfl
set_option maxRecDepth 20000 in
set_option maxHeartbeats 2000000 in
theorem c_ck3 {a n : Int32} (h0 : ¬ a < 0) (h1 : a < n) : jC E (m_J3_checkIndex A) 0 [.int a, .int n, va_rf A.2] w (some (.int a)) w := by
  have key : ∀ v : Value, jX E (m_J3_checkIndex A) 0 0 [(0, .int a), (1, .int n), (2, v)] [] w (some (.int a)) w := by
    intro v
    refine jx_iload_n dJ3_checkIndex_0 rfl ?_
    refine jx_if_lt (tgt := 9) dJ3_checkIndex_1 (by decide) (fun c => absurd c h0) (fun _ => ?_)
    refine jx_iload_n dJ3_checkIndex_4 rfl ?_
    refine jx_iload_n dJ3_checkIndex_5 rfl ?_
    refine jx_icmp_lt (tgt := 16) dJ3_checkIndex_6 (by decide) (fun _ => ?_) (fun c => absurd h1 c)
    refine jx_iload_n dJ3_checkIndex_16 rfl ?_
    exact jx_iret dJ3_checkIndex_17 rfl rfl
  obtain ⟨A1, A2⟩ := A
  cases A2 with
  | none => exact jC_of (ls := [(0, .int a), (1, .int n), (2, .null)]) pnJ3 rfl (fun _ => trivial) (Nat.le_of_ble_eq_true rfl) rfl ⟨.int, rfl, rfl⟩ (key _)
  | some t => exact jC_of (ls := [(0, .int a), (1, .int n), (2, .ref t)]) pnJ3 rfl (fun _ => trivial) (Nat.le_of_ble_eq_true rfl) rfl ⟨.int, rfl, rfl⟩ (key _)
set_option maxRecDepth 20000 in
set_option maxHeartbeats 2000000 in
theorem c_ck0 {a n : Int32} (h0 : ¬ a < 0) (h1 : a < n) : jC E (m_J0_checkIndex A) 1 [.int a, .int n] w none w := by
  refine jC_of (ls := [(0, .int a), (1, .int n)]) pnJ0 rfl (fun _ => trivial) (Nat.le_of_ble_eq_true rfl) rfl rfl ?_
  refine jx_iload_n dJ0_checkIndex_0 rfl ?_
  refine jx_iload_n dJ0_checkIndex_1 rfl ?_
  refine jx_sfm rfl fl_sf dJ0_checkIndex_2 ?_
  refine jx_cGi (As := [.int a, .int n, va_rf A.2]) (rest := []) dJ0_checkIndex_5 ml_s1059 (ms_J3_checkIndex (A := A)) (c_ck3 h0 h1) rfl rfl (by decide) (Nat.le_of_ble_eq_true rfl) ?_ (Zs_i rfl rfl)
  refine jx_pop dJ0_checkIndex_8 rfl ?_
  exact jx_vret dJ0_checkIndex_9 rfl rfl
set_option maxRecDepth 20000 in
set_option maxHeartbeats 2000000 in
theorem c_l1char {k : Nat} (hi : i < 12) (hk : k < slen.getD i 0) : jC E (m_J1_charAt A) 2 [.ref (A.1 (100 + i)), .int (nI k)] w (some (.int (sch i k))) w := by
  obtain ⟨-, -, hb, -⟩ := slen_b i hi
  refine jC_of (ls := [(0, .ref (A.1 (100 + i))), (1, .int (nI k))]) pnJ1 rfl (fun _ => trivial) (Nat.le_of_ble_eq_true rfl) rfl ⟨.char, rfl, pk_nc _⟩ ?_
  refine jx_iload_n dJ1_charAt_0 rfl ?_
  refine jx_aload_n dJ1_charAt_1 rfl ?_
  refine jx_sal rfl hi dJ1_charAt_2 ?_
  refine jx_cGv (As := [.int (nI k), .int (nI (slen.getD i 0))]) (rest := []) dJ1_charAt_3 ml_s9 (ms_J0_checkIndex (A := A)) (c_ck0 (nI_pos (by omega)) (nI_lt hk (by omega))) rfl rfl (by decide) (Nat.le_of_ble_eq_true rfl) (Zs_i rfl rfl) ?_
  refine jx_aload_n dJ1_charAt_6 rfl ?_
  refine jx_iload_n dJ1_charAt_7 rfl ?_
  refine jx_sbal rfl hi hk dJ1_charAt_8 ?_
  refine jx_sipush (v := 255) dJ1_charAt_9 (by decide) ?_
  refine jx_iand dJ1_charAt_12 ?_
  refine jx_i2c dJ1_charAt_13 ?_
  exact jx_iret dJ1_charAt_14 rfl rfl
set_option maxRecDepth 20000 in
set_option maxHeartbeats 2000000 in
theorem c_char {k : Nat} (hi : i < 12) (hk : k < slen.getD i 0) : jC E (m_J0_charAt A) 3 [.ref (A.1 i), .int (nI k)] w (some (.int (sch i k))) w := by
  refine jC_of (ls := [(0, .ref (A.1 i)), (1, .int (nI k))]) pnJ0 rfl (fun _ => trivial) (Nat.le_of_ble_eq_true rfl) rfl ⟨.char, rfl, pk_nc _⟩ ?_
  refine jx_aload_n dJ0_charAt_0 rfl ?_
  refine jx_cVs (As := []) (rest := []) rfl hi dJ0_charAt_1 ml_s492 (mv_J0_isLatin1 (A := A)) (c_latin hi) rfl rfl rfl (by decide) (Nat.le_of_ble_eq_true rfl) (Zs_i rfl rfl) ?_
  refine jx_if_eq (tgt := 16) dJ0_charAt_4 (by decide) (fun c => absurd c (by decide)) (fun _ => ?_)
  refine jx_aload_n dJ0_charAt_7 rfl ?_
  refine jx_sval rfl hi fl_sv dJ0_charAt_8 ?_
  refine jx_iload_n dJ0_charAt_11 rfl ?_
  refine jx_cGi (As := [.ref (A.1 (100 + i)), .int (nI k)]) (rest := []) dJ0_charAt_12 ml_s495 (ms_J1_charAt (A := A)) (c_l1char hi hk) rfl rfl (by decide) (Nat.le_of_ble_eq_true rfl) ?_ (Zs_i rfl rfl)
  exact jx_iret dJ0_charAt_15 rfl rfl
theorem can_ans (c : Int32) : jAns (some .boolean) (some (.int (if c < 0 then 0 else if 255 < c then 0 else 1))) := by
  refine ⟨.boolean, rfl, ?_⟩
  by_cases c1 : c < 0
  · rw [if_pos c1]; rfl
  · rw [if_neg c1]
    by_cases c2 : 255 < c
    · rw [if_pos c2]; rfl
    · rw [if_neg c2]; rfl
set_option maxRecDepth 20000 in
set_option maxHeartbeats 2000000 in
theorem c_can {c : Int32} : jC E (m_J1_canEncode A) 0 [.int c] w (some (.int (if c < 0 then 0 else if 255 < c then 0 else 1))) w := by
  refine jC_of (ls := [(0, .int c)]) pnJ1 rfl (fun _ => trivial) (Nat.le_of_ble_eq_true rfl) rfl (can_ans c) ?_
  refine jx_iload_n dJ1_canEncode_0 rfl ?_
  refine jx_if_lt (tgt := 15) dJ1_canEncode_1 (by decide) (fun c1 => ?_) (fun c1 => ?_)
  · refine jx_iconst (v := 0) dJ1_canEncode_15 (by decide) ?_
    exact jx_iret dJ1_canEncode_16 (by rw [if_pos c1]) rfl
  refine jx_iload_n dJ1_canEncode_4 rfl ?_
  refine jx_sipush (v := 255) dJ1_canEncode_5 (by decide) ?_
  refine jx_icmp_gt (tgt := 15) dJ1_canEncode_8 (by decide) (fun c2 => ?_) (fun c2 => ?_)
  · refine jx_iconst (v := 0) dJ1_canEncode_15 (by decide) ?_
    exact jx_iret dJ1_canEncode_16 (by rw [if_neg c1, if_pos c2]) rfl
  refine jx_iconst (v := 1) dJ1_canEncode_11 (by decide) ?_
  refine jx_goto (tgt := 16) dJ1_canEncode_12 (by decide) ?_
  exact jx_iret dJ1_canEncode_16 (by rw [if_neg c1, if_neg c2]) rfl
set_option maxRecDepth 20000 in
set_option maxHeartbeats 2000000 in
theorem x_ixLoop {c : Int32} (hi : i < 12) : ∀ (l : List Int32) (k : Nat), (sbyt.getD i []).drop k = l → k ≤ slen.getD i 0 → jX E (m_J1_indexOfChar A) 0 7 [(0, .ref (A.1 (100 + i))), (1, .int c), (2, .int 0), (3, .int (nI (slen.getD i 0))), (4, .int c.toInt8.toInt32), (5, .int (nI k))] [] w (some (.int (sixF c l k))) w := by
  obtain ⟨hl, -, hb, -⟩ := slen_b i hi
  intro l
  induction l with
  | nil =>
    intro k e hk
    have q : (sbyt.getD i []).length ≤ k := List.drop_eq_nil_iff.mp e
    refine jx_iload dJ1_indexOfChar_7 rfl ?_
    refine jx_iload_n dJ1_indexOfChar_9 rfl ?_
    refine jx_icmp_ge (tgt := 31) dJ1_indexOfChar_10 (by decide) (fun _ => ?_) (fun c1 => absurd (nI_le (by omega) (by omega)) c1)
    refine jx_iconst (v := (-1)) dJ1_indexOfChar_31 (by decide) ?_
    exact jx_iret dJ1_indexOfChar_32 rfl rfl
  | cons b l ih =>
    intro k e hk
    have hkl : k < (sbyt.getD i []).length := by
      rcases Nat.lt_or_ge k (sbyt.getD i []).length with z | z
      · exact z
      · rw [List.drop_eq_nil_iff.mpr z] at e; cases e
    have e1 : (sbyt.getD i [])[k]? = some b := by rw [← List.head?_drop, e]; rfl
    have e2 : (sbyt.getD i []).getD k 0 = b := by rw [List.getD_eq_getElem?_getD, e1]; rfl
    have e3 : (sbyt.getD i []).drop (k + 1) = l := by rw [← List.drop_drop, e]; rfl
    refine jx_iload dJ1_indexOfChar_7 rfl ?_
    refine jx_iload_n dJ1_indexOfChar_9 rfl ?_
    refine jx_icmp_ge (tgt := 31) dJ1_indexOfChar_10 (by decide) (fun c1 => absurd ((nI_leI (by omega) (by omega)).mp c1) (by omega)) (fun _ => ?_)
    refine jx_aload_n dJ1_indexOfChar_13 rfl ?_
    refine jx_iload dJ1_indexOfChar_14 rfl ?_
    refine jx_sbal rfl hi (by omega) dJ1_indexOfChar_16 ?_
    rw [e2]
    refine jx_iload dJ1_indexOfChar_17 rfl ?_
    refine jx_icmp_ne (tgt := 25) dJ1_indexOfChar_19 (by decide) (fun c2 => ?_) (fun c2 => ?_)
    · refine jx_iinc (v := nI (k + 1)) (ls' := [(0, .ref (A.1 (100 + i))), (1, .int c), (2, .int 0), (3, .int (nI (slen.getD i 0))), (4, .int c.toInt8.toInt32), (5, .int (nI (k + 1)))]) dJ1_indexOfChar_25 rfl (by rw [← nI_1]; rfl) (show 5 < 6 by decide) rfl ?_
      refine jx_goto (tgt := 7) dJ1_indexOfChar_28 (by decide) ?_
      rw [sixF, if_neg c2]
      exact ih (k + 1) e3 (by omega)
    · refine jx_iload dJ1_indexOfChar_22 rfl ?_
      exact jx_iret dJ1_indexOfChar_24 (by rw [sixF, if_pos c2]) rfl
set_option maxRecDepth 20000 in
set_option maxHeartbeats 2000000 in
theorem c_ixChar {c : Int32} (hi : i < 12) : jC E (m_J1_indexOfChar A) 0 [.ref (A.1 (100 + i)), .int c, .int 0, .int (nI (slen.getD i 0))] w (some (.int (sixF c (sbyt.getD i []) 0))) w := by
  refine jC_of (ls := [(0, .ref (A.1 (100 + i))), (1, .int c), (2, .int 0), (3, .int (nI (slen.getD i 0)))]) pnJ1 rfl (fun _ => trivial) (Nat.le_of_ble_eq_true rfl) rfl ⟨.int, rfl, rfl⟩ ?_
  refine jx_iload_n dJ1_indexOfChar_0 rfl ?_
  refine jx_i2b dJ1_indexOfChar_1 ?_
  refine jx_istore (ls' := [(0, .ref (A.1 (100 + i))), (1, .int c), (2, .int 0), (3, .int (nI (slen.getD i 0))), (4, .int c.toInt8.toInt32)]) dJ1_indexOfChar_2 (show 4 < 6 by decide) rfl ?_
  refine jx_iload_n dJ1_indexOfChar_4 rfl ?_
  refine jx_istore (ls' := [(0, .ref (A.1 (100 + i))), (1, .int c), (2, .int 0), (3, .int (nI (slen.getD i 0))), (4, .int c.toInt8.toInt32), (5, .int (nI 0))]) dJ1_indexOfChar_5 (show 5 < 6 by decide) rfl ?_
  exact x_ixLoop hi _ 0 rfl (Nat.zero_le _)
set_option maxRecDepth 20000 in
set_option maxHeartbeats 2000000 in
theorem c_ix1 {c : Int32} (hi : i < 12) : jC E (m_J1_indexOf A) 1 [.ref (A.1 (100 + i)), .int c, .int 0, .int (nI (slen.getD i 0))] w (some (.int (six i c))) w := by
  obtain ⟨hl, h0, hb, -⟩ := slen_b i hi
  refine jC_of (ls := [(0, .ref (A.1 (100 + i))), (1, .int c), (2, .int 0), (3, .int (nI (slen.getD i 0)))]) pnJ1 rfl (fun _ => trivial) (Nat.le_of_ble_eq_true rfl) rfl ⟨.int, rfl, rfl⟩ ?_
  refine jx_iload_n dJ1_indexOf_0 rfl ?_
  refine jx_cGi (As := [.int c]) (rest := []) dJ1_indexOf_1 ml_s88 (ms_J1_canEncode (A := A)) c_can rfl rfl (by decide) (Nat.le_of_ble_eq_true rfl) ?_ (Zs_i rfl rfl)
  by_cases c1 : c < 0
  · rw [if_pos c1]
    refine jx_if_ne (tgt := 9) dJ1_indexOf_4 (by decide) (fun z => absurd rfl z) (fun _ => ?_)
    refine jx_iconst (v := (-1)) dJ1_indexOf_7 (by decide) ?_
    exact jx_iret dJ1_indexOf_8 (by rw [six, if_pos c1]) rfl
  · rw [if_neg c1]
    by_cases c2 : 255 < c
    · rw [if_pos c2]
      refine jx_if_ne (tgt := 9) dJ1_indexOf_4 (by decide) (fun z => absurd rfl z) (fun _ => ?_)
      refine jx_iconst (v := (-1)) dJ1_indexOf_7 (by decide) ?_
      exact jx_iret dJ1_indexOf_8 (by rw [six, if_neg c1, if_pos c2]) rfl
    · rw [if_neg c2]
      refine jx_if_ne (tgt := 9) dJ1_indexOf_4 (by decide) (fun _ => ?_) (fun z => absurd z (by decide))
      refine jx_iload_n dJ1_indexOf_9 rfl ?_
      refine jx_iconst (v := 0) dJ1_indexOf_10 (by decide) ?_
      refine jx_mmax dJ1_indexOf_11 ml_s92 (by decide) (Nat.le_of_ble_eq_true rfl) ?_
      refine jx_istore_n (ls' := [(0, .ref (A.1 (100 + i))), (1, .int c), (2, .int 0), (3, .int (nI (slen.getD i 0)))]) dJ1_indexOf_14 (show 2 < 4 by decide) rfl ?_
      refine jx_iload_n dJ1_indexOf_15 rfl ?_
      refine jx_aload_n dJ1_indexOf_16 rfl ?_
      refine jx_sal rfl hi dJ1_indexOf_17 ?_
      refine jx_mmin dJ1_indexOf_18 ml_s38 (by decide) (Nat.le_of_ble_eq_true rfl) ?_
      rw [ite_self]
      refine jx_istore_n (ls' := [(0, .ref (A.1 (100 + i))), (1, .int c), (2, .int 0), (3, .int (nI (slen.getD i 0)))]) dJ1_indexOf_21 (show 3 < 4 by decide) rfl ?_
      refine jx_iload_n dJ1_indexOf_22 rfl ?_
      refine jx_iload_n dJ1_indexOf_23 rfl ?_
      refine jx_icmp_lt (tgt := 29) dJ1_indexOf_24 (by decide) (fun _ => ?_) (fun z => absurd (nI_lt (a := 0) h0 (by omega)) z)
      refine jx_aload_n dJ1_indexOf_29 rfl ?_
      refine jx_iload_n dJ1_indexOf_30 rfl ?_
      refine jx_iload_n dJ1_indexOf_31 rfl ?_
      refine jx_iload_n dJ1_indexOf_32 rfl ?_
      refine jx_cGi (As := [.ref (A.1 (100 + i)), .int c, .int 0, .int (nI (slen.getD i 0))]) (rest := []) dJ1_indexOf_33 ml_s95 (ms_J1_indexOfChar (A := A)) (c_ixChar hi) rfl rfl (by decide) (Nat.le_of_ble_eq_true rfl) ?_ (Zs_i rfl rfl)
      exact jx_iret dJ1_indexOf_36 (by rw [six, if_neg c1, if_neg c2]) rfl
set_option maxRecDepth 20000 in
set_option maxHeartbeats 2000000 in
theorem c_ix2 {c : Int32} (hi : i < 12) : jC E (m_J0_indexOf2 A) 2 [.ref (A.1 i), .int c, .int 0] w (some (.int (six i c))) w := by
  refine jC_of (ls := [(0, .ref (A.1 i)), (1, .int c), (2, .int 0)]) pnJ0 rfl (fun _ => trivial) (Nat.le_of_ble_eq_true rfl) rfl ⟨.int, rfl, rfl⟩ ?_
  refine jx_aload_n dJ0_indexOf2_0 rfl ?_
  refine jx_cVs (As := []) (rest := []) rfl hi dJ0_indexOf2_1 ml_s492 (mv_J0_isLatin1 (A := A)) (c_latin hi) rfl rfl rfl (by decide) (Nat.le_of_ble_eq_true rfl) (Zs_i rfl rfl) ?_
  refine jx_if_eq (tgt := 23) dJ0_indexOf2_4 (by decide) (fun c => absurd c (by decide)) (fun _ => ?_)
  refine jx_aload_n dJ0_indexOf2_7 rfl ?_
  refine jx_sval rfl hi fl_sv dJ0_indexOf2_8 ?_
  refine jx_iload_n dJ0_indexOf2_11 rfl ?_
  refine jx_iload_n dJ0_indexOf2_12 rfl ?_
  refine jx_aload_n dJ0_indexOf2_13 rfl ?_
  refine jx_cVs (As := []) (rest := [.int 0, .int c, .ref (A.1 (100 + i))]) rfl hi dJ0_indexOf2_14 ml_s505 (mv_J0_length (A := A)) (c_slen hi) rfl rfl rfl (by decide) (Nat.le_of_ble_eq_true rfl) (Zs_i rfl rfl) ?_
  refine jx_cGi (As := [.ref (A.1 (100 + i)), .int c, .int 0, .int (nI (slen.getD i 0))]) (rest := []) dJ0_indexOf2_17 ml_s637 (ms_J1_indexOf (A := A)) (c_ix1 hi) rfl rfl (by decide) (Nat.le_of_ble_eq_true rfl) ?_ (Zs_i rfl rfl)
  refine jx_goto (tgt := 36) dJ0_indexOf2_20 (by decide) ?_
  exact jx_iret dJ0_indexOf2_36 rfl rfl
set_option maxRecDepth 20000 in
set_option maxHeartbeats 2000000 in
theorem c_ix {c : Int32} (hi : i < 12) : jC E (m_J0_indexOf A) 3 [.ref (A.1 i), .int c] w (some (.int (six i c))) w := by
  refine jC_of (ls := [(0, .ref (A.1 i)), (1, .int c)]) pnJ0 rfl (fun _ => trivial) (Nat.le_of_ble_eq_true rfl) rfl ⟨.int, rfl, rfl⟩ ?_
  refine jx_aload_n dJ0_indexOf_0 rfl ?_
  refine jx_iload_n dJ0_indexOf_1 rfl ?_
  refine jx_iconst (v := 0) dJ0_indexOf_2 (by decide) ?_
  refine jx_cVs (As := [.int c, .int 0]) (rest := []) rfl hi dJ0_indexOf_3 ml_s633 (mv_J0_indexOf2 (A := A)) (c_ix2 hi) rfl rfl rfl (by decide) (Nat.le_of_ble_eq_true rfl) (Zs_i rfl rfl) ?_
  exact jx_iret dJ0_indexOf_6 rfl rfl
end JSC
