def l_X3_longestVersion : Nat → Int32 → Int32 → Int32 → Int32 → Int32 → Int32 → jw → Option (Int32 × jw)
  | 0, _, _, _, _, _, _, _ => none
  | n + 1, b1, b2, b3, b4, b5, b6, w => (if (nI (w.2.2.2 36).length) ≤ b6 then (if b2 = 0 then some (b4, w) else some (b5, w)) else jbd2 (f_X2_isVersion b6 b1 w) fun x4 w5 => (if (jb x4) = 0 then jl (b6 + 1) fun x7 => (l_X3_longestVersion n b1 b2 b3 b4 b5 x7 w5) else jbd2 (f_X2_lengthOf b6 w5) fun x9 w10 => (if x9 ≤ b5 then jl (b3 + 1) fun x12 => jl (b6 + 1) fun x13 => (l_X3_longestVersion n b1 b2 x12 b4 b5 x13 w10) else jbd2 (f_X2_lengthOf b6 w10) fun x15 w16 => jl (b3 + 1) fun x17 => jl (b6 + 1) fun x18 => (l_X3_longestVersion n b1 b2 x17 b3 x15 x18 w16))))
set_option maxRecDepth 20000 in
set_option maxHeartbeats 2000000 in
theorem sl_X3_longestVersion {E : jE} (hE : jfull E) : ∀ (n : Nat) (b1 : Int32) (b2 : Int32) (b3 : Int32) (b4 : Int32) (b5 : Int32) (b6 : Int32) (w : jw) (v : Int32) (w' : jw), l_X3_longestVersion n b1 b2 b3 b4 b5 b6 w = some (v, w') → jX E m_X3_longestVersion 2 13 [(0, .ref (E.2.2.2 + 58)), (1, .int b1), (2, .int b2), (3, .int b3), (4, .int b4), (5, .int b5), (6, .int b6)] [] w (some (.int v)) w' := by
  intro n
  induction n with
  | zero => intro b1 b2 b3 b4 b5 b6 w v w' hf; cases hf
  | succ n ih =>
    intro b1 b2 b3 b4 b5 b6 w v w' hf
    unfold l_X3_longestVersion at hf
    refine jx_iload dX3_longestVersion_13 rfl ?_
    refine jx_aload_n dX3_longestVersion_15 rfl ?_
    refine jx_getr dX3_longestVersion_16 fl_X3_9 kj_58 sr_58_0 ?_
    refine jx_getr dX3_longestVersion_19 fl_X3_31 kj_35 sr_35_0 ?_
    refine jx_getn dX3_longestVersion_22 fl_X3_61 kj_36 (by decide) ?_
    refine jx_icmp_ge (tgt := 78) dX3_longestVersion_25 (by decide) (fun c1 => ?_) (fun c1 => ?_)
    · rw [if_pos c1] at hf
      refine jx_iload_n dX3_longestVersion_78 rfl ?_
      refine jx_if_ne (tgt := 87) dX3_longestVersion_79 (by decide) (fun c2 => ?_) (fun c2 => ?_)
      · rw [if_neg c2] at hf
        refine jx_iload dX3_longestVersion_87 rfl ?_
        cases hf
        exact jx_iret dX3_longestVersion_89 rfl rfl
      · rw [if_pos c2] at hf
        refine jx_iload dX3_longestVersion_82 rfl ?_
        refine jx_goto (tgt := 89) dX3_longestVersion_84 (by decide) ?_
        cases hf
        exact jx_iret dX3_longestVersion_89 rfl rfl
    · rw [if_neg c1] at hf
      refine jx_aload_n dX3_longestVersion_28 rfl ?_
      refine jx_getr dX3_longestVersion_29 fl_X3_9 kj_58 sr_58_0 ?_
      refine jx_iload dX3_longestVersion_32 rfl ?_
      refine jx_iload_n dX3_longestVersion_34 rfl ?_
      obtain ⟨x4, w5, hq3, hf⟩ := jbd2_inv hf
      refine jx_cVi (a := 35) (As := [.int b6, .int b1]) (rest := []) dX3_longestVersion_35 ml_X3_65 mv_X2_isVersion (s_X2_isVersion hE hq3) rfl rfl jc_35 (by decide) (Nat.le_of_ble_eq_true rfl) ?_
      refine jx_if_eq (tgt := 72) dX3_longestVersion_38 (by decide) (fun c6 => ?_) (fun c6 => ?_)
      · rw [if_pos c6] at hf
        obtain ⟨x7, hx7, hf⟩ := jl_inv hf
        refine jx_iinc (v := x7) (ls' := [(0, .ref (E.2.2.2 + 58)), (1, .int b1), (2, .int b2), (3, .int b3), (4, .int b4), (5, .int b5), (6, .int x7)]) dX3_longestVersion_72 rfl (by rw [hx7]; rfl) (by decide) rfl ?_
        refine jx_goto (tgt := 13) dX3_longestVersion_75 (by decide) ?_
        exact ih _ _ _ _ _ _ _ _ _ hf
      · rw [if_neg c6] at hf
        refine jx_aload_n dX3_longestVersion_41 rfl ?_
        refine jx_getr dX3_longestVersion_42 fl_X3_9 kj_58 sr_58_0 ?_
        refine jx_iload dX3_longestVersion_45 rfl ?_
        obtain ⟨x9, w10, hq8, hf⟩ := jbd2_inv hf
        refine jx_cVi (a := 35) (As := [.int b6]) (rest := []) dX3_longestVersion_47 ml_X3_68 mv_X2_lengthOf (s_X2_lengthOf hE hq8) rfl rfl jc_35 (by decide) (Nat.le_of_ble_eq_true rfl) ?_
        refine jx_iload dX3_longestVersion_50 rfl ?_
        refine jx_icmp_le (tgt := 69) dX3_longestVersion_52 (by decide) (fun c11 => ?_) (fun c11 => ?_)
        · rw [if_pos c11] at hf
          obtain ⟨x12, hx12, hf⟩ := jl_inv hf
          refine jx_iinc (v := x12) (ls' := [(0, .ref (E.2.2.2 + 58)), (1, .int b1), (2, .int b2), (3, .int x12), (4, .int b4), (5, .int b5), (6, .int b6)]) dX3_longestVersion_69 rfl (by rw [hx12]; rfl) (by decide) rfl ?_
          obtain ⟨x13, hx13, hf⟩ := jl_inv hf
          refine jx_iinc (v := x13) (ls' := [(0, .ref (E.2.2.2 + 58)), (1, .int b1), (2, .int b2), (3, .int x12), (4, .int b4), (5, .int b5), (6, .int x13)]) dX3_longestVersion_72 rfl (by rw [hx13]; rfl) (by decide) rfl ?_
          refine jx_goto (tgt := 13) dX3_longestVersion_75 (by decide) ?_
          exact ih _ _ _ _ _ _ _ _ _ hf
        · rw [if_neg c11] at hf
          refine jx_iload_n dX3_longestVersion_55 rfl ?_
          refine jx_istore (ls' := [(0, .ref (E.2.2.2 + 58)), (1, .int b1), (2, .int b2), (3, .int b3), (4, .int b3), (5, .int b5), (6, .int b6)]) dX3_longestVersion_56 (by decide) rfl ?_
          refine jx_aload_n dX3_longestVersion_58 rfl ?_
          refine jx_getr dX3_longestVersion_59 fl_X3_9 kj_58 sr_58_0 ?_
          refine jx_iload dX3_longestVersion_62 rfl ?_
          obtain ⟨x15, w16, hq14, hf⟩ := jbd2_inv hf
          refine jx_cVi (a := 35) (As := [.int b6]) (rest := []) dX3_longestVersion_64 ml_X3_68 mv_X2_lengthOf (s_X2_lengthOf hE hq14) rfl rfl jc_35 (by decide) (Nat.le_of_ble_eq_true rfl) ?_
          refine jx_istore (ls' := [(0, .ref (E.2.2.2 + 58)), (1, .int b1), (2, .int b2), (3, .int b3), (4, .int b3), (5, .int x15), (6, .int b6)]) dX3_longestVersion_67 (by decide) rfl ?_
          obtain ⟨x17, hx17, hf⟩ := jl_inv hf
          refine jx_iinc (v := x17) (ls' := [(0, .ref (E.2.2.2 + 58)), (1, .int b1), (2, .int b2), (3, .int x17), (4, .int b3), (5, .int x15), (6, .int b6)]) dX3_longestVersion_69 rfl (by rw [hx17]; rfl) (by decide) rfl ?_
          obtain ⟨x18, hx18, hf⟩ := jl_inv hf
          refine jx_iinc (v := x18) (ls' := [(0, .ref (E.2.2.2 + 58)), (1, .int b1), (2, .int b2), (3, .int x17), (4, .int b3), (5, .int x15), (6, .int x18)]) dX3_longestVersion_72 rfl (by rw [hx18]; rfl) (by decide) rfl ?_
          refine jx_goto (tgt := 13) dX3_longestVersion_75 (by decide) ?_
          exact ih _ _ _ _ _ _ _ _ _ hf
def f_X3_longestVersion (a1 : Int32) (a2 : Int32) (w : jw) : Option (Int32 × jw) := (l_X3_longestVersion jfu a1 a2 0 (-2) (-2) 1 w)
set_option maxRecDepth 20000 in
set_option maxHeartbeats 2000000 in
theorem s_X3_longestVersion {E : jE} (hE : jfull E) {a1 : Int32} {a2 : Int32} {w w' : jw} {v : Int32} (hf : f_X3_longestVersion a1 a2 w = some (v, w')) : jC E m_X3_longestVersion 2 [.ref (E.2.2.2 + 58), .int a1, .int a2] w (some (.int v)) w' := by
  refine jC_of (ls := [(0, .ref (E.2.2.2 + 58)), (1, .int a1), (2, .int a2)]) (by decide) rfl (fun _ => trivial) (Nat.le_of_ble_eq_true rfl) rfl ⟨.int, rfl, rfl⟩ ?_
  unfold f_X3_longestVersion at hf
  refine jx_iconst (v := 0) dX3_longestVersion_0 (by decide) ?_
  refine jx_istore_n (ls' := [(0, .ref (E.2.2.2 + 58)), (1, .int a1), (2, .int a2), (3, .int 0)]) dX3_longestVersion_1 (by decide) rfl ?_
  refine jx_bipush (v := (-2)) dX3_longestVersion_2 (by decide) ?_
  refine jx_istore (ls' := [(0, .ref (E.2.2.2 + 58)), (1, .int a1), (2, .int a2), (3, .int 0), (4, .int (-2))]) dX3_longestVersion_4 (by decide) rfl ?_
  refine jx_bipush (v := (-2)) dX3_longestVersion_6 (by decide) ?_
  refine jx_istore (ls' := [(0, .ref (E.2.2.2 + 58)), (1, .int a1), (2, .int a2), (3, .int 0), (4, .int (-2)), (5, .int (-2))]) dX3_longestVersion_8 (by decide) rfl ?_
  refine jx_iconst (v := 1) dX3_longestVersion_10 (by decide) ?_
  refine jx_istore (ls' := [(0, .ref (E.2.2.2 + 58)), (1, .int a1), (2, .int a2), (3, .int 0), (4, .int (-2)), (5, .int (-2)), (6, .int 1)]) dX3_longestVersion_11 (by decide) rfl ?_
  exact sl_X3_longestVersion hE jfu _ _ _ _ _ _ _ _ _ hf
def l_X3_mostVersions_87 : Nat → Int32 → Int32 → Int32 → Int32 → Int32 → jw → Option (Int32 × jw)
  | 0, _, _, _, _, _, _ => none
  | n + 1, b1, b2, b3, b4, b5, w => (if b2 < b5 then (if b3 = 0 then some (b4, w) else (if b4 = (-2) then some (b4, w) else some (rat (w.2.2.2 59) b4, w))) else (if (rat (w.2.2.2 59) b5) ≤ (rat (w.2.2.2 59) b4) then jl (b5 + 1) fun x5 => (l_X3_mostVersions_87 n b1 b2 b3 b4 x5 w) else jl (b5 + 1) fun x6 => (l_X3_mostVersions_87 n b1 b2 b3 b5 x6 w)))
set_option maxRecDepth 20000 in
set_option maxHeartbeats 2000000 in
theorem sl_X3_mostVersions_87 {E : jE} (hE : jfull E) : ∀ (n : Nat) (b1 : Int32) (b2 : Int32) (b3 : Int32) (b4 : Int32) (b5 : Int32) (w : jw) (v : Int32) (w' : jw), l_X3_mostVersions_87 n b1 b2 b3 b4 b5 w = some (v, w') → jX E m_X3_mostVersions 1 87 [(0, .ref (E.2.2.2 + 58)), (1, .int b1), (2, .int b2), (3, .int b3), (4, .int b4), (5, .int b5)] [] w (some (.int v)) w' := by
  intro n
  induction n with
  | zero => intro b1 b2 b3 b4 b5 w v w' hf; cases hf
  | succ n ih =>
    intro b1 b2 b3 b4 b5 w v w' hf
    unfold l_X3_mostVersions_87 at hf
    refine jx_iload dX3_mostVersions_87 rfl ?_
    refine jx_iload_n dX3_mostVersions_89 rfl ?_
    refine jx_icmp_gt (tgt := 124) dX3_mostVersions_90 (by decide) (fun c1 => ?_) (fun c1 => ?_)
    · rw [if_pos c1] at hf
      refine jx_iload_n dX3_mostVersions_124 rfl ?_
      refine jx_if_eq (tgt := 135) dX3_mostVersions_125 (by decide) (fun c2 => ?_) (fun c2 => ?_)
      · rw [if_pos c2] at hf
        refine jx_iload dX3_mostVersions_135 rfl ?_
        refine jx_goto (tgt := 149) dX3_mostVersions_137 (by decide) ?_
        cases hf
        exact jx_iret dX3_mostVersions_149 rfl rfl
      · rw [if_neg c2] at hf
        refine jx_iload dX3_mostVersions_128 rfl ?_
        refine jx_bipush (v := (-2)) dX3_mostVersions_130 (by decide) ?_
        refine jx_icmp_ne (tgt := 140) dX3_mostVersions_132 (by decide) (fun c3 => ?_) (fun c3 => ?_)
        · rw [if_neg c3] at hf
          refine jx_aload_n dX3_mostVersions_140 rfl ?_
          refine jx_getr dX3_mostVersions_141 fl_X3_20 kj_58 sr_58_1 ?_
          refine jx_iload dX3_mostVersions_144 rfl ?_
          refine jx_cVi (a := 59) (As := [.int b4]) (rest := []) dX3_mostVersions_146 ml_X3_36 mv_X8_at (c_row_at (k := 0) kj_59 (by decide)) rfl rfl jc_59 (by decide) (Nat.le_of_ble_eq_true rfl) ?_
          cases hf
          exact jx_iret dX3_mostVersions_149 rfl rfl
        · rw [if_pos c3] at hf
          refine jx_iload dX3_mostVersions_135 rfl ?_
          refine jx_goto (tgt := 149) dX3_mostVersions_137 (by decide) ?_
          cases hf
          exact jx_iret dX3_mostVersions_149 rfl rfl
    · rw [if_neg c1] at hf
      refine jx_aload_n dX3_mostVersions_93 rfl ?_
      refine jx_getr dX3_mostVersions_94 fl_X3_20 kj_58 sr_58_1 ?_
      refine jx_iload dX3_mostVersions_97 rfl ?_
      refine jx_cVi (a := 59) (As := [.int b5]) (rest := []) dX3_mostVersions_99 ml_X3_36 mv_X8_at (c_row_at (k := 0) kj_59 (by decide)) rfl rfl jc_59 (by decide) (Nat.le_of_ble_eq_true rfl) ?_
      refine jx_aload_n dX3_mostVersions_102 rfl ?_
      refine jx_getr dX3_mostVersions_103 fl_X3_20 kj_58 sr_58_1 ?_
      refine jx_iload dX3_mostVersions_106 rfl ?_
      refine jx_cVi (a := 59) (As := [.int b4]) (rest := [.int (rat (w.2.2.2 59) b5)]) dX3_mostVersions_108 ml_X3_36 mv_X8_at (c_row_at (k := 0) kj_59 (by decide)) rfl rfl jc_59 (by decide) (Nat.le_of_ble_eq_true rfl) ?_
      refine jx_icmp_le (tgt := 118) dX3_mostVersions_111 (by decide) (fun c4 => ?_) (fun c4 => ?_)
      · rw [if_pos c4] at hf
        obtain ⟨x5, hx5, hf⟩ := jl_inv hf
        refine jx_iinc (v := x5) (ls' := [(0, .ref (E.2.2.2 + 58)), (1, .int b1), (2, .int b2), (3, .int b3), (4, .int b4), (5, .int x5)]) dX3_mostVersions_118 rfl (by rw [hx5]; rfl) (by decide) rfl ?_
        refine jx_goto (tgt := 87) dX3_mostVersions_121 (by decide) ?_
        exact ih _ _ _ _ _ _ _ _ hf
      · rw [if_neg c4] at hf
        refine jx_iload dX3_mostVersions_114 rfl ?_
        refine jx_istore (ls' := [(0, .ref (E.2.2.2 + 58)), (1, .int b1), (2, .int b2), (3, .int b3), (4, .int b5), (5, .int b5)]) dX3_mostVersions_116 (by decide) rfl ?_
        obtain ⟨x6, hx6, hf⟩ := jl_inv hf
        refine jx_iinc (v := x6) (ls' := [(0, .ref (E.2.2.2 + 58)), (1, .int b1), (2, .int b2), (3, .int b3), (4, .int b5), (5, .int x6)]) dX3_mostVersions_118 rfl (by rw [hx6]; rfl) (by decide) rfl ?_
        refine jx_goto (tgt := 87) dX3_mostVersions_121 (by decide) ?_
        exact ih _ _ _ _ _ _ _ _ hf
def l_X3_mostVersions_14 : Nat → Int32 → Int32 → Int32 → Int32 → jw → Option (Int32 × jw)
  | 0, _, _, _, _, _ => none
  | n + 1, b1, b2, b3, b4, w => (if (nI (w.2.2.2 36).length) ≤ b4 then (l_X3_mostVersions_87 jfu b1 b2 b3 (-2) b1 w) else jl (rat (w.2.2.2 36) b4 : Int32) fun x8 => jl (jsetR w 59 (rset (w.2.2.2 59) x8 ((rat (w.2.2.2 59) x8) + (rat (w.2.2.2 38) b4)))) fun w9 => jl (b4 + 1) fun x10 => (l_X3_mostVersions_14 n b1 b2 b3 x10 w9))
set_option maxRecDepth 20000 in
set_option maxHeartbeats 2000000 in
theorem sl_X3_mostVersions_14 {E : jE} (hE : jfull E) : ∀ (n : Nat) (b1 : Int32) (b2 : Int32) (b3 : Int32) (b4 : Int32) (w : jw) (v : Int32) (w' : jw), l_X3_mostVersions_14 n b1 b2 b3 b4 w = some (v, w') → jX E m_X3_mostVersions 1 14 [(0, .ref (E.2.2.2 + 58)), (1, .int b1), (2, .int b2), (3, .int b3), (4, .int b4)] [] w (some (.int v)) w' := by
  intro n
  induction n with
  | zero => intro b1 b2 b3 b4 w v w' hf; cases hf
  | succ n ih =>
    intro b1 b2 b3 b4 w v w' hf
    unfold l_X3_mostVersions_14 at hf
    refine jx_iload dX3_mostVersions_14 rfl ?_
    refine jx_aload_n dX3_mostVersions_16 rfl ?_
    refine jx_getr dX3_mostVersions_17 fl_X3_9 kj_58 sr_58_0 ?_
    refine jx_getr dX3_mostVersions_20 fl_X3_31 kj_35 sr_35_0 ?_
    refine jx_getn dX3_mostVersions_23 fl_X3_61 kj_36 (by decide) ?_
    refine jx_icmp_ge (tgt := 80) dX3_mostVersions_26 (by decide) (fun c7 => ?_) (fun c7 => ?_)
    · rw [if_pos c7] at hf
      refine jx_bipush (v := (-2)) dX3_mostVersions_80 (by decide) ?_
      refine jx_istore (ls' := [(0, .ref (E.2.2.2 + 58)), (1, .int b1), (2, .int b2), (3, .int b3), (4, .int (-2))]) dX3_mostVersions_82 (by decide) rfl ?_
      refine jx_iload_n dX3_mostVersions_84 rfl ?_
      refine jx_istore (ls' := [(0, .ref (E.2.2.2 + 58)), (1, .int b1), (2, .int b2), (3, .int b3), (4, .int (-2)), (5, .int b1)]) dX3_mostVersions_85 (by decide) rfl ?_
      exact sl_X3_mostVersions_87 hE jfu _ _ _ _ _ _ _ _ hf
    · rw [if_neg c7] at hf
      refine jx_aload_n dX3_mostVersions_29 rfl ?_
      refine jx_getr dX3_mostVersions_30 fl_X3_9 kj_58 sr_58_0 ?_
      refine jx_getr dX3_mostVersions_33 fl_X3_31 kj_35 sr_35_0 ?_
      refine jx_iload dX3_mostVersions_36 rfl ?_
      refine jx_cVi (a := 36) (As := [.int b4]) (rest := []) dX3_mostVersions_38 ml_X3_36 mv_X8_at (c_row_at (k := 0) kj_36 (by decide)) rfl rfl jc_36 (by decide) (Nat.le_of_ble_eq_true rfl) ?_
      obtain ⟨x8, hx8, hf⟩ := jl_inv hf
      refine jx_nm hx8 ?_
      refine jx_istore (ls' := [(0, .ref (E.2.2.2 + 58)), (1, .int b1), (2, .int b2), (3, .int b3), (4, .int b4), (5, .int x8)]) dX3_mostVersions_41 (by decide) rfl ?_
      refine jx_aload_n dX3_mostVersions_43 rfl ?_
      refine jx_getr dX3_mostVersions_44 fl_X3_20 kj_58 sr_58_1 ?_
      refine jx_iload dX3_mostVersions_47 rfl ?_
      refine jx_aload_n dX3_mostVersions_49 rfl ?_
      refine jx_getr dX3_mostVersions_50 fl_X3_20 kj_58 sr_58_1 ?_
      refine jx_iload dX3_mostVersions_53 rfl ?_
      refine jx_cVi (a := 59) (As := [.int x8]) (rest := [.int x8, .ref (E.2.2.2 + 59)]) dX3_mostVersions_55 ml_X3_36 mv_X8_at (c_row_at (k := 0) kj_59 (by decide)) rfl rfl jc_59 (by decide) (Nat.le_of_ble_eq_true rfl) ?_
      refine jx_aload_n dX3_mostVersions_58 rfl ?_
      refine jx_getr dX3_mostVersions_59 fl_X3_9 kj_58 sr_58_0 ?_
      refine jx_getr dX3_mostVersions_62 fl_X3_40 kj_35 sr_35_1 ?_
      refine jx_iload dX3_mostVersions_65 rfl ?_
      refine jx_cVi (a := 38) (As := [.int b4]) (rest := [.int (rat (w.2.2.2 59) x8), .int x8, .ref (E.2.2.2 + 59)]) dX3_mostVersions_67 ml_X3_36 mv_X8_at (c_row_at (k := 0) kj_38 (by decide)) rfl rfl jc_38 (by decide) (Nat.le_of_ble_eq_true rfl) ?_
      refine jx_iadd dX3_mostVersions_70 ?_
      refine jx_cVv (a := 59) (As := [.int x8, .int ((rat (w.2.2.2 59) x8) + (rat (w.2.2.2 38) b4))]) (rest := []) dX3_mostVersions_71 ml_X3_43 mv_X8_change (c_row_change (k := 0) kj_59 (by decide)) rfl rfl jc_59 (by decide) (Nat.le_of_ble_eq_true rfl) ?_
      obtain ⟨w9, hw9, hf⟩ := jl_inv hf
      refine jx_nw hw9 ?_
      obtain ⟨x10, hx10, hf⟩ := jl_inv hf
      refine jx_iinc (v := x10) (ls' := [(0, .ref (E.2.2.2 + 58)), (1, .int b1), (2, .int b2), (3, .int b3), (4, .int x10), (5, .int x8)]) dX3_mostVersions_74 rfl (by rw [hx10]; rfl) (by decide) rfl ?_
      refine jx_goto (tgt := 14) dX3_mostVersions_77 (by decide) ?_
      refine jx_pick [0, 1, 2, 3, 4] rfl ?_
      exact ih _ _ _ _ _ _ _ hf
def f_X3_mostVersions (a1 : Int32) (a2 : Int32) (a3 : Int32) (w : jw) : Option (Int32 × jw) := jl (jsetR w 59 (List.replicate 1000 0)) fun w11 => (l_X3_mostVersions_14 jfu a1 a2 a3 1 w11)
set_option maxRecDepth 20000 in
set_option maxHeartbeats 2000000 in
theorem s_X3_mostVersions {E : jE} (hE : jfull E) {a1 : Int32} {a2 : Int32} {a3 : Int32} {w w' : jw} {v : Int32} (hf : f_X3_mostVersions a1 a2 a3 w = some (v, w')) : jC E m_X3_mostVersions 1 [.ref (E.2.2.2 + 58), .int a1, .int a2, .int a3] w (some (.int v)) w' := by
  refine jC_of (ls := [(0, .ref (E.2.2.2 + 58)), (1, .int a1), (2, .int a2), (3, .int a3)]) (by decide) rfl (fun _ => trivial) (Nat.le_of_ble_eq_true rfl) rfl ⟨.int, rfl, rfl⟩ ?_
  unfold f_X3_mostVersions at hf
  refine jx_aload_n dX3_mostVersions_0 rfl ?_
  refine jx_getr dX3_mostVersions_1 fl_X3_20 kj_58 sr_58_1 ?_
  refine jx_sipush (v := 1000) dX3_mostVersions_4 (by decide) ?_
  refine jx_iconst (v := 0) dX3_mostVersions_7 (by decide) ?_
  refine jx_cVv (a := 59) (As := [.int 1000, .int 0]) (rest := []) dX3_mostVersions_8 ml_X3_27 mv_X8_fill (c_row_fill (k := 0) (N := 1000) kj_59 (by decide) (Or.inr (by decide))) rfl rfl jc_59 (by decide) (Nat.le_of_ble_eq_true rfl) ?_
  obtain ⟨w11, hw11, hf⟩ := jl_inv hf
  refine jx_nw hw11 ?_
  refine jx_iconst (v := 1) dX3_mostVersions_11 (by decide) ?_
  refine jx_istore (ls' := [(0, .ref (E.2.2.2 + 58)), (1, .int a1), (2, .int a2), (3, .int a3), (4, .int 1)]) dX3_mostVersions_12 (by decide) rfl ?_
  exact sl_X3_mostVersions_14 hE jfu _ _ _ _ _ _ _ hf
def l_X3_widestGap : Nat → Int32 → Int32 → Int32 → Int32 → Int32 → Int32 → jw → Option (Int32 × jw)
  | 0, _, _, _, _, _, _, _ => none
  | n + 1, b1, b2, b3, b4, b5, b6, w => (if 1000 ≤ b6 then (if b2 = 0 then some (b4, w) else some (b5, w)) else (if (rat (w.2.2.2 59) b6) = (-1) then jl (b6 + 1) fun x4 => (l_X3_widestGap n b1 b2 b3 b4 b5 x4 w) else (if b3 = (-1) then jl (b6 + 1) fun x6 => (l_X3_widestGap n b1 b2 b6 b4 b5 x6 w) else (if (b6 - b3) ≤ b5 then jl (b6 + 1) fun x8 => (l_X3_widestGap n b1 b2 b6 b4 b5 x8 w) else jl (b6 - b3 : Int32) fun x9 => jl (b6 + 1) fun x10 => (l_X3_widestGap n b1 b2 b6 b3 x9 x10 w)))))
set_option maxRecDepth 20000 in
set_option maxHeartbeats 2000000 in
theorem sl_X3_widestGap {E : jE} (hE : jfull E) : ∀ (n : Nat) (b1 : Int32) (b2 : Int32) (b3 : Int32) (b4 : Int32) (b5 : Int32) (b6 : Int32) (w : jw) (v : Int32) (w' : jw), l_X3_widestGap n b1 b2 b3 b4 b5 b6 w = some (v, w') → jX E m_X3_widestGap 2 22 [(0, .ref (E.2.2.2 + 58)), (1, .int b1), (2, .int b2), (3, .int b3), (4, .int b4), (5, .int b5), (6, .int b6)] [] w (some (.int v)) w' := by
  intro n
  induction n with
  | zero => intro b1 b2 b3 b4 b5 b6 w v w' hf; cases hf
  | succ n ih =>
    intro b1 b2 b3 b4 b5 b6 w v w' hf
    unfold l_X3_widestGap at hf
    refine jx_iload dX3_widestGap_22 rfl ?_
    refine jx_sipush (v := 1000) dX3_widestGap_24 (by decide) ?_
    refine jx_icmp_ge (tgt := 75) dX3_widestGap_27 (by decide) (fun c1 => ?_) (fun c1 => ?_)
    · rw [if_pos c1] at hf
      refine jx_iload_n dX3_widestGap_75 rfl ?_
      refine jx_if_ne (tgt := 84) dX3_widestGap_76 (by decide) (fun c2 => ?_) (fun c2 => ?_)
      · rw [if_neg c2] at hf
        refine jx_iload dX3_widestGap_84 rfl ?_
        cases hf
        exact jx_iret dX3_widestGap_86 rfl rfl
      · rw [if_pos c2] at hf
        refine jx_iload dX3_widestGap_79 rfl ?_
        refine jx_goto (tgt := 86) dX3_widestGap_81 (by decide) ?_
        cases hf
        exact jx_iret dX3_widestGap_86 rfl rfl
    · rw [if_neg c1] at hf
      refine jx_aload_n dX3_widestGap_30 rfl ?_
      refine jx_getr dX3_widestGap_31 fl_X3_20 kj_58 sr_58_1 ?_
      refine jx_iload dX3_widestGap_34 rfl ?_
      refine jx_cVi (a := 59) (As := [.int b6]) (rest := []) dX3_widestGap_36 ml_X3_36 mv_X8_at (c_row_at (k := 0) kj_59 (by decide)) rfl rfl jc_59 (by decide) (Nat.le_of_ble_eq_true rfl) ?_
      refine jx_iconst (v := (-1)) dX3_widestGap_39 (by decide) ?_
      refine jx_icmp_eq (tgt := 69) dX3_widestGap_40 (by decide) (fun c3 => ?_) (fun c3 => ?_)
      · rw [if_pos c3] at hf
        obtain ⟨x4, hx4, hf⟩ := jl_inv hf
        refine jx_iinc (v := x4) (ls' := [(0, .ref (E.2.2.2 + 58)), (1, .int b1), (2, .int b2), (3, .int b3), (4, .int b4), (5, .int b5), (6, .int x4)]) dX3_widestGap_69 rfl (by rw [hx4]; rfl) (by decide) rfl ?_
        refine jx_goto (tgt := 22) dX3_widestGap_72 (by decide) ?_
        exact ih _ _ _ _ _ _ _ _ _ hf
      · rw [if_neg c3] at hf
        refine jx_iload_n dX3_widestGap_43 rfl ?_
        refine jx_iconst (v := (-1)) dX3_widestGap_44 (by decide) ?_
        refine jx_icmp_eq (tgt := 66) dX3_widestGap_45 (by decide) (fun c5 => ?_) (fun c5 => ?_)
        · rw [if_pos c5] at hf
          refine jx_iload dX3_widestGap_66 rfl ?_
          refine jx_istore_n (ls' := [(0, .ref (E.2.2.2 + 58)), (1, .int b1), (2, .int b2), (3, .int b6), (4, .int b4), (5, .int b5), (6, .int b6)]) dX3_widestGap_68 (by decide) rfl ?_
          obtain ⟨x6, hx6, hf⟩ := jl_inv hf
          refine jx_iinc (v := x6) (ls' := [(0, .ref (E.2.2.2 + 58)), (1, .int b1), (2, .int b2), (3, .int b6), (4, .int b4), (5, .int b5), (6, .int x6)]) dX3_widestGap_69 rfl (by rw [hx6]; rfl) (by decide) rfl ?_
          refine jx_goto (tgt := 22) dX3_widestGap_72 (by decide) ?_
          exact ih _ _ _ _ _ _ _ _ _ hf
        · rw [if_neg c5] at hf
          refine jx_iload dX3_widestGap_48 rfl ?_
          refine jx_iload_n dX3_widestGap_50 rfl ?_
          refine jx_isub dX3_widestGap_51 ?_
          refine jx_iload dX3_widestGap_52 rfl ?_
          refine jx_icmp_le (tgt := 66) dX3_widestGap_54 (by decide) (fun c7 => ?_) (fun c7 => ?_)
          · rw [if_pos c7] at hf
            refine jx_iload dX3_widestGap_66 rfl ?_
            refine jx_istore_n (ls' := [(0, .ref (E.2.2.2 + 58)), (1, .int b1), (2, .int b2), (3, .int b6), (4, .int b4), (5, .int b5), (6, .int b6)]) dX3_widestGap_68 (by decide) rfl ?_
            obtain ⟨x8, hx8, hf⟩ := jl_inv hf
            refine jx_iinc (v := x8) (ls' := [(0, .ref (E.2.2.2 + 58)), (1, .int b1), (2, .int b2), (3, .int b6), (4, .int b4), (5, .int b5), (6, .int x8)]) dX3_widestGap_69 rfl (by rw [hx8]; rfl) (by decide) rfl ?_
            refine jx_goto (tgt := 22) dX3_widestGap_72 (by decide) ?_
            exact ih _ _ _ _ _ _ _ _ _ hf
          · rw [if_neg c7] at hf
            refine jx_iload_n dX3_widestGap_57 rfl ?_
            refine jx_istore (ls' := [(0, .ref (E.2.2.2 + 58)), (1, .int b1), (2, .int b2), (3, .int b3), (4, .int b3), (5, .int b5), (6, .int b6)]) dX3_widestGap_58 (by decide) rfl ?_
            refine jx_iload dX3_widestGap_60 rfl ?_
            refine jx_iload_n dX3_widestGap_62 rfl ?_
            refine jx_isub dX3_widestGap_63 ?_
            obtain ⟨x9, hx9, hf⟩ := jl_inv hf
            refine jx_nm hx9 ?_
            refine jx_istore (ls' := [(0, .ref (E.2.2.2 + 58)), (1, .int b1), (2, .int b2), (3, .int b3), (4, .int b3), (5, .int x9), (6, .int b6)]) dX3_widestGap_64 (by decide) rfl ?_
            refine jx_iload dX3_widestGap_66 rfl ?_
            refine jx_istore_n (ls' := [(0, .ref (E.2.2.2 + 58)), (1, .int b1), (2, .int b2), (3, .int b6), (4, .int b3), (5, .int x9), (6, .int b6)]) dX3_widestGap_68 (by decide) rfl ?_
            obtain ⟨x10, hx10, hf⟩ := jl_inv hf
            refine jx_iinc (v := x10) (ls' := [(0, .ref (E.2.2.2 + 58)), (1, .int b1), (2, .int b2), (3, .int b6), (4, .int b3), (5, .int x9), (6, .int x10)]) dX3_widestGap_69 rfl (by rw [hx10]; rfl) (by decide) rfl ?_
            refine jx_goto (tgt := 22) dX3_widestGap_72 (by decide) ?_
            exact ih _ _ _ _ _ _ _ _ _ hf
def f_X3_widestGap (a1 : Int32) (a2 : Int32) (w : jw) : Option (Int32 × jw) := jbd (f_X3_fillTable_59 a1 w) fun q11 => (l_X3_widestGap jfu a1 a2 (-1) (-2) (-2) 0 q11)
set_option maxRecDepth 20000 in
set_option maxHeartbeats 2000000 in
theorem s_X3_widestGap {E : jE} (hE : jfull E) {a1 : Int32} {a2 : Int32} {w w' : jw} {v : Int32} (hf : f_X3_widestGap a1 a2 w = some (v, w')) : jC E m_X3_widestGap 2 [.ref (E.2.2.2 + 58), .int a1, .int a2] w (some (.int v)) w' := by
  refine jC_of (ls := [(0, .ref (E.2.2.2 + 58)), (1, .int a1), (2, .int a2)]) (by decide) rfl (fun _ => trivial) (Nat.le_of_ble_eq_true rfl) rfl ⟨.int, rfl, rfl⟩ ?_
  unfold f_X3_widestGap at hf
  refine jx_aload_n dX3_widestGap_0 rfl ?_
  refine jx_aload_n dX3_widestGap_1 rfl ?_
  refine jx_getr dX3_widestGap_2 fl_X3_20 kj_58 sr_58_1 ?_
  refine jx_iload_n dX3_widestGap_5 rfl ?_
  obtain ⟨q11, hq11, hf⟩ := jbd_inv hf
  refine jx_cVv (a := 58) (As := [.ref (E.2.2.2 + 59), .int a1]) (rest := []) dX3_widestGap_6 ml_X3_53 mv_X3_fillTable (s_X3_fillTable_59 hE hq11) rfl rfl jc_58 (by decide) (Nat.le_of_ble_eq_true rfl) ?_
  refine jx_iconst (v := (-1)) dX3_widestGap_9 (by decide) ?_
  refine jx_istore_n (ls' := [(0, .ref (E.2.2.2 + 58)), (1, .int a1), (2, .int a2), (3, .int (-1))]) dX3_widestGap_10 (by decide) rfl ?_
  refine jx_bipush (v := (-2)) dX3_widestGap_11 (by decide) ?_
  refine jx_istore (ls' := [(0, .ref (E.2.2.2 + 58)), (1, .int a1), (2, .int a2), (3, .int (-1)), (4, .int (-2))]) dX3_widestGap_13 (by decide) rfl ?_
  refine jx_bipush (v := (-2)) dX3_widestGap_15 (by decide) ?_
  refine jx_istore (ls' := [(0, .ref (E.2.2.2 + 58)), (1, .int a1), (2, .int a2), (3, .int (-1)), (4, .int (-2)), (5, .int (-2))]) dX3_widestGap_17 (by decide) rfl ?_
  refine jx_iconst (v := 0) dX3_widestGap_19 (by decide) ?_
  refine jx_istore (ls' := [(0, .ref (E.2.2.2 + 58)), (1, .int a1), (2, .int a2), (3, .int (-1)), (4, .int (-2)), (5, .int (-2)), (6, .int 0)]) dX3_widestGap_20 (by decide) rfl ?_
  exact sl_X3_widestGap hE jfu _ _ _ _ _ _ _ _ _ hf
def f_X4_isDigit (a1 : Int32) (w : jw) : Option (Bool × jw) := (if a1 < 48 then some (false, w) else (if 57 < a1 then some (false, w) else some (true, w)))
set_option maxRecDepth 20000 in
set_option maxHeartbeats 2000000 in
theorem s_X4_isDigit {E : jE} (hE : jfull E) {a1 : Int32} {w w' : jw} {v : Bool} (hf : f_X4_isDigit a1 w = some (v, w')) : jC E m_X4_isDigit 0 [.int a1] w (some (.int (jb v))) w' := by
  refine jC_of (ls := [(0, .int a1)]) (by decide) rfl (fun _ => trivial) (Nat.le_of_ble_eq_true rfl) rfl jb_ans ?_
  unfold f_X4_isDigit at hf
  refine jx_iload_n dX4_isDigit_0 rfl ?_
  refine jx_bipush (v := 48) dX4_isDigit_1 (by decide) ?_
  refine jx_icmp_lt (tgt := 16) dX4_isDigit_3 (by decide) (fun c1 => ?_) (fun c1 => ?_)
  · rw [if_pos c1] at hf
    refine jx_iconst (v := 0) dX4_isDigit_16 (by decide) ?_
    cases hf
    exact jx_iret dX4_isDigit_17 rfl rfl
  · rw [if_neg c1] at hf
    refine jx_iload_n dX4_isDigit_6 rfl ?_
    refine jx_bipush (v := 57) dX4_isDigit_7 (by decide) ?_
    refine jx_icmp_gt (tgt := 16) dX4_isDigit_9 (by decide) (fun c2 => ?_) (fun c2 => ?_)
    · rw [if_pos c2] at hf
      refine jx_iconst (v := 0) dX4_isDigit_16 (by decide) ?_
      cases hf
      exact jx_iret dX4_isDigit_17 rfl rfl
    · rw [if_neg c2] at hf
      refine jx_iconst (v := 1) dX4_isDigit_12 (by decide) ?_
      refine jx_goto (tgt := 17) dX4_isDigit_13 (by decide) ?_
      cases hf
      exact jx_iret dX4_isDigit_17 rfl rfl
def f_X4_isLetter (a1 : Int32) (w : jw) : Option (Bool × jw) := (if a1 < 97 then some (false, w) else (if 122 < a1 then some (false, w) else some (true, w)))
set_option maxRecDepth 20000 in
set_option maxHeartbeats 2000000 in
theorem s_X4_isLetter {E : jE} (hE : jfull E) {a1 : Int32} {w w' : jw} {v : Bool} (hf : f_X4_isLetter a1 w = some (v, w')) : jC E m_X4_isLetter 0 [.int a1] w (some (.int (jb v))) w' := by
  refine jC_of (ls := [(0, .int a1)]) (by decide) rfl (fun _ => trivial) (Nat.le_of_ble_eq_true rfl) rfl jb_ans ?_
  unfold f_X4_isLetter at hf
  refine jx_iload_n dX4_isLetter_0 rfl ?_
  refine jx_bipush (v := 97) dX4_isLetter_1 (by decide) ?_
  refine jx_icmp_lt (tgt := 16) dX4_isLetter_3 (by decide) (fun c1 => ?_) (fun c1 => ?_)
  · rw [if_pos c1] at hf
    refine jx_iconst (v := 0) dX4_isLetter_16 (by decide) ?_
    cases hf
    exact jx_iret dX4_isLetter_17 rfl rfl
  · rw [if_neg c1] at hf
    refine jx_iload_n dX4_isLetter_6 rfl ?_
    refine jx_bipush (v := 122) dX4_isLetter_7 (by decide) ?_
    refine jx_icmp_gt (tgt := 16) dX4_isLetter_9 (by decide) (fun c2 => ?_) (fun c2 => ?_)
    · rw [if_pos c2] at hf
      refine jx_iconst (v := 0) dX4_isLetter_16 (by decide) ?_
      cases hf
      exact jx_iret dX4_isLetter_17 rfl rfl
    · rw [if_neg c2] at hf
      refine jx_iconst (v := 1) dX4_isLetter_12 (by decide) ?_
      refine jx_goto (tgt := 17) dX4_isLetter_13 (by decide) ?_
      cases hf
      exact jx_iret dX4_isLetter_17 rfl rfl
def f_X4_keep (a1 : Int32) (a2 : Int32) (a3 : Int32) (w : jw) : Option (jw) := jg (decide ((w.2.2.2 4).length ≤ 4096)) (jl (jsetR w 4 (w.2.2.2 4 ++ [a1])) fun w1 => jg (decide ((w1.2.2.2 6).length ≤ 4096)) (jl (jsetR w1 6 (w1.2.2.2 6 ++ [a2])) fun w3 => jg (decide ((w3.2.2.2 8).length ≤ 4096)) (jl (jsetR w3 8 (w3.2.2.2 8 ++ [a3])) fun w5 => some w5)))
set_option maxRecDepth 20000 in
set_option maxHeartbeats 2000000 in
theorem s_X4_keep {E : jE} (hE : jfull E) {a1 : Int32} {a2 : Int32} {a3 : Int32} {w w' : jw} (hf : f_X4_keep a1 a2 a3 w = some w') : jC E m_X4_keep 3 [.ref (E.2.2.2 + 3), .int a1, .int a2, .int a3] w none w' := by
  refine jC_of (ls := [(0, .ref (E.2.2.2 + 3)), (1, .int a1), (2, .int a2), (3, .int a3)]) (by decide) rfl (fun _ => trivial) (Nat.le_of_ble_eq_true rfl) rfl rfl ?_
  unfold f_X4_keep at hf
  refine jx_aload_n dX4_keep_0 rfl ?_
  refine jx_getr dX4_keep_1 fl_X4_20 kj_3 sr_3_1 ?_
  refine jx_iload_n dX4_keep_4 rfl ?_
  obtain ⟨c2, hf⟩ := jg_inv hf
  refine jx_cVv (a := 4) (As := [.int a1]) (rest := []) dX4_keep_5 ml_X4_114 mv_X8_add (c_row_add kj_4 (of_decide_eq_true c2) (Or.inl hE)) rfl rfl jc_4 (by decide) (Nat.le_of_ble_eq_true rfl) ?_
  obtain ⟨w1, hw1, hf⟩ := jl_inv hf
  refine jx_nw hw1 ?_
  refine jx_aload_n dX4_keep_8 rfl ?_
  refine jx_getr dX4_keep_9 fl_X4_23 kj_3 sr_3_2 ?_
  refine jx_iload_n dX4_keep_12 rfl ?_
  obtain ⟨c4, hf⟩ := jg_inv hf
  refine jx_cVv (a := 6) (As := [.int a2]) (rest := []) dX4_keep_13 ml_X4_114 mv_X8_add (c_row_add kj_6 (of_decide_eq_true c4) (Or.inl hE)) rfl rfl jc_6 (by decide) (Nat.le_of_ble_eq_true rfl) ?_
  obtain ⟨w3, hw3, hf⟩ := jl_inv hf
  refine jx_nw hw3 ?_
  refine jx_aload_n dX4_keep_16 rfl ?_
  refine jx_getr dX4_keep_17 fl_X4_26 kj_3 sr_3_3 ?_
  refine jx_iload_n dX4_keep_20 rfl ?_
  obtain ⟨c6, hf⟩ := jg_inv hf
  refine jx_cVv (a := 8) (As := [.int a3]) (rest := []) dX4_keep_21 ml_X4_114 mv_X8_add (c_row_add kj_8 (of_decide_eq_true c6) (Or.inl hE)) rfl rfl jc_8 (by decide) (Nat.le_of_ble_eq_true rfl) ?_
  obtain ⟨w5, hw5, hf⟩ := jl_inv hf
  refine jx_nw hw5 ?_
  cases hf
  exact jx_vret dX4_keep_24 rfl rfl
def l_X4_lexInt : Nat → Int32 → Int32 → Int32 → jw → Option (Int32 × jw)
  | 0, _, _, _, _ => none
  | n + 1, b1, b2, b3, w => (if (nI (w.2.2.2 1).length) ≤ b2 then (if (b2 - b1) ≤ 4 then jbd (f_X4_keep 2 b3 b1 w) fun q3 => some (b2, q3) else jbd (f_X4_keep 1 b3 b1 w) fun q4 => some (b2, q4)) else jbd2 (f_X4_isDigit (rat (w.2.2.2 1) b2) w) fun x6 w7 => (if (jb x6) = 0 then (if (b2 - b1) ≤ 4 then jbd (f_X4_keep 2 b3 b1 w7) fun q10 => some (b2, q10) else jbd (f_X4_keep 1 b3 b1 w7) fun q11 => some (b2, q11)) else jl (((b3 * 10) + (rat (w7.2.2.2 1) b2)) - 48 : Int32) fun x12 => jl (b2 + 1) fun x13 => (l_X4_lexInt n b1 x13 x12 w7)))
set_option maxRecDepth 20000 in
set_option maxHeartbeats 2000000 in
theorem sl_X4_lexInt {E : jE} (hE : jfull E) : ∀ (n : Nat) (b1 : Int32) (b2 : Int32) (b3 : Int32) (w : jw) (v : Int32) (w' : jw), l_X4_lexInt n b1 b2 b3 w = some (v, w') → jX E m_X4_lexInt 4 4 [(0, .ref (E.2.2.2 + 3)), (1, .int b1), (2, .int b2), (3, .int b3)] [] w (some (.int v)) w' := by
  intro n
  induction n with
  | zero => intro b1 b2 b3 w v w' hf; cases hf
  | succ n ih =>
    intro b1 b2 b3 w v w' hf
    unfold l_X4_lexInt at hf
    refine jx_iload_n dX4_lexInt_4 rfl ?_
    refine jx_aload_n dX4_lexInt_5 rfl ?_
    refine jx_getr dX4_lexInt_6 fl_X4_9 kj_3 sr_3_0 ?_
    refine jx_getn dX4_lexInt_9 fl_X4_42 kj_1 (by decide) ?_
    refine jx_icmp_ge (tgt := 52) dX4_lexInt_12 (by decide) (fun c1 => ?_) (fun c1 => ?_)
    · rw [if_pos c1] at hf
      refine jx_aload_n dX4_lexInt_52 rfl ?_
      refine jx_iload_n dX4_lexInt_53 rfl ?_
      refine jx_iload_n dX4_lexInt_54 rfl ?_
      refine jx_isub dX4_lexInt_55 ?_
      refine jx_iconst (v := 4) dX4_lexInt_56 (by decide) ?_
      refine jx_icmp_le (tgt := 64) dX4_lexInt_57 (by decide) (fun c2 => ?_) (fun c2 => ?_)
      · rw [if_pos c2] at hf
        refine jx_iconst (v := 2) dX4_lexInt_64 (by decide) ?_
        refine jx_iload_n dX4_lexInt_65 rfl ?_
        refine jx_iload_n dX4_lexInt_66 rfl ?_
        obtain ⟨q3, hq3, hf⟩ := jbd_inv hf
        refine jx_cVv (a := 3) (As := [.int 2, .int b3, .int b1]) (rest := []) dX4_lexInt_67 ml_X4_50 mv_X4_keep (s_X4_keep hE hq3) rfl rfl jc_3 (by decide) (Nat.le_of_ble_eq_true rfl) ?_
        refine jx_iload_n dX4_lexInt_70 rfl ?_
        cases hf
        exact jx_iret dX4_lexInt_71 rfl rfl
      · rw [if_neg c2] at hf
        refine jx_iconst (v := 1) dX4_lexInt_60 (by decide) ?_
        refine jx_goto (tgt := 65) dX4_lexInt_61 (by decide) ?_
        refine jx_iload_n dX4_lexInt_65 rfl ?_
        refine jx_iload_n dX4_lexInt_66 rfl ?_
        obtain ⟨q4, hq4, hf⟩ := jbd_inv hf
        refine jx_cVv (a := 3) (As := [.int 1, .int b3, .int b1]) (rest := []) dX4_lexInt_67 ml_X4_50 mv_X4_keep (s_X4_keep hE hq4) rfl rfl jc_3 (by decide) (Nat.le_of_ble_eq_true rfl) ?_
        refine jx_iload_n dX4_lexInt_70 rfl ?_
        cases hf
        exact jx_iret dX4_lexInt_71 rfl rfl
    · rw [if_neg c1] at hf
      refine jx_aload_n dX4_lexInt_15 rfl ?_
      refine jx_getr dX4_lexInt_16 fl_X4_9 kj_3 sr_3_0 ?_
      refine jx_iload_n dX4_lexInt_19 rfl ?_
      refine jx_cVi (a := 1) (As := [.int b2]) (rest := []) dX4_lexInt_20 ml_X4_39 mv_X8_at (c_row_at (k := 0) kj_1 (by decide)) rfl rfl jc_1 (by decide) (Nat.le_of_ble_eq_true rfl) ?_
      obtain ⟨x6, w7, hq5, hf⟩ := jbd2_inv hf
      refine jx_cSi (As := [.int (rat (w.2.2.2 1) b2)]) (rest := []) dX4_lexInt_23 ml_X4_60 ms_X4_isDigit (s_X4_isDigit hE hq5) rfl rfl rfl (by decide) (Nat.le_of_ble_eq_true rfl) ?_
      refine jx_if_eq (tgt := 52) dX4_lexInt_26 (by decide) (fun c8 => ?_) (fun c8 => ?_)
      · rw [if_pos c8] at hf
        refine jx_aload_n dX4_lexInt_52 rfl ?_
        refine jx_iload_n dX4_lexInt_53 rfl ?_
        refine jx_iload_n dX4_lexInt_54 rfl ?_
        refine jx_isub dX4_lexInt_55 ?_
        refine jx_iconst (v := 4) dX4_lexInt_56 (by decide) ?_
        refine jx_icmp_le (tgt := 64) dX4_lexInt_57 (by decide) (fun c9 => ?_) (fun c9 => ?_)
        · rw [if_pos c9] at hf
          refine jx_iconst (v := 2) dX4_lexInt_64 (by decide) ?_
          refine jx_iload_n dX4_lexInt_65 rfl ?_
          refine jx_iload_n dX4_lexInt_66 rfl ?_
          obtain ⟨q10, hq10, hf⟩ := jbd_inv hf
          refine jx_cVv (a := 3) (As := [.int 2, .int b3, .int b1]) (rest := []) dX4_lexInt_67 ml_X4_50 mv_X4_keep (s_X4_keep hE hq10) rfl rfl jc_3 (by decide) (Nat.le_of_ble_eq_true rfl) ?_
          refine jx_iload_n dX4_lexInt_70 rfl ?_
          cases hf
          exact jx_iret dX4_lexInt_71 rfl rfl
        · rw [if_neg c9] at hf
          refine jx_iconst (v := 1) dX4_lexInt_60 (by decide) ?_
          refine jx_goto (tgt := 65) dX4_lexInt_61 (by decide) ?_
          refine jx_iload_n dX4_lexInt_65 rfl ?_
          refine jx_iload_n dX4_lexInt_66 rfl ?_
          obtain ⟨q11, hq11, hf⟩ := jbd_inv hf
          refine jx_cVv (a := 3) (As := [.int 1, .int b3, .int b1]) (rest := []) dX4_lexInt_67 ml_X4_50 mv_X4_keep (s_X4_keep hE hq11) rfl rfl jc_3 (by decide) (Nat.le_of_ble_eq_true rfl) ?_
          refine jx_iload_n dX4_lexInt_70 rfl ?_
          cases hf
          exact jx_iret dX4_lexInt_71 rfl rfl
      · rw [if_neg c8] at hf
        refine jx_iload_n dX4_lexInt_29 rfl ?_
        refine jx_bipush (v := 10) dX4_lexInt_30 (by decide) ?_
        refine jx_imul dX4_lexInt_32 ?_
        refine jx_aload_n dX4_lexInt_33 rfl ?_
        refine jx_getr dX4_lexInt_34 fl_X4_9 kj_3 sr_3_0 ?_
        refine jx_iload_n dX4_lexInt_37 rfl ?_
        refine jx_cVi (a := 1) (As := [.int b2]) (rest := [.int (b3 * 10)]) dX4_lexInt_38 ml_X4_39 mv_X8_at (c_row_at (k := 0) kj_1 (by decide)) rfl rfl jc_1 (by decide) (Nat.le_of_ble_eq_true rfl) ?_
        refine jx_iadd dX4_lexInt_41 ?_
        refine jx_bipush (v := 48) dX4_lexInt_42 (by decide) ?_
        refine jx_isub dX4_lexInt_44 ?_
        obtain ⟨x12, hx12, hf⟩ := jl_inv hf
        refine jx_nm hx12 ?_
        refine jx_istore_n (ls' := [(0, .ref (E.2.2.2 + 3)), (1, .int b1), (2, .int b2), (3, .int x12)]) dX4_lexInt_45 (by decide) rfl ?_
        obtain ⟨x13, hx13, hf⟩ := jl_inv hf
        refine jx_iinc (v := x13) (ls' := [(0, .ref (E.2.2.2 + 3)), (1, .int b1), (2, .int x13), (3, .int x12)]) dX4_lexInt_46 rfl (by rw [hx13]; rfl) (by decide) rfl ?_
        refine jx_goto (tgt := 4) dX4_lexInt_49 (by decide) ?_
        exact ih _ _ _ _ _ _ hf
def f_X4_lexInt (a1 : Int32) (w : jw) : Option (Int32 × jw) := (l_X4_lexInt jfu a1 a1 0 w)
set_option maxRecDepth 20000 in
set_option maxHeartbeats 2000000 in
theorem s_X4_lexInt {E : jE} (hE : jfull E) {a1 : Int32} {w w' : jw} {v : Int32} (hf : f_X4_lexInt a1 w = some (v, w')) : jC E m_X4_lexInt 4 [.ref (E.2.2.2 + 3), .int a1] w (some (.int v)) w' := by
  refine jC_of (ls := [(0, .ref (E.2.2.2 + 3)), (1, .int a1)]) (by decide) rfl (fun _ => trivial) (Nat.le_of_ble_eq_true rfl) rfl ⟨.int, rfl, rfl⟩ ?_
  unfold f_X4_lexInt at hf
  refine jx_iload_n dX4_lexInt_0 rfl ?_
  refine jx_istore_n (ls' := [(0, .ref (E.2.2.2 + 3)), (1, .int a1), (2, .int a1)]) dX4_lexInt_1 (by decide) rfl ?_
  refine jx_iconst (v := 0) dX4_lexInt_2 (by decide) ?_
  refine jx_istore_n (ls' := [(0, .ref (E.2.2.2 + 3)), (1, .int a1), (2, .int a1), (3, .int 0)]) dX4_lexInt_3 (by decide) rfl ?_
  exact sl_X4_lexInt hE jfu _ _ _ _ _ _ hf
def f_X4_isBlank (a1 : Int32) (w : jw) : Option (Bool × jw) := (if a1 = 9 then some (true, w) else (if a1 = 10 then some (true, w) else (if a1 = 13 then some (true, w) else (if a1 = 32 then some (true, w) else some (false, w)))))
set_option maxRecDepth 20000 in
set_option maxHeartbeats 2000000 in
theorem s_X4_isBlank {E : jE} (hE : jfull E) {a1 : Int32} {w w' : jw} {v : Bool} (hf : f_X4_isBlank a1 w = some (v, w')) : jC E m_X4_isBlank 0 [.int a1] w (some (.int (jb v))) w' := by
  refine jC_of (ls := [(0, .int a1)]) (by decide) rfl (fun _ => trivial) (Nat.le_of_ble_eq_true rfl) rfl jb_ans ?_
  unfold f_X4_isBlank at hf
  refine jx_iload_n dX4_isBlank_0 rfl ?_
  refine jx_bipush (v := 9) dX4_isBlank_1 (by decide) ?_
  refine jx_icmp_eq (tgt := 24) dX4_isBlank_3 (by decide) (fun c1 => ?_) (fun c1 => ?_)
  · rw [if_pos c1] at hf
    refine jx_iconst (v := 1) dX4_isBlank_24 (by decide) ?_
    refine jx_goto (tgt := 29) dX4_isBlank_25 (by decide) ?_
    cases hf
    exact jx_iret dX4_isBlank_29 rfl rfl
  · rw [if_neg c1] at hf
    refine jx_iload_n dX4_isBlank_6 rfl ?_
    refine jx_bipush (v := 10) dX4_isBlank_7 (by decide) ?_
    refine jx_icmp_eq (tgt := 24) dX4_isBlank_9 (by decide) (fun c2 => ?_) (fun c2 => ?_)
    · rw [if_pos c2] at hf
      refine jx_iconst (v := 1) dX4_isBlank_24 (by decide) ?_
      refine jx_goto (tgt := 29) dX4_isBlank_25 (by decide) ?_
      cases hf
      exact jx_iret dX4_isBlank_29 rfl rfl
    · rw [if_neg c2] at hf
      refine jx_iload_n dX4_isBlank_12 rfl ?_
      refine jx_bipush (v := 13) dX4_isBlank_13 (by decide) ?_
      refine jx_icmp_eq (tgt := 24) dX4_isBlank_15 (by decide) (fun c3 => ?_) (fun c3 => ?_)
      · rw [if_pos c3] at hf
        refine jx_iconst (v := 1) dX4_isBlank_24 (by decide) ?_
        refine jx_goto (tgt := 29) dX4_isBlank_25 (by decide) ?_
        cases hf
        exact jx_iret dX4_isBlank_29 rfl rfl
      · rw [if_neg c3] at hf
        refine jx_iload_n dX4_isBlank_18 rfl ?_
        refine jx_bipush (v := 32) dX4_isBlank_19 (by decide) ?_
        refine jx_icmp_ne (tgt := 28) dX4_isBlank_21 (by decide) (fun c4 => ?_) (fun c4 => ?_)
        · rw [if_neg c4] at hf
          refine jx_iconst (v := 0) dX4_isBlank_28 (by decide) ?_
          cases hf
          exact jx_iret dX4_isBlank_29 rfl rfl
        · rw [if_pos c4] at hf
          refine jx_iconst (v := 1) dX4_isBlank_24 (by decide) ?_
          refine jx_goto (tgt := 29) dX4_isBlank_25 (by decide) ?_
          cases hf
          exact jx_iret dX4_isBlank_29 rfl rfl
def l_X4_pastBlanks : Nat → Int32 → Int32 → jw → Option (Int32 × jw)
  | 0, _, _, _ => none
  | n + 1, b1, b2, w => (if (nI (w.2.2.2 1).length) ≤ b2 then some (b2, w) else jbd2 (f_X4_isBlank (rat (w.2.2.2 1) b2) w) fun x3 w4 => (if (jb x3) = 0 then some (b2, w4) else jl (b2 + 1) fun x6 => (l_X4_pastBlanks n b1 x6 w4)))
set_option maxRecDepth 20000 in
set_option maxHeartbeats 2000000 in
theorem sl_X4_pastBlanks {E : jE} (hE : jfull E) : ∀ (n : Nat) (b1 : Int32) (b2 : Int32) (w : jw) (v : Int32) (w' : jw), l_X4_pastBlanks n b1 b2 w = some (v, w') → jX E m_X4_pastBlanks 1 2 [(0, .ref (E.2.2.2 + 3)), (1, .int b1), (2, .int b2)] [] w (some (.int v)) w' := by
  intro n
  induction n with
  | zero => intro b1 b2 w v w' hf; cases hf
  | succ n ih =>
    intro b1 b2 w v w' hf
    unfold l_X4_pastBlanks at hf
    refine jx_iload_n dX4_pastBlanks_2 rfl ?_
    refine jx_aload_n dX4_pastBlanks_3 rfl ?_
    refine jx_getr dX4_pastBlanks_4 fl_X4_9 kj_3 sr_3_0 ?_
    refine jx_getn dX4_pastBlanks_7 fl_X4_42 kj_1 (by decide) ?_
    refine jx_icmp_ge (tgt := 33) dX4_pastBlanks_10 (by decide) (fun c1 => ?_) (fun c1 => ?_)
    · rw [if_pos c1] at hf
      refine jx_iload_n dX4_pastBlanks_33 rfl ?_
      cases hf
      exact jx_iret dX4_pastBlanks_34 rfl rfl
    · rw [if_neg c1] at hf
      refine jx_aload_n dX4_pastBlanks_13 rfl ?_
      refine jx_getr dX4_pastBlanks_14 fl_X4_9 kj_3 sr_3_0 ?_
      refine jx_iload_n dX4_pastBlanks_17 rfl ?_
      refine jx_cVi (a := 1) (As := [.int b2]) (rest := []) dX4_pastBlanks_18 ml_X4_39 mv_X8_at (c_row_at (k := 0) kj_1 (by decide)) rfl rfl jc_1 (by decide) (Nat.le_of_ble_eq_true rfl) ?_
      obtain ⟨x3, w4, hq2, hf⟩ := jbd2_inv hf
      refine jx_cSi (As := [.int (rat (w.2.2.2 1) b2)]) (rest := []) dX4_pastBlanks_21 ml_X4_46 ms_X4_isBlank (s_X4_isBlank hE hq2) rfl rfl rfl (by decide) (Nat.le_of_ble_eq_true rfl) ?_
      refine jx_if_eq (tgt := 33) dX4_pastBlanks_24 (by decide) (fun c5 => ?_) (fun c5 => ?_)
      · rw [if_pos c5] at hf
        refine jx_iload_n dX4_pastBlanks_33 rfl ?_
        cases hf
        exact jx_iret dX4_pastBlanks_34 rfl rfl
      · rw [if_neg c5] at hf
        obtain ⟨x6, hx6, hf⟩ := jl_inv hf
        refine jx_iinc (v := x6) (ls' := [(0, .ref (E.2.2.2 + 3)), (1, .int b1), (2, .int x6)]) dX4_pastBlanks_27 rfl (by rw [hx6]; rfl) (by decide) rfl ?_
        refine jx_goto (tgt := 2) dX4_pastBlanks_30 (by decide) ?_
        exact ih _ _ _ _ _ hf
def f_X4_pastBlanks (a1 : Int32) (w : jw) : Option (Int32 × jw) := (l_X4_pastBlanks jfu a1 a1 w)
set_option maxRecDepth 20000 in
set_option maxHeartbeats 2000000 in
theorem s_X4_pastBlanks {E : jE} (hE : jfull E) {a1 : Int32} {w w' : jw} {v : Int32} (hf : f_X4_pastBlanks a1 w = some (v, w')) : jC E m_X4_pastBlanks 1 [.ref (E.2.2.2 + 3), .int a1] w (some (.int v)) w' := by
  refine jC_of (ls := [(0, .ref (E.2.2.2 + 3)), (1, .int a1)]) (by decide) rfl (fun _ => trivial) (Nat.le_of_ble_eq_true rfl) rfl ⟨.int, rfl, rfl⟩ ?_
  unfold f_X4_pastBlanks at hf
  refine jx_iload_n dX4_pastBlanks_0 rfl ?_
  refine jx_istore_n (ls' := [(0, .ref (E.2.2.2 + 3)), (1, .int a1), (2, .int a1)]) dX4_pastBlanks_1 (by decide) rfl ?_
  exact sl_X4_pastBlanks hE jfu _ _ _ _ _ hf
def f_X5_levels (a1 : Int32) (w : jw) : Option (Int32 × jw) := jbd (f_X9_trace_64 0 a1 w) fun q1 => some (nI (q1.2.2.2 64).length, q1)
set_option maxRecDepth 20000 in
set_option maxHeartbeats 2000000 in
theorem s_X5_levels {E : jE} (hE : jfull E) {a1 : Int32} {w w' : jw} {v : Int32} (hf : f_X5_levels a1 w = some (v, w')) : jC E m_X5_levels 4 [.ref (E.2.2.2 + 63), .int a1] w (some (.int v)) w' := by
  refine jC_of (ls := [(0, .ref (E.2.2.2 + 63)), (1, .int a1)]) (by decide) rfl (fun _ => trivial) (Nat.le_of_ble_eq_true rfl) rfl ⟨.int, rfl, rfl⟩ ?_
  unfold f_X5_levels at hf
  refine jx_aload_n dX5_levels_0 rfl ?_
  refine jx_getr dX5_levels_1 fl_X5_9 kj_63 sr_63_0 ?_
  refine jx_aload_n dX5_levels_4 rfl ?_
  refine jx_getr dX5_levels_5 fl_X5_27 kj_63 sr_63_2 ?_
  refine jx_iconst (v := 0) dX5_levels_8 (by decide) ?_
  refine jx_iload_n dX5_levels_9 rfl ?_
  obtain ⟨q1, hq1, hf⟩ := jbd_inv hf
  refine jx_cVv (a := 17) (As := [.ref (E.2.2.2 + 64), .int 0, .int a1]) (rest := []) dX5_levels_10 ml_X5_34 mv_X9_trace (s_X9_trace_64 hE hq1) rfl rfl jc_17 (by decide) (Nat.le_of_ble_eq_true rfl) ?_
  refine jx_aload_n dX5_levels_13 rfl ?_
  refine jx_getr dX5_levels_14 fl_X5_27 kj_63 sr_63_2 ?_
  refine jx_getn dX5_levels_17 fl_X5_38 kj_64 (by decide) ?_
  cases hf
  exact jx_iret dX5_levels_20 rfl rfl
def f_X5_leafOf (a1 : Int32) (a2 : Int32) (w : jw) : Option (Int32 × jw) := jbd (f_X9_trace_64 a1 a2 w) fun q1 => some (rat (q1.2.2.2 64) ((nI (q1.2.2.2 64).length) - 1), q1)
set_option maxRecDepth 20000 in
set_option maxHeartbeats 2000000 in
theorem s_X5_leafOf {E : jE} (hE : jfull E) {a1 : Int32} {a2 : Int32} {w w' : jw} {v : Int32} (hf : f_X5_leafOf a1 a2 w = some (v, w')) : jC E m_X5_leafOf 4 [.ref (E.2.2.2 + 63), .int a1, .int a2] w (some (.int v)) w' := by
  refine jC_of (ls := [(0, .ref (E.2.2.2 + 63)), (1, .int a1), (2, .int a2)]) (by decide) rfl (fun _ => trivial) (Nat.le_of_ble_eq_true rfl) rfl ⟨.int, rfl, rfl⟩ ?_
  unfold f_X5_leafOf at hf
  refine jx_aload_n dX5_leafOf_0 rfl ?_
  refine jx_getr dX5_leafOf_1 fl_X5_9 kj_63 sr_63_0 ?_
  refine jx_aload_n dX5_leafOf_4 rfl ?_
  refine jx_getr dX5_leafOf_5 fl_X5_27 kj_63 sr_63_2 ?_
  refine jx_iload_n dX5_leafOf_8 rfl ?_
  refine jx_iload_n dX5_leafOf_9 rfl ?_
  obtain ⟨q1, hq1, hf⟩ := jbd_inv hf
  refine jx_cVv (a := 17) (As := [.ref (E.2.2.2 + 64), .int a1, .int a2]) (rest := []) dX5_leafOf_10 ml_X5_34 mv_X9_trace (s_X9_trace_64 hE hq1) rfl rfl jc_17 (by decide) (Nat.le_of_ble_eq_true rfl) ?_
  refine jx_aload_n dX5_leafOf_13 rfl ?_
  refine jx_getr dX5_leafOf_14 fl_X5_27 kj_63 sr_63_2 ?_
  refine jx_aload_n dX5_leafOf_17 rfl ?_
  refine jx_getr dX5_leafOf_18 fl_X5_27 kj_63 sr_63_2 ?_
  refine jx_getn dX5_leafOf_21 fl_X5_38 kj_64 (by decide) ?_
  refine jx_iconst (v := 1) dX5_leafOf_24 (by decide) ?_
  refine jx_isub dX5_leafOf_25 ?_
  refine jx_cVi (a := 64) (As := [.int ((nI (q1.2.2.2 64).length) - 1)]) (rest := []) dX5_leafOf_26 ml_X5_42 mv_X8_at (c_row_at (k := 0) kj_64 (by decide)) rfl rfl jc_64 (by decide) (Nat.le_of_ble_eq_true rfl) ?_
  cases hf
  exact jx_iret dX5_leafOf_29 rfl rfl
def f_X5_pageOnWay (a1 : Int32) (a2 : Int32) (a3 : Int32) (w : jw) : Option (Int32 × jw) := jbd (f_X9_trace_64 a1 a2 w) fun q1 => (if a3 < 0 then some ((-1), q1) else (if (nI (q1.2.2.2 64).length) ≤ a3 then some ((-1), q1) else some (rat (q1.2.2.2 64) a3, q1)))
set_option maxRecDepth 20000 in
set_option maxHeartbeats 2000000 in
theorem s_X5_pageOnWay {E : jE} (hE : jfull E) {a1 : Int32} {a2 : Int32} {a3 : Int32} {w w' : jw} {v : Int32} (hf : f_X5_pageOnWay a1 a2 a3 w = some (v, w')) : jC E m_X5_pageOnWay 4 [.ref (E.2.2.2 + 63), .int a1, .int a2, .int a3] w (some (.int v)) w' := by
  refine jC_of (ls := [(0, .ref (E.2.2.2 + 63)), (1, .int a1), (2, .int a2), (3, .int a3)]) (by decide) rfl (fun _ => trivial) (Nat.le_of_ble_eq_true rfl) rfl ⟨.int, rfl, rfl⟩ ?_
  unfold f_X5_pageOnWay at hf
  refine jx_aload_n dX5_pageOnWay_0 rfl ?_
  refine jx_getr dX5_pageOnWay_1 fl_X5_9 kj_63 sr_63_0 ?_
  refine jx_aload_n dX5_pageOnWay_4 rfl ?_
  refine jx_getr dX5_pageOnWay_5 fl_X5_27 kj_63 sr_63_2 ?_
  refine jx_iload_n dX5_pageOnWay_8 rfl ?_
  refine jx_iload_n dX5_pageOnWay_9 rfl ?_
  obtain ⟨q1, hq1, hf⟩ := jbd_inv hf
  refine jx_cVv (a := 17) (As := [.ref (E.2.2.2 + 64), .int a1, .int a2]) (rest := []) dX5_pageOnWay_10 ml_X5_34 mv_X9_trace (s_X9_trace_64 hE hq1) rfl rfl jc_17 (by decide) (Nat.le_of_ble_eq_true rfl) ?_
  refine jx_iload_n dX5_pageOnWay_13 rfl ?_
  refine jx_if_lt (tgt := 39) dX5_pageOnWay_14 (by decide) (fun c2 => ?_) (fun c2 => ?_)
  · rw [if_pos c2] at hf
    refine jx_iconst (v := (-1)) dX5_pageOnWay_39 (by decide) ?_
    cases hf
    exact jx_iret dX5_pageOnWay_40 rfl rfl
  · rw [if_neg c2] at hf
    refine jx_iload_n dX5_pageOnWay_17 rfl ?_
    refine jx_aload_n dX5_pageOnWay_18 rfl ?_
    refine jx_getr dX5_pageOnWay_19 fl_X5_27 kj_63 sr_63_2 ?_
    refine jx_getn dX5_pageOnWay_22 fl_X5_38 kj_64 (by decide) ?_
    refine jx_icmp_ge (tgt := 39) dX5_pageOnWay_25 (by decide) (fun c3 => ?_) (fun c3 => ?_)
    · rw [if_pos c3] at hf
      refine jx_iconst (v := (-1)) dX5_pageOnWay_39 (by decide) ?_
      cases hf
      exact jx_iret dX5_pageOnWay_40 rfl rfl
    · rw [if_neg c3] at hf
      refine jx_aload_n dX5_pageOnWay_28 rfl ?_
      refine jx_getr dX5_pageOnWay_29 fl_X5_27 kj_63 sr_63_2 ?_
      refine jx_iload_n dX5_pageOnWay_32 rfl ?_
      refine jx_cVi (a := 64) (As := [.int a3]) (rest := []) dX5_pageOnWay_33 ml_X5_42 mv_X8_at (c_row_at (k := 0) kj_64 (by decide)) rfl rfl jc_64 (by decide) (Nat.le_of_ble_eq_true rfl) ?_
      refine jx_goto (tgt := 40) dX5_pageOnWay_36 (by decide) ?_
      cases hf
      exact jx_iret dX5_pageOnWay_40 rfl rfl
def l_X5_comeBelow : Nat → Int32 → Int32 → Int32 → Int32 → Int32 → Int32 → jw → Option (jw)
  | 0, _, _, _, _, _, _, _ => none
  | n + 1, b1, b2, b3, b4, b5, b6, w => (if b5 ≤ b6 then some w else (if b3 < b2 then some w else jbd2 (f_X6_livesAt b6 b4 w) fun x4 w5 => jbd (if (jb x4) = 0 then some w5 else jl (rat (w5.2.2.2 27) b6 : Int32) fun x10 => jbd2 (f_X6_slotAfter b1 x10 b4 w5) fun x12 w13 => jbd2 (f_X6_slotToward b1 (x10 - 1) b4 w13) fun x15 w16 => jbd (if x15 = (-1) then some (1 : Int32) else some (0 : Int32)) fun x18 => jbd (if x12 = (-1) then some (1 : Int32) else (if (rat (w16.2.2.2 27) x12) ≤ b2 then some (0 : Int32) else some (1 : Int32))) fun x21 => (if x21 = 0 then some w16 else (if x18 = 0 then (if b3 < x10 then some w16 else jg (decide ((w16.2.2.2 66).length ≤ 4096)) (jl (jsetR w16 66 (w16.2.2.2 66 ++ [rat (w16.2.2.2 29) b6])) fun w28 => some w28)) else jg (decide ((w16.2.2.2 66).length ≤ 4096)) (jl (jsetR w16 66 (w16.2.2.2 66 ++ [rat (w16.2.2.2 29) b6])) fun w25 => some w25)))) fun w7 => jl (b6 + 1) fun x9 => (l_X5_comeBelow n b1 b2 b3 b4 b5 x9 w7)))
set_option maxRecDepth 20000 in
set_option maxHeartbeats 2000000 in
theorem sl_X5_comeBelow {E : jE} (hE : jfull E) : ∀ (n : Nat) (b1 : Int32) (b2 : Int32) (b3 : Int32) (b4 : Int32) (b5 : Int32) (b6 : Int32) (w : jw) (w' : jw), l_X5_comeBelow n b1 b2 b3 b4 b5 b6 w = some w' → jX E m_X5_comeBelow 3 20 [(0, .ref (E.2.2.2 + 63)), (1, .int b1), (2, .int b2), (3, .int b3), (4, .int b4), (5, .int b5), (6, .int b6)] [] w none w' := by
  intro n
  induction n with
  | zero => intro b1 b2 b3 b4 b5 b6 w w' hf; cases hf
  | succ n ih =>
    intro b1 b2 b3 b4 b5 b6 w w' hf
    unfold l_X5_comeBelow at hf
    refine jx_iload dX5_comeBelow_20 rfl ?_
    refine jx_iload dX5_comeBelow_22 rfl ?_
    refine jx_icmp_ge (tgt := 172) dX5_comeBelow_24 (by decide) (fun c1 => ?_) (fun c1 => ?_)
    · rw [if_pos c1] at hf
      cases hf
      exact jx_vret dX5_comeBelow_172 rfl rfl
    · rw [if_neg c1] at hf
      refine jx_iload_n dX5_comeBelow_27 rfl ?_
      refine jx_iload_n dX5_comeBelow_28 rfl ?_
      refine jx_icmp_gt (tgt := 172) dX5_comeBelow_29 (by decide) (fun c2 => ?_) (fun c2 => ?_)
      · rw [if_pos c2] at hf
        cases hf
        exact jx_vret dX5_comeBelow_172 rfl rfl
      · rw [if_neg c2] at hf
        refine jx_aload_n dX5_comeBelow_32 rfl ?_
        refine jx_getr dX5_comeBelow_33 fl_X5_21 kj_63 sr_63_1 ?_
        refine jx_iload dX5_comeBelow_36 rfl ?_
        refine jx_iload dX5_comeBelow_38 rfl ?_
        obtain ⟨x4, w5, hq3, hf⟩ := jbd2_inv hf
        refine jx_cVi (a := 18) (As := [.int b6, .int b4]) (rest := []) dX5_comeBelow_40 ml_X5_92 mv_X6_livesAt (s_X6_livesAt hE hq3) rfl rfl jc_18 (by decide) (Nat.le_of_ble_eq_true rfl) ?_
        obtain ⟨w7, hqhJ8, hf⟩ := jbd_inv hf
        have hJ8 : jX E m_X5_comeBelow 3 166 [(0, .ref (E.2.2.2 + 63)), (1, .int b1), (2, .int b2), (3, .int b3), (4, .int b4), (5, .int b5), (6, .int b6)] [] w7 none w' := by
          obtain ⟨x9, hx9, hf⟩ := jl_inv hf
          refine jx_iinc (v := x9) (ls' := [(0, .ref (E.2.2.2 + 63)), (1, .int b1), (2, .int b2), (3, .int b3), (4, .int b4), (5, .int b5), (6, .int x9)]) dX5_comeBelow_166 rfl (by rw [hx9]; rfl) (by decide) rfl ?_
          refine jx_goto (tgt := 20) dX5_comeBelow_169 (by decide) ?_
          exact ih _ _ _ _ _ _ _ _ hf
        clear hf
        have hf := hqhJ8
        clear hqhJ8
        refine jx_if_ne (tgt := 49) dX5_comeBelow_43 (by decide) (fun c6 => ?_) (fun c6 => ?_)
        · rw [if_neg c6] at hf
          refine jx_aload_n dX5_comeBelow_49 rfl ?_
          refine jx_getr dX5_comeBelow_50 fl_X5_21 kj_63 sr_63_1 ?_
          refine jx_getr dX5_comeBelow_53 fl_X5_96 kj_18 sr_18_4 ?_
          refine jx_iload dX5_comeBelow_56 rfl ?_
          refine jx_cVi (a := 27) (As := [.int b6]) (rest := []) dX5_comeBelow_58 ml_X5_42 mv_X8_at (c_row_at (k := 0) kj_27 (by decide)) rfl rfl jc_27 (by decide) (Nat.le_of_ble_eq_true rfl) ?_
          obtain ⟨x10, hx10, hf⟩ := jl_inv hf
          refine jx_nm hx10 ?_
          refine jx_istore (ls' := [(0, .ref (E.2.2.2 + 63)), (1, .int b1), (2, .int b2), (3, .int b3), (4, .int b4), (5, .int b5), (6, .int b6), (7, .int x10)]) dX5_comeBelow_61 (by decide) rfl ?_
          refine jx_aload_n dX5_comeBelow_63 rfl ?_
          refine jx_getr dX5_comeBelow_64 fl_X5_21 kj_63 sr_63_1 ?_
          refine jx_iload_n dX5_comeBelow_67 rfl ?_
          refine jx_iload dX5_comeBelow_68 rfl ?_
          refine jx_iload dX5_comeBelow_70 rfl ?_
          obtain ⟨x12, w13, hq11, hf⟩ := jbd2_inv hf
          refine jx_cVi (a := 18) (As := [.int b1, .int x10, .int b4]) (rest := []) dX5_comeBelow_72 ml_X5_99 mv_X6_slotAfter (s_X6_slotAfter hE hq11) rfl rfl jc_18 (by decide) (Nat.le_of_ble_eq_true rfl) ?_
          refine jx_istore (ls' := [(0, .ref (E.2.2.2 + 63)), (1, .int b1), (2, .int b2), (3, .int b3), (4, .int b4), (5, .int b5), (6, .int b6), (7, .int x10), (8, .int x12)]) dX5_comeBelow_75 (by decide) rfl ?_
          refine jx_aload_n dX5_comeBelow_77 rfl ?_
          refine jx_getr dX5_comeBelow_78 fl_X5_21 kj_63 sr_63_1 ?_
          refine jx_iload_n dX5_comeBelow_81 rfl ?_
          refine jx_iload dX5_comeBelow_82 rfl ?_
          refine jx_iconst (v := 1) dX5_comeBelow_84 (by decide) ?_
          refine jx_isub dX5_comeBelow_85 ?_
          refine jx_iload dX5_comeBelow_86 rfl ?_
          obtain ⟨x15, w16, hq14, hf⟩ := jbd2_inv hf
          refine jx_cVi (a := 18) (As := [.int b1, .int (x10 - 1), .int b4]) (rest := []) dX5_comeBelow_88 ml_X5_103 mv_X6_slotToward (s_X6_slotToward hE hq14) rfl rfl jc_18 (by decide) (Nat.le_of_ble_eq_true rfl) ?_
          refine jx_iconst (v := (-1)) dX5_comeBelow_91 (by decide) ?_
          obtain ⟨x18, hqhJ19, hf⟩ := jbd_inv hf
          have hJ19 : jX E m_X5_comeBelow 3 100 [(0, .ref (E.2.2.2 + 63)), (1, .int b1), (2, .int b2), (3, .int b3), (4, .int b4), (5, .int b5), (6, .int b6), (7, .int x10), (8, .int x12)] [.int x18] w16 none w' := by
            refine jx_istore (ls' := [(0, .ref (E.2.2.2 + 63)), (1, .int b1), (2, .int b2), (3, .int b3), (4, .int b4), (5, .int b5), (6, .int b6), (7, .int x10), (8, .int x12), (9, .int x18)]) dX5_comeBelow_100 (by decide) rfl ?_
            refine jx_iload dX5_comeBelow_102 rfl ?_
            refine jx_iconst (v := (-1)) dX5_comeBelow_104 (by decide) ?_
            obtain ⟨x21, hqhJ22, hf⟩ := jbd_inv hf
            have hJ22 : jX E m_X5_comeBelow 3 129 [(0, .ref (E.2.2.2 + 63)), (1, .int b1), (2, .int b2), (3, .int b3), (4, .int b4), (5, .int b5), (6, .int b6), (7, .int x10), (8, .int x12), (9, .int x18)] [.int x21] w16 none w' := by
              refine jx_istore (ls' := [(0, .ref (E.2.2.2 + 63)), (1, .int b1), (2, .int b2), (3, .int b3), (4, .int b4), (5, .int b5), (6, .int b6), (7, .int x10), (8, .int x12), (9, .int x18), (10, .int x21)]) dX5_comeBelow_129 (by decide) rfl ?_
              refine jx_iload dX5_comeBelow_131 rfl ?_
              refine jx_if_eq (tgt := 166) dX5_comeBelow_133 (by decide) (fun c23 => ?_) (fun c23 => ?_)
              · rw [if_pos c23] at hf
                refine jx_pick [0, 1, 2, 3, 4, 5, 6] rfl ?_
                cases hf
                exact hJ8
              · rw [if_neg c23] at hf
                refine jx_iload dX5_comeBelow_136 rfl ?_
                refine jx_if_ne (tgt := 147) dX5_comeBelow_138 (by decide) (fun c24 => ?_) (fun c24 => ?_)
                · rw [if_neg c24] at hf
                  refine jx_aload_n dX5_comeBelow_147 rfl ?_
                  refine jx_getr dX5_comeBelow_148 fl_X5_31 kj_63 sr_63_3 ?_
                  refine jx_aload_n dX5_comeBelow_151 rfl ?_
                  refine jx_getr dX5_comeBelow_152 fl_X5_21 kj_63 sr_63_1 ?_
                  refine jx_getr dX5_comeBelow_155 fl_X5_106 kj_18 sr_18_5 ?_
                  refine jx_iload dX5_comeBelow_158 rfl ?_
                  refine jx_cVi (a := 29) (As := [.int b6]) (rest := [.ref (E.2.2.2 + 66)]) dX5_comeBelow_160 ml_X5_42 mv_X8_at (c_row_at (k := 0) kj_29 (by decide)) rfl rfl jc_29 (by decide) (Nat.le_of_ble_eq_true rfl) ?_
                  obtain ⟨c26, hf⟩ := jg_inv hf
                  refine jx_cVv (a := 66) (As := [.int (rat (w16.2.2.2 29) b6)]) (rest := []) dX5_comeBelow_163 ml_X5_75 mv_X8_add (c_row_add kj_66 (of_decide_eq_true c26) (Or.inl hE)) rfl rfl jc_66 (by decide) (Nat.le_of_ble_eq_true rfl) ?_
                  obtain ⟨w25, hw25, hf⟩ := jl_inv hf
                  refine jx_nw hw25 ?_
                  refine jx_pick [0, 1, 2, 3, 4, 5, 6] rfl ?_
                  cases hf
                  exact hJ8
                · rw [if_pos c24] at hf
                  refine jx_iload dX5_comeBelow_141 rfl ?_
                  refine jx_iload_n dX5_comeBelow_143 rfl ?_
                  refine jx_icmp_gt (tgt := 166) dX5_comeBelow_144 (by decide) (fun c27 => ?_) (fun c27 => ?_)
                  · rw [if_pos c27] at hf
                    refine jx_pick [0, 1, 2, 3, 4, 5, 6] rfl ?_
                    cases hf
                    exact hJ8
                  · rw [if_neg c27] at hf
                    refine jx_aload_n dX5_comeBelow_147 rfl ?_
                    refine jx_getr dX5_comeBelow_148 fl_X5_31 kj_63 sr_63_3 ?_
                    refine jx_aload_n dX5_comeBelow_151 rfl ?_
                    refine jx_getr dX5_comeBelow_152 fl_X5_21 kj_63 sr_63_1 ?_
                    refine jx_getr dX5_comeBelow_155 fl_X5_106 kj_18 sr_18_5 ?_
                    refine jx_iload dX5_comeBelow_158 rfl ?_
                    refine jx_cVi (a := 29) (As := [.int b6]) (rest := [.ref (E.2.2.2 + 66)]) dX5_comeBelow_160 ml_X5_42 mv_X8_at (c_row_at (k := 0) kj_29 (by decide)) rfl rfl jc_29 (by decide) (Nat.le_of_ble_eq_true rfl) ?_
                    obtain ⟨c29, hf⟩ := jg_inv hf
                    refine jx_cVv (a := 66) (As := [.int (rat (w16.2.2.2 29) b6)]) (rest := []) dX5_comeBelow_163 ml_X5_75 mv_X8_add (c_row_add kj_66 (of_decide_eq_true c29) (Or.inl hE)) rfl rfl jc_66 (by decide) (Nat.le_of_ble_eq_true rfl) ?_
                    obtain ⟨w28, hw28, hf⟩ := jl_inv hf
                    refine jx_nw hw28 ?_
                    refine jx_pick [0, 1, 2, 3, 4, 5, 6] rfl ?_
                    cases hf
                    exact hJ8
            clear hf
            have hf := hqhJ22
            clear hqhJ22
            refine jx_icmp_eq (tgt := 124) dX5_comeBelow_105 (by decide) (fun c20 => ?_) (fun c20 => ?_)
            · rw [if_pos c20] at hf
              refine jx_iconst (v := 1) dX5_comeBelow_124 (by decide) ?_
              refine jx_goto (tgt := 129) dX5_comeBelow_125 (by decide) ?_
              cases hf
              exact hJ22
            · rw [if_neg c20] at hf
              refine jx_iload_n dX5_comeBelow_108 rfl ?_
              refine jx_aload_n dX5_comeBelow_109 rfl ?_
              refine jx_getr dX5_comeBelow_110 fl_X5_21 kj_63 sr_63_1 ?_
              refine jx_getr dX5_comeBelow_113 fl_X5_96 kj_18 sr_18_4 ?_
              refine jx_iload dX5_comeBelow_116 rfl ?_
              refine jx_cVi (a := 27) (As := [.int x12]) (rest := [.int b2]) dX5_comeBelow_118 ml_X5_42 mv_X8_at (c_row_at (k := 0) kj_27 (by decide)) rfl rfl jc_27 (by decide) (Nat.le_of_ble_eq_true rfl) ?_
              refine jx_icmp_ge (tgt := 128) dX5_comeBelow_121 (by decide) (fun c30 => ?_) (fun c30 => ?_)
              · rw [if_pos c30] at hf
                refine jx_iconst (v := 0) dX5_comeBelow_128 (by decide) ?_
                cases hf
                exact hJ22
              · rw [if_neg c30] at hf
                refine jx_iconst (v := 1) dX5_comeBelow_124 (by decide) ?_
                refine jx_goto (tgt := 129) dX5_comeBelow_125 (by decide) ?_
                cases hf
                exact hJ22
          clear hf
          have hf := hqhJ19
          clear hqhJ19
          refine jx_icmp_ne (tgt := 99) dX5_comeBelow_92 (by decide) (fun c17 => ?_) (fun c17 => ?_)
          · rw [if_neg c17] at hf
            refine jx_iconst (v := 0) dX5_comeBelow_99 (by decide) ?_
            cases hf
            exact hJ19
          · rw [if_pos c17] at hf
            refine jx_iconst (v := 1) dX5_comeBelow_95 (by decide) ?_
            refine jx_goto (tgt := 100) dX5_comeBelow_96 (by decide) ?_
            cases hf
            exact hJ19
        · rw [if_pos c6] at hf
          refine jx_goto (tgt := 166) dX5_comeBelow_46 (by decide) ?_
          cases hf
          exact hJ8
def f_X5_comeBelow (a1 : Int32) (a2 : Int32) (a3 : Int32) (a4 : Int32) (w : jw) : Option (jw) := jbd2 (f_X6_endSlot a1 w) fun x32 w33 => jbd2 (f_X6_firstSlot a1 w33) fun x35 w36 => (l_X5_comeBelow jfu a1 a2 a3 a4 x32 x35 w36)
set_option maxRecDepth 20000 in
set_option maxHeartbeats 2000000 in
theorem s_X5_comeBelow {E : jE} (hE : jfull E) {a1 : Int32} {a2 : Int32} {a3 : Int32} {a4 : Int32} {w w' : jw} (hf : f_X5_comeBelow a1 a2 a3 a4 w = some w') : jC E m_X5_comeBelow 3 [.ref (E.2.2.2 + 63), .int a1, .int a2, .int a3, .int a4] w none w' := by
  refine jC_of (ls := [(0, .ref (E.2.2.2 + 63)), (1, .int a1), (2, .int a2), (3, .int a3), (4, .int a4)]) (by decide) rfl (fun _ => trivial) (Nat.le_of_ble_eq_true rfl) rfl rfl ?_
  unfold f_X5_comeBelow at hf
  refine jx_aload_n dX5_comeBelow_0 rfl ?_
  refine jx_getr dX5_comeBelow_1 fl_X5_21 kj_63 sr_63_1 ?_
  refine jx_iload_n dX5_comeBelow_4 rfl ?_
  obtain ⟨x32, w33, hq31, hf⟩ := jbd2_inv hf
  refine jx_cVi (a := 18) (As := [.int a1]) (rest := []) dX5_comeBelow_5 ml_X5_86 mv_X6_endSlot (s_X6_endSlot hE hq31) rfl rfl jc_18 (by decide) (Nat.le_of_ble_eq_true rfl) ?_
  refine jx_istore (ls' := [(0, .ref (E.2.2.2 + 63)), (1, .int a1), (2, .int a2), (3, .int a3), (4, .int a4), (5, .int x32)]) dX5_comeBelow_8 (by decide) rfl ?_
  refine jx_aload_n dX5_comeBelow_10 rfl ?_
  refine jx_getr dX5_comeBelow_11 fl_X5_21 kj_63 sr_63_1 ?_
  refine jx_iload_n dX5_comeBelow_14 rfl ?_
  obtain ⟨x35, w36, hq34, hf⟩ := jbd2_inv hf
  refine jx_cVi (a := 18) (As := [.int a1]) (rest := []) dX5_comeBelow_15 ml_X5_89 mv_X6_firstSlot (s_X6_firstSlot hE hq34) rfl rfl jc_18 (by decide) (Nat.le_of_ble_eq_true rfl) ?_
  refine jx_istore (ls' := [(0, .ref (E.2.2.2 + 63)), (1, .int a1), (2, .int a2), (3, .int a3), (4, .int a4), (5, .int x32), (6, .int x35)]) dX5_comeBelow_18 (by decide) rfl ?_
  exact sl_X5_comeBelow hE jfu _ _ _ _ _ _ _ _ hf
def l_X5_comeTo : Nat → Int32 → Int32 → Int32 → Int32 → jw → Option (jw)
  | 0, _, _, _, _, _ => none
  | n + 1, b1, b2, b3, b4, w => (if (nI (w.2.2.2 66).length) ≤ b4 then some w else (if 1000 ≤ b4 then some w else jbd2 (f_X6_isLeaf (rat (w.2.2.2 66) b4) w) fun x4 w5 => (if (jb x4) = 0 then jbd (f_X5_comeBelow (rat (w5.2.2.2 66) b4) b1 b2 b3 w5) fun q8 => jl (b4 + 1) fun x9 => (l_X5_comeTo n b1 b2 b3 x9 q8) else jl (b4 + 1) fun x7 => (l_X5_comeTo n b1 b2 b3 x7 w5))))
set_option maxRecDepth 20000 in
set_option maxHeartbeats 2000000 in
theorem sl_X5_comeTo {E : jE} (hE : jfull E) : ∀ (n : Nat) (b1 : Int32) (b2 : Int32) (b3 : Int32) (b4 : Int32) (w : jw) (w' : jw), l_X5_comeTo n b1 b2 b3 b4 w = some w' → jX E m_X5_comeTo 4 26 [(0, .ref (E.2.2.2 + 63)), (1, .int b1), (2, .int b2), (3, .int b3), (4, .int b4)] [] w none w' := by
  intro n
  induction n with
  | zero => intro b1 b2 b3 b4 w w' hf; cases hf
  | succ n ih =>
    intro b1 b2 b3 b4 w w' hf
    unfold l_X5_comeTo at hf
    refine jx_iload dX5_comeTo_26 rfl ?_
    refine jx_aload_n dX5_comeTo_28 rfl ?_
    refine jx_getr dX5_comeTo_29 fl_X5_31 kj_63 sr_63_3 ?_
    refine jx_getn dX5_comeTo_32 fl_X5_38 kj_66 (by decide) ?_
    refine jx_icmp_ge (tgt := 87) dX5_comeTo_35 (by decide) (fun c1 => ?_) (fun c1 => ?_)
    · rw [if_pos c1] at hf
      cases hf
      exact jx_vret dX5_comeTo_87 rfl rfl
    · rw [if_neg c1] at hf
      refine jx_iload dX5_comeTo_38 rfl ?_
      refine jx_sipush (v := 1000) dX5_comeTo_40 (by decide) ?_
      refine jx_icmp_ge (tgt := 87) dX5_comeTo_43 (by decide) (fun c2 => ?_) (fun c2 => ?_)
      · rw [if_pos c2] at hf
        cases hf
        exact jx_vret dX5_comeTo_87 rfl rfl
      · rw [if_neg c2] at hf
        refine jx_aload_n dX5_comeTo_46 rfl ?_
        refine jx_getr dX5_comeTo_47 fl_X5_21 kj_63 sr_63_1 ?_
        refine jx_aload_n dX5_comeTo_50 rfl ?_
        refine jx_getr dX5_comeTo_51 fl_X5_31 kj_63 sr_63_3 ?_
        refine jx_iload dX5_comeTo_54 rfl ?_
        refine jx_cVi (a := 66) (As := [.int b4]) (rest := [.ref (E.2.2.2 + 18)]) dX5_comeTo_56 ml_X5_42 mv_X8_at (c_row_at (k := 0) kj_66 (by decide)) rfl rfl jc_66 (by decide) (Nat.le_of_ble_eq_true rfl) ?_
        obtain ⟨x4, w5, hq3, hf⟩ := jbd2_inv hf
        refine jx_cVi (a := 18) (As := [.int (rat (w.2.2.2 66) b4)]) (rest := []) dX5_comeTo_59 ml_X5_78 mv_X6_isLeaf (s_X6_isLeaf hE hq3) rfl rfl jc_18 (by decide) (Nat.le_of_ble_eq_true rfl) ?_
        refine jx_if_ne (tgt := 81) dX5_comeTo_62 (by decide) (fun c6 => ?_) (fun c6 => ?_)
        · rw [if_neg c6] at hf
          obtain ⟨x7, hx7, hf⟩ := jl_inv hf
          refine jx_iinc (v := x7) (ls' := [(0, .ref (E.2.2.2 + 63)), (1, .int b1), (2, .int b2), (3, .int b3), (4, .int x7)]) dX5_comeTo_81 rfl (by rw [hx7]; rfl) (by decide) rfl ?_
          refine jx_goto (tgt := 26) dX5_comeTo_84 (by decide) ?_
          exact ih _ _ _ _ _ _ hf
        · rw [if_pos c6] at hf
          refine jx_aload_n dX5_comeTo_65 rfl ?_
          refine jx_aload_n dX5_comeTo_66 rfl ?_
          refine jx_getr dX5_comeTo_67 fl_X5_31 kj_63 sr_63_3 ?_
          refine jx_iload dX5_comeTo_70 rfl ?_
          refine jx_cVi (a := 66) (As := [.int b4]) (rest := [.ref (E.2.2.2 + 63)]) dX5_comeTo_72 ml_X5_42 mv_X8_at (c_row_at (k := 0) kj_66 (by decide)) rfl rfl jc_66 (by decide) (Nat.le_of_ble_eq_true rfl) ?_
          refine jx_iload_n dX5_comeTo_75 rfl ?_
          refine jx_iload_n dX5_comeTo_76 rfl ?_
          refine jx_iload_n dX5_comeTo_77 rfl ?_
          obtain ⟨q8, hq8, hf⟩ := jbd_inv hf
          refine jx_cVv (a := 63) (As := [.int (rat (w5.2.2.2 66) b4), .int b1, .int b2, .int b3]) (rest := []) dX5_comeTo_78 ml_X5_82 mv_X5_comeBelow (s_X5_comeBelow hE hq8) rfl rfl jc_63 (by decide) (Nat.le_of_ble_eq_true rfl) ?_
          obtain ⟨x9, hx9, hf⟩ := jl_inv hf
          refine jx_iinc (v := x9) (ls' := [(0, .ref (E.2.2.2 + 63)), (1, .int b1), (2, .int b2), (3, .int b3), (4, .int x9)]) dX5_comeTo_81 rfl (by rw [hx9]; rfl) (by decide) rfl ?_
          refine jx_goto (tgt := 26) dX5_comeTo_84 (by decide) ?_
          exact ih _ _ _ _ _ _ hf
def f_X5_comeTo (a1 : Int32) (a2 : Int32) (a3 : Int32) (w : jw) : Option (jw) := jl (jsetR w 66 (rcut (w.2.2.2 66) 0)) fun w10 => jbd2 (f_X9_rootAt a3 w10) fun x12 w13 => jg (decide ((w13.2.2.2 66).length ≤ 4096)) (jl (jsetR w13 66 (w13.2.2.2 66 ++ [x12])) fun w14 => (l_X5_comeTo jfu a1 a2 a3 0 w14))
set_option maxRecDepth 20000 in
set_option maxHeartbeats 2000000 in
theorem s_X5_comeTo {E : jE} (hE : jfull E) {a1 : Int32} {a2 : Int32} {a3 : Int32} {w w' : jw} (hf : f_X5_comeTo a1 a2 a3 w = some w') : jC E m_X5_comeTo 4 [.ref (E.2.2.2 + 63), .int a1, .int a2, .int a3] w none w' := by
  refine jC_of (ls := [(0, .ref (E.2.2.2 + 63)), (1, .int a1), (2, .int a2), (3, .int a3)]) (by decide) rfl (fun _ => trivial) (Nat.le_of_ble_eq_true rfl) rfl rfl ?_
  unfold f_X5_comeTo at hf
  refine jx_aload_n dX5_comeTo_0 rfl ?_
  refine jx_getr dX5_comeTo_1 fl_X5_31 kj_63 sr_63_3 ?_
  refine jx_iconst (v := 0) dX5_comeTo_4 (by decide) ?_
  refine jx_cVv (a := 66) (As := [.int 0]) (rest := []) dX5_comeTo_5 ml_X5_69 mv_X8_shorten (c_row_shorten (k := 0) kj_66 (by decide)) rfl rfl jc_66 (by decide) (Nat.le_of_ble_eq_true rfl) ?_
  obtain ⟨w10, hw10, hf⟩ := jl_inv hf
  refine jx_nw hw10 ?_
  refine jx_aload_n dX5_comeTo_8 rfl ?_
  refine jx_getr dX5_comeTo_9 fl_X5_31 kj_63 sr_63_3 ?_
  refine jx_aload_n dX5_comeTo_12 rfl ?_
  refine jx_getr dX5_comeTo_13 fl_X5_9 kj_63 sr_63_0 ?_
  refine jx_iload_n dX5_comeTo_16 rfl ?_
  obtain ⟨x12, w13, hq11, hf⟩ := jbd2_inv hf
  refine jx_cVi (a := 17) (As := [.int a3]) (rest := [.ref (E.2.2.2 + 66)]) dX5_comeTo_17 ml_X5_72 mv_X9_rootAt (s_X9_rootAt hE hq11) rfl rfl jc_17 (by decide) (Nat.le_of_ble_eq_true rfl) ?_
  obtain ⟨c15, hf⟩ := jg_inv hf
  refine jx_cVv (a := 66) (As := [.int x12]) (rest := []) dX5_comeTo_20 ml_X5_75 mv_X8_add (c_row_add kj_66 (of_decide_eq_true c15) (Or.inl hE)) rfl rfl jc_66 (by decide) (Nat.le_of_ble_eq_true rfl) ?_
  obtain ⟨w14, hw14, hf⟩ := jl_inv hf
  refine jx_nw hw14 ?_
  refine jx_iconst (v := 0) dX5_comeTo_23 (by decide) ?_
  refine jx_istore (ls' := [(0, .ref (E.2.2.2 + 63)), (1, .int a1), (2, .int a2), (3, .int a3), (4, .int 0)]) dX5_comeTo_24 (by decide) rfl ?_
  exact sl_X5_comeTo hE jfu _ _ _ _ _ _ hf
def f_X5_pagesFor (a1 : Int32) (a2 : Int32) (a3 : Int32) (w : jw) : Option (Int32 × jw) := jbd (f_X5_comeTo a1 a2 a3 w) fun q1 => some (nI (q1.2.2.2 66).length, q1)
set_option maxRecDepth 20000 in
set_option maxHeartbeats 2000000 in
theorem s_X5_pagesFor {E : jE} (hE : jfull E) {a1 : Int32} {a2 : Int32} {a3 : Int32} {w w' : jw} {v : Int32} (hf : f_X5_pagesFor a1 a2 a3 w = some (v, w')) : jC E m_X5_pagesFor 5 [.ref (E.2.2.2 + 63), .int a1, .int a2, .int a3] w (some (.int v)) w' := by
  refine jC_of (ls := [(0, .ref (E.2.2.2 + 63)), (1, .int a1), (2, .int a2), (3, .int a3)]) (by decide) rfl (fun _ => trivial) (Nat.le_of_ble_eq_true rfl) rfl ⟨.int, rfl, rfl⟩ ?_
  unfold f_X5_pagesFor at hf
  refine jx_aload_n dX5_pagesFor_0 rfl ?_
  refine jx_iload_n dX5_pagesFor_1 rfl ?_
  refine jx_iload_n dX5_pagesFor_2 rfl ?_
  refine jx_iload_n dX5_pagesFor_3 rfl ?_
  obtain ⟨q1, hq1, hf⟩ := jbd_inv hf
  refine jx_cVv (a := 63) (As := [.int a1, .int a2, .int a3]) (rest := []) dX5_pagesFor_4 ml_X5_46 mv_X5_comeTo (s_X5_comeTo hE hq1) rfl rfl jc_63 (by decide) (Nat.le_of_ble_eq_true rfl) ?_
  refine jx_aload_n dX5_pagesFor_7 rfl ?_
  refine jx_getr dX5_pagesFor_8 fl_X5_31 kj_63 sr_63_3 ?_
  refine jx_getn dX5_pagesFor_11 fl_X5_38 kj_66 (by decide) ?_
  cases hf
  exact jx_iret dX5_pagesFor_14 rfl rfl
def l_X5_weakPages : Nat → Int32 → Int32 → Int32 → jw → Option (Int32 × jw)
  | 0, _, _, _, _ => none
  | n + 1, b1, b2, b3, w => (if (nI (w.2.2.2 66).length) ≤ b3 then some (b2, w) else jbd2 (f_X6_livingIn (rat (w.2.2.2 66) b3) b1 w) fun x3 w4 => jbd2 (f_X6_weak  w4) fun x6 w7 => (if x6 ≤ x3 then jl (b3 + 1) fun x9 => (l_X5_weakPages n b1 b2 x9 w7) else jl (b2 + 1) fun x10 => jl (b3 + 1) fun x11 => (l_X5_weakPages n b1 x10 x11 w7)))
set_option maxRecDepth 20000 in
set_option maxHeartbeats 2000000 in
theorem sl_X5_weakPages {E : jE} (hE : jfull E) : ∀ (n : Nat) (b1 : Int32) (b2 : Int32) (b3 : Int32) (w : jw) (v : Int32) (w' : jw), l_X5_weakPages n b1 b2 b3 w = some (v, w') → jX E m_X5_weakPages 5 13 [(0, .ref (E.2.2.2 + 63)), (1, .int b1), (2, .int b2), (3, .int b3)] [] w (some (.int v)) w' := by
  intro n
  induction n with
  | zero => intro b1 b2 b3 w v w' hf; cases hf
  | succ n ih =>
    intro b1 b2 b3 w v w' hf
    unfold l_X5_weakPages at hf
    refine jx_iload_n dX5_weakPages_13 rfl ?_
    refine jx_aload_n dX5_weakPages_14 rfl ?_
    refine jx_getr dX5_weakPages_15 fl_X5_31 kj_63 sr_63_3 ?_
    refine jx_getn dX5_weakPages_18 fl_X5_38 kj_66 (by decide) ?_
    refine jx_icmp_ge (tgt := 59) dX5_weakPages_21 (by decide) (fun c1 => ?_) (fun c1 => ?_)
    · rw [if_pos c1] at hf
      refine jx_iload_n dX5_weakPages_59 rfl ?_
      cases hf
      exact jx_iret dX5_weakPages_60 rfl rfl
    · rw [if_neg c1] at hf
      refine jx_aload_n dX5_weakPages_24 rfl ?_
      refine jx_getr dX5_weakPages_25 fl_X5_21 kj_63 sr_63_1 ?_
      refine jx_aload_n dX5_weakPages_28 rfl ?_
      refine jx_getr dX5_weakPages_29 fl_X5_31 kj_63 sr_63_3 ?_
      refine jx_iload_n dX5_weakPages_32 rfl ?_
      refine jx_cVi (a := 66) (As := [.int b3]) (rest := [.ref (E.2.2.2 + 18)]) dX5_weakPages_33 ml_X5_42 mv_X8_at (c_row_at (k := 0) kj_66 (by decide)) rfl rfl jc_66 (by decide) (Nat.le_of_ble_eq_true rfl) ?_
      refine jx_iload_n dX5_weakPages_36 rfl ?_
      obtain ⟨x3, w4, hq2, hf⟩ := jbd2_inv hf
      refine jx_cVi (a := 18) (As := [.int (rat (w.2.2.2 66) b3), .int b1]) (rest := []) dX5_weakPages_37 ml_X5_50 mv_X6_livingIn (s_X6_livingIn hE hq2) rfl rfl jc_18 (by decide) (Nat.le_of_ble_eq_true rfl) ?_
      refine jx_aload_n dX5_weakPages_40 rfl ?_
      refine jx_getr dX5_weakPages_41 fl_X5_21 kj_63 sr_63_1 ?_
      obtain ⟨x6, w7, hq5, hf⟩ := jbd2_inv hf
      refine jx_cVi (a := 18) (As := []) (rest := [.int x3]) dX5_weakPages_44 ml_X5_56 mv_X6_weak (s_X6_weak hE hq5) rfl rfl jc_18 (by decide) (Nat.le_of_ble_eq_true rfl) ?_
      refine jx_icmp_ge (tgt := 53) dX5_weakPages_47 (by decide) (fun c8 => ?_) (fun c8 => ?_)
      · rw [if_pos c8] at hf
        obtain ⟨x9, hx9, hf⟩ := jl_inv hf
        refine jx_iinc (v := x9) (ls' := [(0, .ref (E.2.2.2 + 63)), (1, .int b1), (2, .int b2), (3, .int x9)]) dX5_weakPages_53 rfl (by rw [hx9]; rfl) (by decide) rfl ?_
        refine jx_goto (tgt := 13) dX5_weakPages_56 (by decide) ?_
        exact ih _ _ _ _ _ _ hf
      · rw [if_neg c8] at hf
        obtain ⟨x10, hx10, hf⟩ := jl_inv hf
        refine jx_iinc (v := x10) (ls' := [(0, .ref (E.2.2.2 + 63)), (1, .int b1), (2, .int x10), (3, .int b3)]) dX5_weakPages_50 rfl (by rw [hx10]; rfl) (by decide) rfl ?_
        obtain ⟨x11, hx11, hf⟩ := jl_inv hf
        refine jx_iinc (v := x11) (ls' := [(0, .ref (E.2.2.2 + 63)), (1, .int b1), (2, .int x10), (3, .int x11)]) dX5_weakPages_53 rfl (by rw [hx11]; rfl) (by decide) rfl ?_
        refine jx_goto (tgt := 13) dX5_weakPages_56 (by decide) ?_
        exact ih _ _ _ _ _ _ hf
def f_X5_weakPages (a1 : Int32) (w : jw) : Option (Int32 × jw) := jbd (f_X5_comeTo 0 999 a1 w) fun q12 => (l_X5_weakPages jfu a1 0 1 q12)
set_option maxRecDepth 20000 in
set_option maxHeartbeats 2000000 in
theorem s_X5_weakPages {E : jE} (hE : jfull E) {a1 : Int32} {w w' : jw} {v : Int32} (hf : f_X5_weakPages a1 w = some (v, w')) : jC E m_X5_weakPages 5 [.ref (E.2.2.2 + 63), .int a1] w (some (.int v)) w' := by
  refine jC_of (ls := [(0, .ref (E.2.2.2 + 63)), (1, .int a1)]) (by decide) rfl (fun _ => trivial) (Nat.le_of_ble_eq_true rfl) rfl ⟨.int, rfl, rfl⟩ ?_
  unfold f_X5_weakPages at hf
  refine jx_aload_n dX5_weakPages_0 rfl ?_
  refine jx_iconst (v := 0) dX5_weakPages_1 (by decide) ?_
  refine jx_sipush (v := 999) dX5_weakPages_2 (by decide) ?_
  refine jx_iload_n dX5_weakPages_5 rfl ?_
  obtain ⟨q12, hq12, hf⟩ := jbd_inv hf
  refine jx_cVv (a := 63) (As := [.int 0, .int 999, .int a1]) (rest := []) dX5_weakPages_6 ml_X5_46 mv_X5_comeTo (s_X5_comeTo hE hq12) rfl rfl jc_63 (by decide) (Nat.le_of_ble_eq_true rfl) ?_
  refine jx_iconst (v := 0) dX5_weakPages_9 (by decide) ?_
  refine jx_istore_n (ls' := [(0, .ref (E.2.2.2 + 63)), (1, .int a1), (2, .int 0)]) dX5_weakPages_10 (by decide) rfl ?_
  refine jx_iconst (v := 1) dX5_weakPages_11 (by decide) ?_
  refine jx_istore_n (ls' := [(0, .ref (E.2.2.2 + 63)), (1, .int a1), (2, .int 0), (3, .int 1)]) dX5_weakPages_12 (by decide) rfl ?_
  exact sl_X5_weakPages hE jfu _ _ _ _ _ _ hf
def l_X5_heldAt : Nat → Int32 → Int32 → Int32 → Int32 → Int32 → Int32 → jw → Option (Int32 × jw)
  | 0, _, _, _, _, _, _, _ => none
  | n + 1, b1, b2, b3, b4, b5, b6, w => (if (nI (w.2.2.2 66).length) ≤ b6 then (if b2.toInt = 0 then some (b3, w) else (if b2.toInt = 1 then some ((nI (w.2.2.2 66).length) - b3, w) else (if b2.toInt = 2 then some (b4, w) else (if b2.toInt = 3 then some (b5, w) else some ((-1), w))))) else jl (rat (w.2.2.2 66) b6 : Int32) fun x6 => jl (b3 + (rat (w.2.2.2 19) x6) : Int32) fun x7 => jbd2 (f_X6_livingIn x6 b1 w) fun x9 w10 => jl (b4 + x9 : Int32) fun x11 => jl (b5 + ((w10.1 18 8) - (rat (w10.2.2.2 21) x6)) : Int32) fun x12 => jl (b6 + 1) fun x13 => (l_X5_heldAt n b1 b2 x7 x11 x12 x13 w10))
set_option maxRecDepth 20000 in
set_option maxHeartbeats 2000000 in
theorem sl_X5_heldAt {E : jE} (hE : jfull E) : ∀ (n : Nat) (b1 : Int32) (b2 : Int32) (b3 : Int32) (b4 : Int32) (b5 : Int32) (b6 : Int32) (w : jw) (v : Int32) (w' : jw), l_X5_heldAt n b1 b2 b3 b4 b5 b6 w = some (v, w') → jX E m_X5_heldAt 5 20 [(0, .ref (E.2.2.2 + 63)), (1, .int b1), (2, .int b2), (3, .int b3), (4, .int b4), (5, .int b5), (6, .int b6)] [] w (some (.int v)) w' := by
  intro n
  induction n with
  | zero => intro b1 b2 b3 b4 b5 b6 w v w' hf; cases hf
  | succ n ih =>
    intro b1 b2 b3 b4 b5 b6 w v w' hf
    unfold l_X5_heldAt at hf
    refine jx_iload dX5_heldAt_20 rfl ?_
    refine jx_aload_n dX5_heldAt_22 rfl ?_
    refine jx_getr dX5_heldAt_23 fl_X5_31 kj_63 sr_63_3 ?_
    refine jx_getn dX5_heldAt_26 fl_X5_38 kj_66 (by decide) ?_
    refine jx_icmp_ge (tgt := 104) dX5_heldAt_29 (by decide) (fun c1 => ?_) (fun c1 => ?_)
    · rw [if_pos c1] at hf
      refine jx_iload_n dX5_heldAt_104 rfl ?_
      by_cases c2 : b2.toInt = 0
      · rw [if_pos c2] at hf
        refine jx_tableIn (off := 31) (tgt := 136) dX5_heldAt_105 (by omega) (by omega) (by rw [c2]; rfl) (by decide) ?_
        refine jx_iload_n dX5_heldAt_136 rfl ?_
        cases hf
        exact jx_iret dX5_heldAt_137 rfl rfl
      rw [if_neg c2] at hf
      by_cases c3 : b2.toInt = 1
      · rw [if_pos c3] at hf
        refine jx_tableIn (off := 33) (tgt := 138) dX5_heldAt_105 (by omega) (by omega) (by rw [c3]; rfl) (by decide) ?_
        refine jx_aload_n dX5_heldAt_138 rfl ?_
        refine jx_getr dX5_heldAt_139 fl_X5_31 kj_63 sr_63_3 ?_
        refine jx_getn dX5_heldAt_142 fl_X5_38 kj_66 (by decide) ?_
        refine jx_iload_n dX5_heldAt_145 rfl ?_
        refine jx_isub dX5_heldAt_146 ?_
        cases hf
        exact jx_iret dX5_heldAt_147 rfl rfl
      rw [if_neg c3] at hf
      by_cases c4 : b2.toInt = 2
      · rw [if_pos c4] at hf
        refine jx_tableIn (off := 43) (tgt := 148) dX5_heldAt_105 (by omega) (by omega) (by rw [c4]; rfl) (by decide) ?_
        refine jx_iload dX5_heldAt_148 rfl ?_
        cases hf
        exact jx_iret dX5_heldAt_150 rfl rfl
      rw [if_neg c4] at hf
      by_cases c5 : b2.toInt = 3
      · rw [if_pos c5] at hf
        refine jx_tableIn (off := 46) (tgt := 151) dX5_heldAt_105 (by omega) (by omega) (by rw [c5]; rfl) (by decide) ?_
        refine jx_iload dX5_heldAt_151 rfl ?_
        cases hf
        exact jx_iret dX5_heldAt_153 rfl rfl
      rw [if_neg c5] at hf
      refine jx_tableOut (tgt := 154) dX5_heldAt_105 (by omega) (by decide) ?_
      refine jx_iconst (v := (-1)) dX5_heldAt_154 (by decide) ?_
      cases hf
      exact jx_iret dX5_heldAt_155 rfl rfl
    · rw [if_neg c1] at hf
      refine jx_aload_n dX5_heldAt_32 rfl ?_
      refine jx_getr dX5_heldAt_33 fl_X5_31 kj_63 sr_63_3 ?_
      refine jx_iload dX5_heldAt_36 rfl ?_
      refine jx_cVi (a := 66) (As := [.int b6]) (rest := []) dX5_heldAt_38 ml_X5_42 mv_X8_at (c_row_at (k := 0) kj_66 (by decide)) rfl rfl jc_66 (by decide) (Nat.le_of_ble_eq_true rfl) ?_
      obtain ⟨x6, hx6, hf⟩ := jl_inv hf
      refine jx_nm hx6 ?_
      refine jx_istore (ls' := [(0, .ref (E.2.2.2 + 63)), (1, .int b1), (2, .int b2), (3, .int b3), (4, .int b4), (5, .int b5), (6, .int b6), (7, .int x6)]) dX5_heldAt_41 (by decide) rfl ?_
      refine jx_iload_n dX5_heldAt_43 rfl ?_
      refine jx_aload_n dX5_heldAt_44 rfl ?_
      refine jx_getr dX5_heldAt_45 fl_X5_21 kj_63 sr_63_1 ?_
      refine jx_getr dX5_heldAt_48 fl_X5_60 kj_18 sr_18_0 ?_
      refine jx_iload dX5_heldAt_51 rfl ?_
      refine jx_cVi (a := 19) (As := [.int x6]) (rest := [.int b3]) dX5_heldAt_53 ml_X5_42 mv_X8_at (c_row_at (k := 0) kj_19 (by decide)) rfl rfl jc_19 (by decide) (Nat.le_of_ble_eq_true rfl) ?_
      refine jx_iadd dX5_heldAt_56 ?_
      obtain ⟨x7, hx7, hf⟩ := jl_inv hf
      refine jx_nm hx7 ?_
      refine jx_istore_n (ls' := [(0, .ref (E.2.2.2 + 63)), (1, .int b1), (2, .int b2), (3, .int x7), (4, .int b4), (5, .int b5), (6, .int b6), (7, .int x6)]) dX5_heldAt_57 (by decide) rfl ?_
      refine jx_iload dX5_heldAt_58 rfl ?_
      refine jx_aload_n dX5_heldAt_60 rfl ?_
      refine jx_getr dX5_heldAt_61 fl_X5_21 kj_63 sr_63_1 ?_
      refine jx_iload dX5_heldAt_64 rfl ?_
      refine jx_iload_n dX5_heldAt_66 rfl ?_
      obtain ⟨x9, w10, hq8, hf⟩ := jbd2_inv hf
      refine jx_cVi (a := 18) (As := [.int x6, .int b1]) (rest := [.int b4]) dX5_heldAt_67 ml_X5_50 mv_X6_livingIn (s_X6_livingIn hE hq8) rfl rfl jc_18 (by decide) (Nat.le_of_ble_eq_true rfl) ?_
      refine jx_iadd dX5_heldAt_70 ?_
      obtain ⟨x11, hx11, hf⟩ := jl_inv hf
      refine jx_nm hx11 ?_
      refine jx_istore (ls' := [(0, .ref (E.2.2.2 + 63)), (1, .int b1), (2, .int b2), (3, .int x7), (4, .int x11), (5, .int b5), (6, .int b6), (7, .int x6)]) dX5_heldAt_71 (by decide) rfl ?_
      refine jx_iload dX5_heldAt_73 rfl ?_
      refine jx_aload_n dX5_heldAt_75 rfl ?_
      refine jx_getr dX5_heldAt_76 fl_X5_21 kj_63 sr_63_1 ?_
      refine jx_geti dX5_heldAt_79 fl_X5_63 kj_18 sr_18_8 ?_
      refine jx_aload_n dX5_heldAt_82 rfl ?_
      refine jx_getr dX5_heldAt_83 fl_X5_21 kj_63 sr_63_1 ?_
      refine jx_getr dX5_heldAt_86 fl_X5_66 kj_18 sr_18_1 ?_
      refine jx_iload dX5_heldAt_89 rfl ?_
      refine jx_cVi (a := 21) (As := [.int x6]) (rest := [.int (w10.1 18 8), .int b5]) dX5_heldAt_91 ml_X5_42 mv_X8_at (c_row_at (k := 0) kj_21 (by decide)) rfl rfl jc_21 (by decide) (Nat.le_of_ble_eq_true rfl) ?_
      refine jx_isub dX5_heldAt_94 ?_
      refine jx_iadd dX5_heldAt_95 ?_
      obtain ⟨x12, hx12, hf⟩ := jl_inv hf
      refine jx_nm hx12 ?_
      refine jx_istore (ls' := [(0, .ref (E.2.2.2 + 63)), (1, .int b1), (2, .int b2), (3, .int x7), (4, .int x11), (5, .int x12), (6, .int b6), (7, .int x6)]) dX5_heldAt_96 (by decide) rfl ?_
      obtain ⟨x13, hx13, hf⟩ := jl_inv hf
      refine jx_iinc (v := x13) (ls' := [(0, .ref (E.2.2.2 + 63)), (1, .int b1), (2, .int b2), (3, .int x7), (4, .int x11), (5, .int x12), (6, .int x13), (7, .int x6)]) dX5_heldAt_98 rfl (by rw [hx13]; rfl) (by decide) rfl ?_
      refine jx_goto (tgt := 20) dX5_heldAt_101 (by decide) ?_
      refine jx_pick [0, 1, 2, 3, 4, 5, 6] rfl ?_
      exact ih _ _ _ _ _ _ _ _ _ hf
def f_X5_heldAt (a1 : Int32) (a2 : Int32) (w : jw) : Option (Int32 × jw) := jbd (f_X5_comeTo 0 999 a1 w) fun q14 => (l_X5_heldAt jfu a1 a2 0 0 0 0 q14)
set_option maxRecDepth 20000 in
set_option maxHeartbeats 2000000 in
theorem s_X5_heldAt {E : jE} (hE : jfull E) {a1 : Int32} {a2 : Int32} {w w' : jw} {v : Int32} (hf : f_X5_heldAt a1 a2 w = some (v, w')) : jC E m_X5_heldAt 5 [.ref (E.2.2.2 + 63), .int a1, .int a2] w (some (.int v)) w' := by
  refine jC_of (ls := [(0, .ref (E.2.2.2 + 63)), (1, .int a1), (2, .int a2)]) (by decide) rfl (fun _ => trivial) (Nat.le_of_ble_eq_true rfl) rfl ⟨.int, rfl, rfl⟩ ?_
  unfold f_X5_heldAt at hf
  refine jx_aload_n dX5_heldAt_0 rfl ?_
  refine jx_iconst (v := 0) dX5_heldAt_1 (by decide) ?_
  refine jx_sipush (v := 999) dX5_heldAt_2 (by decide) ?_
  refine jx_iload_n dX5_heldAt_5 rfl ?_
  obtain ⟨q14, hq14, hf⟩ := jbd_inv hf
  refine jx_cVv (a := 63) (As := [.int 0, .int 999, .int a1]) (rest := []) dX5_heldAt_6 ml_X5_46 mv_X5_comeTo (s_X5_comeTo hE hq14) rfl rfl jc_63 (by decide) (Nat.le_of_ble_eq_true rfl) ?_
  refine jx_iconst (v := 0) dX5_heldAt_9 (by decide) ?_
  refine jx_istore_n (ls' := [(0, .ref (E.2.2.2 + 63)), (1, .int a1), (2, .int a2), (3, .int 0)]) dX5_heldAt_10 (by decide) rfl ?_
  refine jx_iconst (v := 0) dX5_heldAt_11 (by decide) ?_
  refine jx_istore (ls' := [(0, .ref (E.2.2.2 + 63)), (1, .int a1), (2, .int a2), (3, .int 0), (4, .int 0)]) dX5_heldAt_12 (by decide) rfl ?_
  refine jx_iconst (v := 0) dX5_heldAt_14 (by decide) ?_
  refine jx_istore (ls' := [(0, .ref (E.2.2.2 + 63)), (1, .int a1), (2, .int a2), (3, .int 0), (4, .int 0), (5, .int 0)]) dX5_heldAt_15 (by decide) rfl ?_
  refine jx_iconst (v := 0) dX5_heldAt_17 (by decide) ?_
  refine jx_istore (ls' := [(0, .ref (E.2.2.2 + 63)), (1, .int a1), (2, .int a2), (3, .int 0), (4, .int 0), (5, .int 0), (6, .int 0)]) dX5_heldAt_18 (by decide) rfl ?_
  exact sl_X5_heldAt hE jfu _ _ _ _ _ _ _ _ _ hf
def l_X6_copies : Nat → Nat → Int32 → Int32 → Int32 → Int32 → jw → Option (Int32 × jw)
  | 0, _, _, _, _, _, _ => none
  | n + 1, t, b1, b2, b3, b4, w => (if t = 0 then (if (nI (w.2.2.2 19).length) ≤ b2 then some (b1, w) else jbd2 (f_X6_isLeaf b2 w) fun x3 w4 => (if (jb x3) = 0 then jbd2 (f_X6_firstSlot b2 w4) fun x7 w8 => (l_X6_copies n 1 b1 b2 0 x7 w8) else jbd2 (f_X6_endSlot b2 w4) fun x10 w11 => jbd2 (f_X6_firstSlot b2 w11) fun x13 w14 => (l_X6_copies n 1 b1 b2 x10 x13 w14))) else (if b3 ≤ b4 then jl (b2 + 1) fun x16 => (l_X6_copies n 0 b1 x16 0 0 w) else (if (rat (w.2.2.2 23) b2) ≤ (rat (w.2.2.2 31) b4) then jl (b4 + 1) fun x18 => (l_X6_copies n 1 b1 b2 b3 x18 w) else jl (b1 + 1) fun x19 => jl (b4 + 1) fun x20 => (l_X6_copies n 1 x19 b2 b3 x20 w))))
set_option maxRecDepth 20000 in
set_option maxHeartbeats 2000000 in
theorem sl_X6_copies {E : jE} (hE : jfull E) : ∀ (n : Nat), (∀ (b1 : Int32) (b2 : Int32) (b3 : Int32) (b4 : Int32) (w : jw) (v : Int32) (w' : jw), l_X6_copies n 0 b1 b2 b3 b4 w = some (v, w') → jX E m_X6_copies 2 4 [(0, .ref (E.2.2.2 + 18)), (1, .int b1), (2, .int b2)] [] w (some (.int v)) w') ∧ (∀ (b1 : Int32) (b2 : Int32) (b3 : Int32) (b4 : Int32) (w : jw) (v : Int32) (w' : jw), l_X6_copies n 1 b1 b2 b3 b4 w = some (v, w') → jX E m_X6_copies 2 40 [(0, .ref (E.2.2.2 + 18)), (1, .int b1), (2, .int b2), (3, .int b3), (4, .int b4)] [] w (some (.int v)) w') := by
  intro n
  induction n with
  | zero => refine ⟨?_, ?_⟩ <;> (intros; rename_i hf; cases hf)
  | succ n ih =>
    refine ⟨?_, ?_⟩
    · intro b1 b2 b3 b4 w v w' hf
      unfold l_X6_copies at hf
      rw [if_pos (by decide)] at hf
      refine jx_iload_n dX6_copies_4 rfl ?_
      refine jx_aload_n dX6_copies_5 rfl ?_
      refine jx_getr dX6_copies_6 fl_X6_14 kj_18 sr_18_0 ?_
      refine jx_getn dX6_copies_9 fl_X6_52 kj_19 (by decide) ?_
      refine jx_icmp_ge (tgt := 81) dX6_copies_12 (by decide) (fun c1 => ?_) (fun c1 => ?_)
      · rw [if_pos c1] at hf
        refine jx_iload_n dX6_copies_81 rfl ?_
        cases hf
        exact jx_iret dX6_copies_82 rfl rfl
      · rw [if_neg c1] at hf
        refine jx_aload_n dX6_copies_15 rfl ?_
        refine jx_iload_n dX6_copies_16 rfl ?_
        obtain ⟨x3, w4, hq2, hf⟩ := jbd2_inv hf
        refine jx_cVi (a := 18) (As := [.int b2]) (rest := []) dX6_copies_17 ml_X6_76 mv_X6_isLeaf (s_X6_isLeaf hE hq2) rfl rfl jc_18 (by decide) (Nat.le_of_ble_eq_true rfl) ?_
        refine jx_if_eq (tgt := 31) dX6_copies_20 (by decide) (fun c5 => ?_) (fun c5 => ?_)
        · rw [if_pos c5] at hf
          refine jx_iconst (v := 0) dX6_copies_31 (by decide) ?_
          refine jx_istore_n (ls' := [(0, .ref (E.2.2.2 + 18)), (1, .int b1), (2, .int b2), (3, .int 0)]) dX6_copies_32 (by decide) rfl ?_
          refine jx_aload_n dX6_copies_33 rfl ?_
          refine jx_iload_n dX6_copies_34 rfl ?_
          obtain ⟨x7, w8, hq6, hf⟩ := jbd2_inv hf
          refine jx_cVi (a := 18) (As := [.int b2]) (rest := []) dX6_copies_35 ml_X6_69 mv_X6_firstSlot (s_X6_firstSlot hE hq6) rfl rfl jc_18 (by decide) (Nat.le_of_ble_eq_true rfl) ?_
          refine jx_istore (ls' := [(0, .ref (E.2.2.2 + 18)), (1, .int b1), (2, .int b2), (3, .int 0), (4, .int x7)]) dX6_copies_38 (by decide) rfl ?_
          exact ih.2 _ _ _ _ _ _ _ hf
        · rw [if_neg c5] at hf
          refine jx_aload_n dX6_copies_23 rfl ?_
          refine jx_iload_n dX6_copies_24 rfl ?_
          obtain ⟨x10, w11, hq9, hf⟩ := jbd2_inv hf
          refine jx_cVi (a := 18) (As := [.int b2]) (rest := []) dX6_copies_25 ml_X6_66 mv_X6_endSlot (s_X6_endSlot hE hq9) rfl rfl jc_18 (by decide) (Nat.le_of_ble_eq_true rfl) ?_
          refine jx_goto (tgt := 32) dX6_copies_28 (by decide) ?_
          refine jx_istore_n (ls' := [(0, .ref (E.2.2.2 + 18)), (1, .int b1), (2, .int b2), (3, .int x10)]) dX6_copies_32 (by decide) rfl ?_
          refine jx_aload_n dX6_copies_33 rfl ?_
          refine jx_iload_n dX6_copies_34 rfl ?_
          obtain ⟨x13, w14, hq12, hf⟩ := jbd2_inv hf
          refine jx_cVi (a := 18) (As := [.int b2]) (rest := []) dX6_copies_35 ml_X6_69 mv_X6_firstSlot (s_X6_firstSlot hE hq12) rfl rfl jc_18 (by decide) (Nat.le_of_ble_eq_true rfl) ?_
          refine jx_istore (ls' := [(0, .ref (E.2.2.2 + 18)), (1, .int b1), (2, .int b2), (3, .int x10), (4, .int x13)]) dX6_copies_38 (by decide) rfl ?_
          exact ih.2 _ _ _ _ _ _ _ hf
    · intro b1 b2 b3 b4 w v w' hf
      unfold l_X6_copies at hf
      rw [if_neg (by decide)] at hf
      refine jx_iload dX6_copies_40 rfl ?_
      refine jx_iload_n dX6_copies_42 rfl ?_
      refine jx_icmp_ge (tgt := 75) dX6_copies_43 (by decide) (fun c15 => ?_) (fun c15 => ?_)
      · rw [if_pos c15] at hf
        obtain ⟨x16, hx16, hf⟩ := jl_inv hf
        refine jx_iinc (v := x16) (ls' := [(0, .ref (E.2.2.2 + 18)), (1, .int b1), (2, .int x16), (3, .int b3), (4, .int b4)]) dX6_copies_75 rfl (by rw [hx16]; rfl) (by decide) rfl ?_
        refine jx_goto (tgt := 4) dX6_copies_78 (by decide) ?_
        refine jx_pick [0, 1, 2] rfl ?_
        exact ih.1 _ _ _ _ _ _ _ hf
      · rw [if_neg c15] at hf
        refine jx_aload_n dX6_copies_46 rfl ?_
        refine jx_getr dX6_copies_47 fl_X6_35 kj_18 sr_18_6 ?_
        refine jx_iload dX6_copies_50 rfl ?_
        refine jx_cVi (a := 31) (As := [.int b4]) (rest := []) dX6_copies_52 ml_X6_55 mv_X8_at (c_row_at (k := 0) kj_31 (by decide)) rfl rfl jc_31 (by decide) (Nat.le_of_ble_eq_true rfl) ?_
        refine jx_aload_n dX6_copies_55 rfl ?_
        refine jx_getr dX6_copies_56 fl_X6_23 kj_18 sr_18_2 ?_
        refine jx_iload_n dX6_copies_59 rfl ?_
        refine jx_cVi (a := 23) (As := [.int b2]) (rest := [.int (rat (w.2.2.2 31) b4)]) dX6_copies_60 ml_X6_55 mv_X8_at (c_row_at (k := 0) kj_23 (by decide)) rfl rfl jc_23 (by decide) (Nat.le_of_ble_eq_true rfl) ?_
        refine jx_icmp_ge (tgt := 69) dX6_copies_63 (by decide) (fun c17 => ?_) (fun c17 => ?_)
        · rw [if_pos c17] at hf
          obtain ⟨x18, hx18, hf⟩ := jl_inv hf
          refine jx_iinc (v := x18) (ls' := [(0, .ref (E.2.2.2 + 18)), (1, .int b1), (2, .int b2), (3, .int b3), (4, .int x18)]) dX6_copies_69 rfl (by rw [hx18]; rfl) (by decide) rfl ?_
          refine jx_goto (tgt := 40) dX6_copies_72 (by decide) ?_
          exact ih.2 _ _ _ _ _ _ _ hf
        · rw [if_neg c17] at hf
          obtain ⟨x19, hx19, hf⟩ := jl_inv hf
          refine jx_iinc (v := x19) (ls' := [(0, .ref (E.2.2.2 + 18)), (1, .int x19), (2, .int b2), (3, .int b3), (4, .int b4)]) dX6_copies_66 rfl (by rw [hx19]; rfl) (by decide) rfl ?_
          obtain ⟨x20, hx20, hf⟩ := jl_inv hf
          refine jx_iinc (v := x20) (ls' := [(0, .ref (E.2.2.2 + 18)), (1, .int x19), (2, .int b2), (3, .int b3), (4, .int x20)]) dX6_copies_69 rfl (by rw [hx20]; rfl) (by decide) rfl ?_
          refine jx_goto (tgt := 40) dX6_copies_72 (by decide) ?_
          exact ih.2 _ _ _ _ _ _ _ hf
def f_X6_copies  (w : jw) : Option (Int32 × jw) := (l_X6_copies jfu 0 0 0 0 0 w)
set_option maxRecDepth 20000 in
set_option maxHeartbeats 2000000 in
theorem s_X6_copies {E : jE} (hE : jfull E)  {w w' : jw} {v : Int32} (hf : f_X6_copies  w = some (v, w')) : jC E m_X6_copies 2 [.ref (E.2.2.2 + 18)] w (some (.int v)) w' := by
  refine jC_of (ls := [(0, .ref (E.2.2.2 + 18))]) (by decide) rfl (fun _ => trivial) (Nat.le_of_ble_eq_true rfl) rfl ⟨.int, rfl, rfl⟩ ?_
  unfold f_X6_copies at hf
  refine jx_iconst (v := 0) dX6_copies_0 (by decide) ?_
  refine jx_istore_n (ls' := [(0, .ref (E.2.2.2 + 18)), (1, .int 0)]) dX6_copies_1 (by decide) rfl ?_
  refine jx_iconst (v := 0) dX6_copies_2 (by decide) ?_
  refine jx_istore_n (ls' := [(0, .ref (E.2.2.2 + 18)), (1, .int 0), (2, .int 0)]) dX6_copies_3 (by decide) rfl ?_
  exact (sl_X6_copies hE jfu).1 _ _ _ _ _ _ _ hf
def f_X7_ahead  (w : jw) : Option (Int32 × jw) := some (rat (w.2.2.2 4) (w.1 10 4), w)
set_option maxRecDepth 20000 in
set_option maxHeartbeats 2000000 in
theorem s_X7_ahead {E : jE} (hE : jfull E)  {w w' : jw} {v : Int32} (hf : f_X7_ahead  w = some (v, w')) : jC E m_X7_ahead 1 [.ref (E.2.2.2 + 10)] w (some (.int v)) w' := by
  refine jC_of (ls := [(0, .ref (E.2.2.2 + 10))]) (by decide) rfl (fun _ => trivial) (Nat.le_of_ble_eq_true rfl) rfl ⟨.int, rfl, rfl⟩ ?_
  unfold f_X7_ahead at hf
  refine jx_aload_n dX7_ahead_0 rfl ?_
  refine jx_getr dX7_ahead_1 fl_X7_9 kj_10 sr_10_0 ?_
  refine jx_getr dX7_ahead_4 fl_X7_49 kj_3 sr_3_1 ?_
  refine jx_aload_n dX7_ahead_7 rfl ?_
  refine jx_geti dX7_ahead_8 fl_X7_30 kj_10 sr_10_4 ?_
  refine jx_cVi (a := 4) (As := [.int (w.1 10 4)]) (rest := []) dX7_ahead_11 ml_X7_74 mv_X8_at (c_row_at (k := 0) kj_4 (by decide)) rfl rfl jc_4 (by decide) (Nat.le_of_ble_eq_true rfl) ?_
  cases hf
  exact jx_iret dX7_ahead_14 rfl rfl
def f_X7_atEnd  (w : jw) : Option (Bool × jw) := jbd2 (f_X7_ahead  w) fun x2 w3 => (if x2 = 0 then (if (nI (w3.2.2.2 11).length) = 0 then some (true, w3) else some (false, w3)) else some (false, w3))
set_option maxRecDepth 20000 in
set_option maxHeartbeats 2000000 in
theorem s_X7_atEnd {E : jE} (hE : jfull E)  {w w' : jw} {v : Bool} (hf : f_X7_atEnd  w = some (v, w')) : jC E m_X7_atEnd 2 [.ref (E.2.2.2 + 10)] w (some (.int (jb v))) w' := by
  refine jC_of (ls := [(0, .ref (E.2.2.2 + 10))]) (by decide) rfl (fun _ => trivial) (Nat.le_of_ble_eq_true rfl) rfl jb_ans ?_
  unfold f_X7_atEnd at hf
  refine jx_aload_n dX7_atEnd_0 rfl ?_
  obtain ⟨x2, w3, hq1, hf⟩ := jbd2_inv hf
  refine jx_cVi (a := 10) (As := []) (rest := []) dX7_atEnd_1 ml_X7_77 mv_X7_ahead (s_X7_ahead hE hq1) rfl rfl jc_10 (by decide) (Nat.le_of_ble_eq_true rfl) ?_
  refine jx_if_ne (tgt := 21) dX7_atEnd_4 (by decide) (fun c4 => ?_) (fun c4 => ?_)
  · rw [if_neg c4] at hf
    refine jx_iconst (v := 0) dX7_atEnd_21 (by decide) ?_
    cases hf
    exact jx_iret dX7_atEnd_22 rfl rfl
  · rw [if_pos c4] at hf
    refine jx_aload_n dX7_atEnd_7 rfl ?_
    refine jx_getr dX7_atEnd_8 fl_X7_20 kj_10 sr_10_1 ?_
    refine jx_getn dX7_atEnd_11 fl_X7_54 kj_11 (by decide) ?_
    refine jx_if_ne (tgt := 21) dX7_atEnd_14 (by decide) (fun c5 => ?_) (fun c5 => ?_)
    · rw [if_neg c5] at hf
      refine jx_iconst (v := 0) dX7_atEnd_21 (by decide) ?_
      cases hf
      exact jx_iret dX7_atEnd_22 rfl rfl
    · rw [if_pos c5] at hf
      refine jx_iconst (v := 1) dX7_atEnd_17 (by decide) ?_
      refine jx_goto (tgt := 22) dX7_atEnd_18 (by decide) ?_
      cases hf
      exact jx_iret dX7_atEnd_22 rfl rfl
def f_X7_fail (a1 : Int32) (w : jw) : Option (jw) := (if (w.1 10 6) = 0 then jl (jsetI w 10 6 a1) fun w2 => some w2 else some w)
set_option maxRecDepth 20000 in
set_option maxHeartbeats 2000000 in
theorem s_X7_fail {E : jE} (hE : jfull E) {a1 : Int32} {w w' : jw} (hf : f_X7_fail a1 w = some w') : jC E m_X7_fail 0 [.ref (E.2.2.2 + 10), .int a1] w none w' := by
  refine jC_of (ls := [(0, .ref (E.2.2.2 + 10)), (1, .int a1)]) (by decide) rfl (fun _ => trivial) (Nat.le_of_ble_eq_true rfl) rfl rfl ?_
  unfold f_X7_fail at hf
  refine jx_aload_n dX7_fail_0 rfl ?_
  refine jx_geti dX7_fail_1 fl_X7_34 kj_10 sr_10_6 ?_
  refine jx_if_ne (tgt := 12) dX7_fail_4 (by decide) (fun c1 => ?_) (fun c1 => ?_)
  · rw [if_neg c1] at hf
    cases hf
    exact jx_vret dX7_fail_12 rfl rfl
  · rw [if_pos c1] at hf
    refine jx_aload_n dX7_fail_7 rfl ?_
    refine jx_iload_n dX7_fail_8 rfl ?_
    refine jx_puti dX7_fail_9 fp_X7_34 kj_10 sr_10_6 rfl rfl ?_
    obtain ⟨w2, hw2, hf⟩ := jl_inv hf
    refine jx_nw hw2 ?_
    cases hf
    exact jx_vret dX7_fail_12 rfl rfl
def f_X7_take  (w : jw) : Option (jw) := (if (w.1 10 4) < 400 then (if (w.1 10 6) = 0 then jl (jsetI w 10 4 ((w.1 10 4) + 1)) fun w3 => some w3 else some w) else jbd (f_X7_fail 2 w) fun q4 => (if (q4.1 10 6) = 0 then jl (jsetI q4 10 4 ((q4.1 10 4) + 1)) fun w6 => some w6 else some q4))
set_option maxRecDepth 20000 in
set_option maxHeartbeats 2000000 in
theorem s_X7_take {E : jE} (hE : jfull E)  {w w' : jw} (hf : f_X7_take  w = some w') : jC E m_X7_take 1 [.ref (E.2.2.2 + 10)] w none w' := by
  refine jC_of (ls := [(0, .ref (E.2.2.2 + 10))]) (by decide) rfl (fun _ => trivial) (Nat.le_of_ble_eq_true rfl) rfl rfl ?_
  unfold f_X7_take at hf
  refine jx_aload_n dX7_take_0 rfl ?_
  refine jx_geti dX7_take_1 fl_X7_30 kj_10 sr_10_4 ?_
  refine jx_sipush (v := 400) dX7_take_4 (by decide) ?_
  refine jx_icmp_lt (tgt := 15) dX7_take_7 (by decide) (fun c1 => ?_) (fun c1 => ?_)
  · rw [if_pos c1] at hf
    refine jx_aload_n dX7_take_15 rfl ?_
    refine jx_geti dX7_take_16 fl_X7_34 kj_10 sr_10_6 ?_
    refine jx_if_ne (tgt := 32) dX7_take_19 (by decide) (fun c2 => ?_) (fun c2 => ?_)
    · rw [if_neg c2] at hf
      cases hf
      exact jx_vret dX7_take_32 rfl rfl
    · rw [if_pos c2] at hf
      refine jx_aload_n dX7_take_22 rfl ?_
      refine jx_dup dX7_take_23 rfl ?_
      refine jx_geti dX7_take_24 fl_X7_30 kj_10 sr_10_4 ?_
      refine jx_iconst (v := 1) dX7_take_27 (by decide) ?_
      refine jx_iadd dX7_take_28 ?_
      refine jx_puti dX7_take_29 fp_X7_30 kj_10 sr_10_4 rfl rfl ?_
      obtain ⟨w3, hw3, hf⟩ := jl_inv hf
      refine jx_nw hw3 ?_
      cases hf
      exact jx_vret dX7_take_32 rfl rfl
  · rw [if_neg c1] at hf
    refine jx_aload_n dX7_take_10 rfl ?_
    refine jx_iconst (v := 2) dX7_take_11 (by decide) ?_
    obtain ⟨q4, hq4, hf⟩ := jbd_inv hf
    refine jx_cVv (a := 10) (As := [.int 2]) (rest := []) dX7_take_12 ml_X7_103 mv_X7_fail (s_X7_fail hE hq4) rfl rfl jc_10 (by decide) (Nat.le_of_ble_eq_true rfl) ?_
    refine jx_aload_n dX7_take_15 rfl ?_
    refine jx_geti dX7_take_16 fl_X7_34 kj_10 sr_10_6 ?_
    refine jx_if_ne (tgt := 32) dX7_take_19 (by decide) (fun c5 => ?_) (fun c5 => ?_)
    · rw [if_neg c5] at hf
      cases hf
      exact jx_vret dX7_take_32 rfl rfl
    · rw [if_pos c5] at hf
      refine jx_aload_n dX7_take_22 rfl ?_
      refine jx_dup dX7_take_23 rfl ?_
      refine jx_geti dX7_take_24 fl_X7_30 kj_10 sr_10_4 ?_
      refine jx_iconst (v := 1) dX7_take_27 (by decide) ?_
      refine jx_iadd dX7_take_28 ?_
      refine jx_puti dX7_take_29 fp_X7_30 kj_10 sr_10_4 rfl rfl ?_
      obtain ⟨w6, hw6, hf⟩ := jl_inv hf
      refine jx_nw hw6 ?_
      cases hf
      exact jx_vret dX7_take_32 rfl rfl
def f_X7_takeKind (a1 : Int32) (w : jw) : Option (jw) := jbd2 (f_X7_ahead  w) fun x2 w3 => (if x2 = a1 then jbd (f_X7_take  w3) fun q5 => some q5 else jbd (f_X7_fail 1 w3) fun q6 => jbd (f_X7_take  q6) fun q7 => some q7)
set_option maxRecDepth 20000 in
set_option maxHeartbeats 2000000 in
theorem s_X7_takeKind {E : jE} (hE : jfull E) {a1 : Int32} {w w' : jw} (hf : f_X7_takeKind a1 w = some w') : jC E m_X7_takeKind 2 [.ref (E.2.2.2 + 10), .int a1] w none w' := by
  refine jC_of (ls := [(0, .ref (E.2.2.2 + 10)), (1, .int a1)]) (by decide) rfl (fun _ => trivial) (Nat.le_of_ble_eq_true rfl) rfl rfl ?_
  unfold f_X7_takeKind at hf
  refine jx_aload_n dX7_takeKind_0 rfl ?_
  obtain ⟨x2, w3, hq1, hf⟩ := jbd2_inv hf
  refine jx_cVi (a := 10) (As := []) (rest := []) dX7_takeKind_1 ml_X7_77 mv_X7_ahead (s_X7_ahead hE hq1) rfl rfl jc_10 (by decide) (Nat.le_of_ble_eq_true rfl) ?_
  refine jx_iload_n dX7_takeKind_4 rfl ?_
  refine jx_icmp_eq (tgt := 13) dX7_takeKind_5 (by decide) (fun c4 => ?_) (fun c4 => ?_)
  · rw [if_pos c4] at hf
    refine jx_aload_n dX7_takeKind_13 rfl ?_
    obtain ⟨q5, hq5, hf⟩ := jbd_inv hf
    refine jx_cVv (a := 10) (As := []) (rest := []) dX7_takeKind_14 ml_X7_81 mv_X7_take (s_X7_take hE hq5) rfl rfl jc_10 (by decide) (Nat.le_of_ble_eq_true rfl) ?_
    cases hf
    exact jx_vret dX7_takeKind_17 rfl rfl
  · rw [if_neg c4] at hf
    refine jx_aload_n dX7_takeKind_8 rfl ?_
    refine jx_iconst (v := 1) dX7_takeKind_9 (by decide) ?_
    obtain ⟨q6, hq6, hf⟩ := jbd_inv hf
    refine jx_cVv (a := 10) (As := [.int 1]) (rest := []) dX7_takeKind_10 ml_X7_103 mv_X7_fail (s_X7_fail hE hq6) rfl rfl jc_10 (by decide) (Nat.le_of_ble_eq_true rfl) ?_
    refine jx_aload_n dX7_takeKind_13 rfl ?_
    obtain ⟨q7, hq7, hf⟩ := jbd_inv hf
    refine jx_cVv (a := 10) (As := []) (rest := []) dX7_takeKind_14 ml_X7_81 mv_X7_take (s_X7_take hE hq7) rfl rfl jc_10 (by decide) (Nat.le_of_ble_eq_true rfl) ?_
    cases hf
    exact jx_vret dX7_takeKind_17 rfl rfl
def f_X7_takeNumber (a1 : Int32) (a2 : Int32) (w : jw) : Option (Int32 × jw) := jl (rat (w.2.2.2 6) (w.1 10 4) : Int32) fun x1 => jbd2 (f_X7_ahead  w) fun x3 w4 => (if x3 = 2 then (if (w4.1 10 5) = (-1) then (if x1 < a1 then jl (jsetI w4 10 5 (rat (w4.2.2.2 8) (w4.1 10 4))) fun w10 => jbd (f_X7_takeKind 2 w10) fun q11 => some (x1, q11) else (if x1 ≤ a2 then jbd (f_X7_takeKind 2 w4) fun q13 => some (x1, q13) else jl (jsetI w4 10 5 (rat (w4.2.2.2 8) (w4.1 10 4))) fun w14 => jbd (f_X7_takeKind 2 w14) fun q15 => some (x1, q15))) else jbd (f_X7_takeKind 2 w4) fun q8 => some (x1, q8)) else jbd (f_X7_takeKind 2 w4) fun q6 => some (x1, q6))
set_option maxRecDepth 20000 in
set_option maxHeartbeats 2000000 in
theorem s_X7_takeNumber {E : jE} (hE : jfull E) {a1 : Int32} {a2 : Int32} {w w' : jw} {v : Int32} (hf : f_X7_takeNumber a1 a2 w = some (v, w')) : jC E m_X7_takeNumber 3 [.ref (E.2.2.2 + 10), .int a1, .int a2] w (some (.int v)) w' := by
  refine jC_of (ls := [(0, .ref (E.2.2.2 + 10)), (1, .int a1), (2, .int a2)]) (by decide) rfl (fun _ => trivial) (Nat.le_of_ble_eq_true rfl) rfl ⟨.int, rfl, rfl⟩ ?_
  unfold f_X7_takeNumber at hf
  refine jx_aload_n dX7_takeNumber_0 rfl ?_
  refine jx_getr dX7_takeNumber_1 fl_X7_9 kj_10 sr_10_0 ?_
  refine jx_getr dX7_takeNumber_4 fl_X7_112 kj_3 sr_3_2 ?_
  refine jx_aload_n dX7_takeNumber_7 rfl ?_
  refine jx_geti dX7_takeNumber_8 fl_X7_30 kj_10 sr_10_4 ?_
  refine jx_cVi (a := 6) (As := [.int (w.1 10 4)]) (rest := []) dX7_takeNumber_11 ml_X7_74 mv_X8_at (c_row_at (k := 0) kj_6 (by decide)) rfl rfl jc_6 (by decide) (Nat.le_of_ble_eq_true rfl) ?_
  obtain ⟨x1, hx1, hf⟩ := jl_inv hf
  refine jx_nm hx1 ?_
  refine jx_istore_n (ls' := [(0, .ref (E.2.2.2 + 10)), (1, .int a1), (2, .int a2), (3, .int x1)]) dX7_takeNumber_14 (by decide) rfl ?_
  refine jx_aload_n dX7_takeNumber_15 rfl ?_
  obtain ⟨x3, w4, hq2, hf⟩ := jbd2_inv hf
  refine jx_cVi (a := 10) (As := []) (rest := []) dX7_takeNumber_16 ml_X7_77 mv_X7_ahead (s_X7_ahead hE hq2) rfl rfl jc_10 (by decide) (Nat.le_of_ble_eq_true rfl) ?_
  refine jx_iconst (v := 2) dX7_takeNumber_19 (by decide) ?_
  refine jx_icmp_ne (tgt := 59) dX7_takeNumber_20 (by decide) (fun c5 => ?_) (fun c5 => ?_)
  · rw [if_neg c5] at hf
    refine jx_aload_n dX7_takeNumber_59 rfl ?_
    refine jx_iconst (v := 2) dX7_takeNumber_60 (by decide) ?_
    obtain ⟨q6, hq6, hf⟩ := jbd_inv hf
    refine jx_cVv (a := 10) (As := [.int 2]) (rest := []) dX7_takeNumber_61 ml_X7_88 mv_X7_takeKind (s_X7_takeKind hE hq6) rfl rfl jc_10 (by decide) (Nat.le_of_ble_eq_true rfl) ?_
    refine jx_iload_n dX7_takeNumber_64 rfl ?_
    cases hf
    exact jx_iret dX7_takeNumber_65 rfl rfl
  · rw [if_pos c5] at hf
    refine jx_aload_n dX7_takeNumber_23 rfl ?_
    refine jx_geti dX7_takeNumber_24 fl_X7_40 kj_10 sr_10_5 ?_
    refine jx_iconst (v := (-1)) dX7_takeNumber_27 (by decide) ?_
    refine jx_icmp_ne (tgt := 59) dX7_takeNumber_28 (by decide) (fun c7 => ?_) (fun c7 => ?_)
    · rw [if_neg c7] at hf
      refine jx_aload_n dX7_takeNumber_59 rfl ?_
      refine jx_iconst (v := 2) dX7_takeNumber_60 (by decide) ?_
      obtain ⟨q8, hq8, hf⟩ := jbd_inv hf
      refine jx_cVv (a := 10) (As := [.int 2]) (rest := []) dX7_takeNumber_61 ml_X7_88 mv_X7_takeKind (s_X7_takeKind hE hq8) rfl rfl jc_10 (by decide) (Nat.le_of_ble_eq_true rfl) ?_
      refine jx_iload_n dX7_takeNumber_64 rfl ?_
      cases hf
      exact jx_iret dX7_takeNumber_65 rfl rfl
    · rw [if_pos c7] at hf
      refine jx_iload_n dX7_takeNumber_31 rfl ?_
      refine jx_iload_n dX7_takeNumber_32 rfl ?_
      refine jx_icmp_lt (tgt := 41) dX7_takeNumber_33 (by decide) (fun c9 => ?_) (fun c9 => ?_)
      · rw [if_pos c9] at hf
        refine jx_aload_n dX7_takeNumber_41 rfl ?_
        refine jx_aload_n dX7_takeNumber_42 rfl ?_
        refine jx_getr dX7_takeNumber_43 fl_X7_9 kj_10 sr_10_0 ?_
        refine jx_getr dX7_takeNumber_46 fl_X7_71 kj_3 sr_3_3 ?_
        refine jx_aload_n dX7_takeNumber_49 rfl ?_
        refine jx_geti dX7_takeNumber_50 fl_X7_30 kj_10 sr_10_4 ?_
        refine jx_cVi (a := 8) (As := [.int (w4.1 10 4)]) (rest := [.ref (E.2.2.2 + 10)]) dX7_takeNumber_53 ml_X7_74 mv_X8_at (c_row_at (k := 0) kj_8 (by decide)) rfl rfl jc_8 (by decide) (Nat.le_of_ble_eq_true rfl) ?_
        refine jx_puti dX7_takeNumber_56 fp_X7_40 kj_10 sr_10_5 rfl rfl ?_
        obtain ⟨w10, hw10, hf⟩ := jl_inv hf
        refine jx_nw hw10 ?_
        refine jx_aload_n dX7_takeNumber_59 rfl ?_
        refine jx_iconst (v := 2) dX7_takeNumber_60 (by decide) ?_
        obtain ⟨q11, hq11, hf⟩ := jbd_inv hf
        refine jx_cVv (a := 10) (As := [.int 2]) (rest := []) dX7_takeNumber_61 ml_X7_88 mv_X7_takeKind (s_X7_takeKind hE hq11) rfl rfl jc_10 (by decide) (Nat.le_of_ble_eq_true rfl) ?_
        refine jx_iload_n dX7_takeNumber_64 rfl ?_
        cases hf
        exact jx_iret dX7_takeNumber_65 rfl rfl
      · rw [if_neg c9] at hf
        refine jx_iload_n dX7_takeNumber_36 rfl ?_
        refine jx_iload_n dX7_takeNumber_37 rfl ?_
        refine jx_icmp_le (tgt := 59) dX7_takeNumber_38 (by decide) (fun c12 => ?_) (fun c12 => ?_)
        · rw [if_pos c12] at hf
          refine jx_aload_n dX7_takeNumber_59 rfl ?_
          refine jx_iconst (v := 2) dX7_takeNumber_60 (by decide) ?_
          obtain ⟨q13, hq13, hf⟩ := jbd_inv hf
          refine jx_cVv (a := 10) (As := [.int 2]) (rest := []) dX7_takeNumber_61 ml_X7_88 mv_X7_takeKind (s_X7_takeKind hE hq13) rfl rfl jc_10 (by decide) (Nat.le_of_ble_eq_true rfl) ?_
          refine jx_iload_n dX7_takeNumber_64 rfl ?_
          cases hf
          exact jx_iret dX7_takeNumber_65 rfl rfl
        · rw [if_neg c12] at hf
          refine jx_aload_n dX7_takeNumber_41 rfl ?_
          refine jx_aload_n dX7_takeNumber_42 rfl ?_
          refine jx_getr dX7_takeNumber_43 fl_X7_9 kj_10 sr_10_0 ?_
          refine jx_getr dX7_takeNumber_46 fl_X7_71 kj_3 sr_3_3 ?_
          refine jx_aload_n dX7_takeNumber_49 rfl ?_
          refine jx_geti dX7_takeNumber_50 fl_X7_30 kj_10 sr_10_4 ?_
          refine jx_cVi (a := 8) (As := [.int (w4.1 10 4)]) (rest := [.ref (E.2.2.2 + 10)]) dX7_takeNumber_53 ml_X7_74 mv_X8_at (c_row_at (k := 0) kj_8 (by decide)) rfl rfl jc_8 (by decide) (Nat.le_of_ble_eq_true rfl) ?_
          refine jx_puti dX7_takeNumber_56 fp_X7_40 kj_10 sr_10_5 rfl rfl ?_
          obtain ⟨w14, hw14, hf⟩ := jl_inv hf
          refine jx_nw hw14 ?_
          refine jx_aload_n dX7_takeNumber_59 rfl ?_
          refine jx_iconst (v := 2) dX7_takeNumber_60 (by decide) ?_
          obtain ⟨q15, hq15, hf⟩ := jbd_inv hf
          refine jx_cVv (a := 10) (As := [.int 2]) (rest := []) dX7_takeNumber_61 ml_X7_88 mv_X7_takeKind (s_X7_takeKind hE hq15) rfl rfl jc_10 (by decide) (Nat.le_of_ble_eq_true rfl) ?_
          refine jx_iload_n dX7_takeNumber_64 rfl ?_
          cases hf
          exact jx_iret dX7_takeNumber_65 rfl rfl
def f_X7_parsePage  (w : jw) : Option (jw) := jbd2 (f_X7_ahead  w) fun x2 w3 => (if x2 = 3 then jbd (f_X7_take  w3) fun q5 => jbd2 (f_X7_takeNumber 6 12 q5) fun x7 w8 => jl (jsetI w8 10 8 x7) fun w9 => jbd (f_X7_takeKind 59 w9) fun q10 => some q10 else some w3)
set_option maxRecDepth 20000 in
set_option maxHeartbeats 2000000 in
theorem s_X7_parsePage {E : jE} (hE : jfull E)  {w w' : jw} (hf : f_X7_parsePage  w = some w') : jC E m_X7_parsePage 4 [.ref (E.2.2.2 + 10)] w none w' := by
  refine jC_of (ls := [(0, .ref (E.2.2.2 + 10))]) (by decide) rfl (fun _ => trivial) (Nat.le_of_ble_eq_true rfl) rfl rfl ?_
  unfold f_X7_parsePage at hf
  refine jx_aload_n dX7_parsePage_0 rfl ?_
  obtain ⟨x2, w3, hq1, hf⟩ := jbd2_inv hf
  refine jx_cVi (a := 10) (As := []) (rest := []) dX7_parsePage_1 ml_X7_77 mv_X7_ahead (s_X7_ahead hE hq1) rfl rfl jc_10 (by decide) (Nat.le_of_ble_eq_true rfl) ?_
  refine jx_iconst (v := 3) dX7_parsePage_4 (by decide) ?_
  refine jx_icmp_ne (tgt := 30) dX7_parsePage_5 (by decide) (fun c4 => ?_) (fun c4 => ?_)
  · rw [if_neg c4] at hf
    cases hf
    exact jx_vret dX7_parsePage_30 rfl rfl
  · rw [if_pos c4] at hf
    refine jx_aload_n dX7_parsePage_8 rfl ?_
    obtain ⟨q5, hq5, hf⟩ := jbd_inv hf
    refine jx_cVv (a := 10) (As := []) (rest := []) dX7_parsePage_9 ml_X7_81 mv_X7_take (s_X7_take hE hq5) rfl rfl jc_10 (by decide) (Nat.le_of_ble_eq_true rfl) ?_
    refine jx_aload_n dX7_parsePage_12 rfl ?_
    refine jx_aload_n dX7_parsePage_13 rfl ?_
    refine jx_bipush (v := 6) dX7_parsePage_14 (by decide) ?_
    refine jx_bipush (v := 12) dX7_parsePage_16 (by decide) ?_
    obtain ⟨x7, w8, hq6, hf⟩ := jbd2_inv hf
    refine jx_cVi (a := 10) (As := [.int 6, .int 12]) (rest := [.ref (E.2.2.2 + 10)]) dX7_parsePage_18 ml_X7_84 mv_X7_takeNumber (s_X7_takeNumber hE hq6) rfl rfl jc_10 (by decide) (Nat.le_of_ble_eq_true rfl) ?_
    refine jx_puti dX7_parsePage_21 fp_X7_43 kj_10 sr_10_8 rfl rfl ?_
    obtain ⟨w9, hw9, hf⟩ := jl_inv hf
    refine jx_nw hw9 ?_
    refine jx_aload_n dX7_parsePage_24 rfl ?_
    refine jx_bipush (v := 59) dX7_parsePage_25 (by decide) ?_
    obtain ⟨q10, hq10, hf⟩ := jbd_inv hf
    refine jx_cVv (a := 10) (As := [.int 59]) (rest := []) dX7_parsePage_27 ml_X7_88 mv_X7_takeKind (s_X7_takeKind hE hq10) rfl rfl jc_10 (by decide) (Nat.le_of_ble_eq_true rfl) ?_
    cases hf
    exact jx_vret dX7_parsePage_30 rfl rfl
def f_X7_markAct  (w : jw) : Option (jw) := (if (nI (w.2.2.2 11).length) ≤ 0 then some w else jl (jsetR w 15 (rset (w.2.2.2 15) (rat (w.2.2.2 11) ((nI (w.2.2.2 11).length) - 1)) 1)) fun w2 => some w2)
set_option maxRecDepth 20000 in
set_option maxHeartbeats 2000000 in
theorem s_X7_markAct {E : jE} (hE : jfull E)  {w w' : jw} (hf : f_X7_markAct  w = some w') : jC E m_X7_markAct 1 [.ref (E.2.2.2 + 10)] w none w' := by
  refine jC_of (ls := [(0, .ref (E.2.2.2 + 10))]) (by decide) rfl (fun _ => trivial) (Nat.le_of_ble_eq_true rfl) rfl rfl ?_
  unfold f_X7_markAct at hf
  refine jx_aload_n dX7_markAct_0 rfl ?_
  refine jx_getr dX7_markAct_1 fl_X7_20 kj_10 sr_10_1 ?_
  refine jx_getn dX7_markAct_4 fl_X7_54 kj_11 (by decide) ?_
  refine jx_if_le (tgt := 34) dX7_markAct_7 (by decide) (fun c1 => ?_) (fun c1 => ?_)
  · rw [if_pos c1] at hf
    cases hf
    exact jx_vret dX7_markAct_34 rfl rfl
  · rw [if_neg c1] at hf
    refine jx_aload_n dX7_markAct_10 rfl ?_
    refine jx_getr dX7_markAct_11 fl_X7_27 kj_10 sr_10_3 ?_
    refine jx_aload_n dX7_markAct_14 rfl ?_
    refine jx_getr dX7_markAct_15 fl_X7_20 kj_10 sr_10_1 ?_
    refine jx_aload_n dX7_markAct_18 rfl ?_
    refine jx_getr dX7_markAct_19 fl_X7_20 kj_10 sr_10_1 ?_
    refine jx_getn dX7_markAct_22 fl_X7_54 kj_11 (by decide) ?_
    refine jx_iconst (v := 1) dX7_markAct_25 (by decide) ?_
    refine jx_isub dX7_markAct_26 ?_
    refine jx_cVi (a := 11) (As := [.int ((nI (w.2.2.2 11).length) - 1)]) (rest := [.ref (E.2.2.2 + 15)]) dX7_markAct_27 ml_X7_74 mv_X8_at (c_row_at (k := 0) kj_11 (by decide)) rfl rfl jc_11 (by decide) (Nat.le_of_ble_eq_true rfl) ?_
    refine jx_iconst (v := 1) dX7_markAct_30 (by decide) ?_
    refine jx_cVv (a := 15) (As := [.int (rat (w.2.2.2 11) ((nI (w.2.2.2 11).length) - 1)), .int 1]) (rest := []) dX7_markAct_31 ml_X7_109 mv_X8_change (c_row_change (k := 0) kj_15 (by decide)) rfl rfl jc_15 (by decide) (Nat.le_of_ble_eq_true rfl) ?_
    obtain ⟨w2, hw2, hf⟩ := jl_inv hf
    refine jx_nw hw2 ?_
    cases hf
    exact jx_vret dX7_markAct_34 rfl rfl
def f_X7_parseDo  (w : jw) : Option (jw) := (if (nI (w.2.2.2 11).length) < 3 then jg (decide ((w.2.2.2 11).length ≤ 4096)) (jl (jsetR w 11 (w.2.2.2 11 ++ [w.1 10 4])) fun w2 => jbd (f_X7_take  w2) fun q4 => jbd2 (f_X7_takeNumber 0 99 q4) fun x6 w7 => jbd (f_X7_takeKind 59 w7) fun q8 => some q8) else jbd (f_X7_fail 2 w) fun q9 => some q9)
set_option maxRecDepth 20000 in
set_option maxHeartbeats 2000000 in
theorem s_X7_parseDo {E : jE} (hE : jfull E)  {w w' : jw} (hf : f_X7_parseDo  w = some w') : jC E m_X7_parseDo 4 [.ref (E.2.2.2 + 10)] w none w' := by
  refine jC_of (ls := [(0, .ref (E.2.2.2 + 10))]) (by decide) rfl (fun _ => trivial) (Nat.le_of_ble_eq_true rfl) rfl rfl ?_
  unfold f_X7_parseDo at hf
  refine jx_aload_n dX7_parseDo_0 rfl ?_
  refine jx_getr dX7_parseDo_1 fl_X7_20 kj_10 sr_10_1 ?_
  refine jx_getn dX7_parseDo_4 fl_X7_54 kj_11 (by decide) ?_
  refine jx_iconst (v := 3) dX7_parseDo_7 (by decide) ?_
  refine jx_icmp_lt (tgt := 17) dX7_parseDo_8 (by decide) (fun c1 => ?_) (fun c1 => ?_)
  · rw [if_pos c1] at hf
    refine jx_aload_n dX7_parseDo_17 rfl ?_
    refine jx_getr dX7_parseDo_18 fl_X7_20 kj_10 sr_10_1 ?_
    refine jx_aload_n dX7_parseDo_21 rfl ?_
    refine jx_geti dX7_parseDo_22 fl_X7_30 kj_10 sr_10_4 ?_
    obtain ⟨c3, hf⟩ := jg_inv hf
    refine jx_cVv (a := 11) (As := [.int (w.1 10 4)]) (rest := []) dX7_parseDo_25 ml_X7_106 mv_X8_add (c_row_add kj_11 (of_decide_eq_true c3) (Or.inl hE)) rfl rfl jc_11 (by decide) (Nat.le_of_ble_eq_true rfl) ?_
    obtain ⟨w2, hw2, hf⟩ := jl_inv hf
    refine jx_nw hw2 ?_
    refine jx_aload_n dX7_parseDo_28 rfl ?_
    obtain ⟨q4, hq4, hf⟩ := jbd_inv hf
    refine jx_cVv (a := 10) (As := []) (rest := []) dX7_parseDo_29 ml_X7_81 mv_X7_take (s_X7_take hE hq4) rfl rfl jc_10 (by decide) (Nat.le_of_ble_eq_true rfl) ?_
    refine jx_aload_n dX7_parseDo_32 rfl ?_
    refine jx_iconst (v := 0) dX7_parseDo_33 (by decide) ?_
    refine jx_bipush (v := 99) dX7_parseDo_34 (by decide) ?_
    obtain ⟨x6, w7, hq5, hf⟩ := jbd2_inv hf
    refine jx_cVi (a := 10) (As := [.int 0, .int 99]) (rest := []) dX7_parseDo_36 ml_X7_84 mv_X7_takeNumber (s_X7_takeNumber hE hq5) rfl rfl jc_10 (by decide) (Nat.le_of_ble_eq_true rfl) ?_
    refine jx_pop dX7_parseDo_39 rfl ?_
    refine jx_aload_n dX7_parseDo_40 rfl ?_
    refine jx_bipush (v := 59) dX7_parseDo_41 (by decide) ?_
    obtain ⟨q8, hq8, hf⟩ := jbd_inv hf
    refine jx_cVv (a := 10) (As := [.int 59]) (rest := []) dX7_parseDo_43 ml_X7_88 mv_X7_takeKind (s_X7_takeKind hE hq8) rfl rfl jc_10 (by decide) (Nat.le_of_ble_eq_true rfl) ?_
    cases hf
    exact jx_vret dX7_parseDo_46 rfl rfl
  · rw [if_neg c1] at hf
    refine jx_aload_n dX7_parseDo_11 rfl ?_
    refine jx_iconst (v := 2) dX7_parseDo_12 (by decide) ?_
    obtain ⟨q9, hq9, hf⟩ := jbd_inv hf
    refine jx_cVv (a := 10) (As := [.int 2]) (rest := []) dX7_parseDo_13 ml_X7_103 mv_X7_fail (s_X7_fail hE hq9) rfl rfl jc_10 (by decide) (Nat.le_of_ble_eq_true rfl) ?_
    cases hf
    exact jx_vret dX7_parseDo_16 rfl rfl
def f_X7_parseEnd  (w : jw) : Option (jw) := (if (nI (w.2.2.2 11).length) = 0 then jbd (f_X7_fail 1 w) fun q16 => some q16 else jl (rat (w.2.2.2 11) ((nI (w.2.2.2 11).length) - 1) : Int32) fun x2 => jl (jsetR w 11 (rcut (w.2.2.2 11) ((nI (w.2.2.2 11).length) - 1))) fun w3 => jl (jsetR w3 13 (rset (w3.2.2.2 13) x2 (w3.1 10 4))) fun w4 => jl (jsetR w4 13 (rset (w4.2.2.2 13) (w4.1 10 4) x2)) fun w5 => (if (rat (w5.2.2.2 6) (x2 + 1)) = 0 then jl (jsetR w5 15 (rset (w5.2.2.2 15) x2 0)) fun w13 => jbd (f_X7_take  w13) fun q14 => jbd (f_X7_takeKind 59 q14) fun q15 => some q15 else (if (rat (w5.2.2.2 15) x2) = 1 then jbd (f_X7_markAct  w5) fun q10 => jbd (f_X7_take  q10) fun q11 => jbd (f_X7_takeKind 59 q11) fun q12 => some q12 else jbd (f_X7_take  w5) fun q8 => jbd (f_X7_takeKind 59 q8) fun q9 => some q9)))
set_option maxRecDepth 20000 in
set_option maxHeartbeats 2000000 in
theorem s_X7_parseEnd {E : jE} (hE : jfull E)  {w w' : jw} (hf : f_X7_parseEnd  w = some w') : jC E m_X7_parseEnd 3 [.ref (E.2.2.2 + 10)] w none w' := by
  refine jC_of (ls := [(0, .ref (E.2.2.2 + 10))]) (by decide) rfl (fun _ => trivial) (Nat.le_of_ble_eq_true rfl) rfl rfl ?_
  unfold f_X7_parseEnd at hf
  refine jx_aload_n dX7_parseEnd_0 rfl ?_
  refine jx_getr dX7_parseEnd_1 fl_X7_20 kj_10 sr_10_1 ?_
  refine jx_getn dX7_parseEnd_4 fl_X7_54 kj_11 (by decide) ?_
  refine jx_if_ne (tgt := 16) dX7_parseEnd_7 (by decide) (fun c1 => ?_) (fun c1 => ?_)
  · rw [if_neg c1] at hf
    refine jx_aload_n dX7_parseEnd_16 rfl ?_
    refine jx_getr dX7_parseEnd_17 fl_X7_20 kj_10 sr_10_1 ?_
    refine jx_aload_n dX7_parseEnd_20 rfl ?_
    refine jx_getr dX7_parseEnd_21 fl_X7_20 kj_10 sr_10_1 ?_
    refine jx_getn dX7_parseEnd_24 fl_X7_54 kj_11 (by decide) ?_
    refine jx_iconst (v := 1) dX7_parseEnd_27 (by decide) ?_
    refine jx_isub dX7_parseEnd_28 ?_
    refine jx_cVi (a := 11) (As := [.int ((nI (w.2.2.2 11).length) - 1)]) (rest := []) dX7_parseEnd_29 ml_X7_74 mv_X8_at (c_row_at (k := 0) kj_11 (by decide)) rfl rfl jc_11 (by decide) (Nat.le_of_ble_eq_true rfl) ?_
    obtain ⟨x2, hx2, hf⟩ := jl_inv hf
    refine jx_nm hx2 ?_
    refine jx_istore_n (ls' := [(0, .ref (E.2.2.2 + 10)), (1, .int x2)]) dX7_parseEnd_32 (by decide) rfl ?_
    refine jx_aload_n dX7_parseEnd_33 rfl ?_
    refine jx_getr dX7_parseEnd_34 fl_X7_20 kj_10 sr_10_1 ?_
    refine jx_aload_n dX7_parseEnd_37 rfl ?_
    refine jx_getr dX7_parseEnd_38 fl_X7_20 kj_10 sr_10_1 ?_
    refine jx_getn dX7_parseEnd_41 fl_X7_54 kj_11 (by decide) ?_
    refine jx_iconst (v := 1) dX7_parseEnd_44 (by decide) ?_
    refine jx_isub dX7_parseEnd_45 ?_
    refine jx_cVv (a := 11) (As := [.int ((nI (w.2.2.2 11).length) - 1)]) (rest := []) dX7_parseEnd_46 ml_X7_46 mv_X8_shorten (c_row_shorten (k := 0) kj_11 (by decide)) rfl rfl jc_11 (by decide) (Nat.le_of_ble_eq_true rfl) ?_
    obtain ⟨w3, hw3, hf⟩ := jl_inv hf
    refine jx_nw hw3 ?_
    refine jx_aload_n dX7_parseEnd_49 rfl ?_
    refine jx_getr dX7_parseEnd_50 fl_X7_24 kj_10 sr_10_2 ?_
    refine jx_iload_n dX7_parseEnd_53 rfl ?_
    refine jx_aload_n dX7_parseEnd_54 rfl ?_
    refine jx_geti dX7_parseEnd_55 fl_X7_30 kj_10 sr_10_4 ?_
    refine jx_cVv (a := 13) (As := [.int x2, .int (w3.1 10 4)]) (rest := []) dX7_parseEnd_58 ml_X7_109 mv_X8_change (c_row_change (k := 0) kj_13 (by decide)) rfl rfl jc_13 (by decide) (Nat.le_of_ble_eq_true rfl) ?_
    obtain ⟨w4, hw4, hf⟩ := jl_inv hf
    refine jx_nw hw4 ?_
    refine jx_aload_n dX7_parseEnd_61 rfl ?_
    refine jx_getr dX7_parseEnd_62 fl_X7_24 kj_10 sr_10_2 ?_
    refine jx_aload_n dX7_parseEnd_65 rfl ?_
    refine jx_geti dX7_parseEnd_66 fl_X7_30 kj_10 sr_10_4 ?_
    refine jx_iload_n dX7_parseEnd_69 rfl ?_
    refine jx_cVv (a := 13) (As := [.int (w4.1 10 4), .int x2]) (rest := []) dX7_parseEnd_70 ml_X7_109 mv_X8_change (c_row_change (k := 0) kj_13 (by decide)) rfl rfl jc_13 (by decide) (Nat.le_of_ble_eq_true rfl) ?_
    obtain ⟨w5, hw5, hf⟩ := jl_inv hf
    refine jx_nw hw5 ?_
    refine jx_aload_n dX7_parseEnd_73 rfl ?_
    refine jx_getr dX7_parseEnd_74 fl_X7_9 kj_10 sr_10_0 ?_
    refine jx_getr dX7_parseEnd_77 fl_X7_112 kj_3 sr_3_2 ?_
    refine jx_iload_n dX7_parseEnd_80 rfl ?_
    refine jx_iconst (v := 1) dX7_parseEnd_81 (by decide) ?_
    refine jx_iadd dX7_parseEnd_82 ?_
    refine jx_cVi (a := 6) (As := [.int (x2 + 1)]) (rest := []) dX7_parseEnd_83 ml_X7_74 mv_X8_at (c_row_at (k := 0) kj_6 (by decide)) rfl rfl jc_6 (by decide) (Nat.le_of_ble_eq_true rfl) ?_
    refine jx_if_ne (tgt := 101) dX7_parseEnd_86 (by decide) (fun c6 => ?_) (fun c6 => ?_)
    · rw [if_neg c6] at hf
      refine jx_aload_n dX7_parseEnd_101 rfl ?_
      refine jx_getr dX7_parseEnd_102 fl_X7_27 kj_10 sr_10_3 ?_
      refine jx_iload_n dX7_parseEnd_105 rfl ?_
      refine jx_cVi (a := 15) (As := [.int x2]) (rest := []) dX7_parseEnd_106 ml_X7_74 mv_X8_at (c_row_at (k := 0) kj_15 (by decide)) rfl rfl jc_15 (by decide) (Nat.le_of_ble_eq_true rfl) ?_
      refine jx_iconst (v := 1) dX7_parseEnd_109 (by decide) ?_
      refine jx_icmp_ne (tgt := 117) dX7_parseEnd_110 (by decide) (fun c7 => ?_) (fun c7 => ?_)
      · rw [if_neg c7] at hf
        refine jx_aload_n dX7_parseEnd_117 rfl ?_
        obtain ⟨q8, hq8, hf⟩ := jbd_inv hf
        refine jx_cVv (a := 10) (As := []) (rest := []) dX7_parseEnd_118 ml_X7_81 mv_X7_take (s_X7_take hE hq8) rfl rfl jc_10 (by decide) (Nat.le_of_ble_eq_true rfl) ?_
        refine jx_aload_n dX7_parseEnd_121 rfl ?_
        refine jx_bipush (v := 59) dX7_parseEnd_122 (by decide) ?_
        obtain ⟨q9, hq9, hf⟩ := jbd_inv hf
        refine jx_cVv (a := 10) (As := [.int 59]) (rest := []) dX7_parseEnd_124 ml_X7_88 mv_X7_takeKind (s_X7_takeKind hE hq9) rfl rfl jc_10 (by decide) (Nat.le_of_ble_eq_true rfl) ?_
        cases hf
        exact jx_vret dX7_parseEnd_127 rfl rfl
      · rw [if_pos c7] at hf
        refine jx_aload_n dX7_parseEnd_113 rfl ?_
        obtain ⟨q10, hq10, hf⟩ := jbd_inv hf
        refine jx_cVv (a := 10) (As := []) (rest := []) dX7_parseEnd_114 ml_X7_91 mv_X7_markAct (s_X7_markAct hE hq10) rfl rfl jc_10 (by decide) (Nat.le_of_ble_eq_true rfl) ?_
        refine jx_aload_n dX7_parseEnd_117 rfl ?_
        obtain ⟨q11, hq11, hf⟩ := jbd_inv hf
        refine jx_cVv (a := 10) (As := []) (rest := []) dX7_parseEnd_118 ml_X7_81 mv_X7_take (s_X7_take hE hq11) rfl rfl jc_10 (by decide) (Nat.le_of_ble_eq_true rfl) ?_
        refine jx_aload_n dX7_parseEnd_121 rfl ?_
        refine jx_bipush (v := 59) dX7_parseEnd_122 (by decide) ?_
        obtain ⟨q12, hq12, hf⟩ := jbd_inv hf
        refine jx_cVv (a := 10) (As := [.int 59]) (rest := []) dX7_parseEnd_124 ml_X7_88 mv_X7_takeKind (s_X7_takeKind hE hq12) rfl rfl jc_10 (by decide) (Nat.le_of_ble_eq_true rfl) ?_
        cases hf
        exact jx_vret dX7_parseEnd_127 rfl rfl
    · rw [if_pos c6] at hf
      refine jx_aload_n dX7_parseEnd_89 rfl ?_
      refine jx_getr dX7_parseEnd_90 fl_X7_27 kj_10 sr_10_3 ?_
      refine jx_iload_n dX7_parseEnd_93 rfl ?_
      refine jx_iconst (v := 0) dX7_parseEnd_94 (by decide) ?_
      refine jx_cVv (a := 15) (As := [.int x2, .int 0]) (rest := []) dX7_parseEnd_95 ml_X7_109 mv_X8_change (c_row_change (k := 0) kj_15 (by decide)) rfl rfl jc_15 (by decide) (Nat.le_of_ble_eq_true rfl) ?_
      obtain ⟨w13, hw13, hf⟩ := jl_inv hf
      refine jx_nw hw13 ?_
      refine jx_goto (tgt := 117) dX7_parseEnd_98 (by decide) ?_
      refine jx_aload_n dX7_parseEnd_117 rfl ?_
      obtain ⟨q14, hq14, hf⟩ := jbd_inv hf
      refine jx_cVv (a := 10) (As := []) (rest := []) dX7_parseEnd_118 ml_X7_81 mv_X7_take (s_X7_take hE hq14) rfl rfl jc_10 (by decide) (Nat.le_of_ble_eq_true rfl) ?_
      refine jx_aload_n dX7_parseEnd_121 rfl ?_
      refine jx_bipush (v := 59) dX7_parseEnd_122 (by decide) ?_
      obtain ⟨q15, hq15, hf⟩ := jbd_inv hf
      refine jx_cVv (a := 10) (As := [.int 59]) (rest := []) dX7_parseEnd_124 ml_X7_88 mv_X7_takeKind (s_X7_takeKind hE hq15) rfl rfl jc_10 (by decide) (Nat.le_of_ble_eq_true rfl) ?_
      cases hf
      exact jx_vret dX7_parseEnd_127 rfl rfl
  · rw [if_pos c1] at hf
    refine jx_aload_n dX7_parseEnd_10 rfl ?_
    refine jx_iconst (v := 1) dX7_parseEnd_11 (by decide) ?_
    obtain ⟨q16, hq16, hf⟩ := jbd_inv hf
    refine jx_cVv (a := 10) (As := [.int 1]) (rest := []) dX7_parseEnd_12 ml_X7_103 mv_X7_fail (s_X7_fail hE hq16) rfl rfl jc_10 (by decide) (Nat.le_of_ble_eq_true rfl) ?_
    cases hf
    exact jx_vret dX7_parseEnd_15 rfl rfl
