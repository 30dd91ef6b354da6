/-! Math.floorMod; the Teller's terms, which call one another -/
section JG
variable {E : jE} {M N : jm} {k k' pc idx n : Nat} {ls : List (Nat × Value)} {rest st As : List Value} {w w1 w' : jw} {r : Option Value}
theorem jx_ixor {x y : Int32} (d : decode M.2.2.1 pc = .ok (.ixor, 1)) (kk : jX E M k (pc + 1) ls (.int (x ^^^ y) :: rest) w r w') : jX E M k pc ls (.int y :: .int x :: rest) w r w' :=
  jX_go (fun h p e R s m args below meth c H locs cells slots lsA Q C hR hl kw => lv_ixor C.1 C.2.1 d (kw _ hl)) kk
/-- a call of a static method of any kind -/
theorem jx_cGi {v : Int32} (d : decode M.2.2.1 pc = .ok (.invokestatic idx, 3)) (hlk : Cond.methodLink M.1 idx N.2.1 ∈ jtbl) (hN : jMs N n) (hC : jC E N k' As w (some (.int v)) w1)
    (hst : st = As.reverse ++ rest) (hn : As.length = n) (hk : k' + 1 ≤ k) (hcat : (rest.map fun v => v.category).sum ≤ 8) (kk : jX E M k (pc + 3) ls (.int v :: rest) w1 r w') (hZ : jZi E M N := by exact ⟨fun _ _ _ _ _ _ => trivial, fun _ _ _ _ _ => trivial⟩) : jX E M k pc ls st w r w' := by
  refine jx_back hC (fun h h1 p e R s m args below meth c H locs cells slots lsA b1 b2 b3 b4 b5 b6 b7 b8 hM => ?_) kk
  obtain ⟨⟨hcode, hini, hd, hL⟩, hse⟩ := hN
  obtain ⟨hx, hb, hml, hown, hts, hK, hBs, hZs⟩ := id b1
  exact va_runS (As := As) (rest := rest) ⟨hx, hb, hml, hown, hts⟩ (hM k' (Nat.le_refl _)) ⟨callB_of n hts (jgood (fun w hw => by rcases List.mem_cons.mp hw with rfl | g; exact hcode; exact g)) rfl rfl rfl (hts _ hini) (hts _ hlk) hd ⟨by show k' + 1 ≤ R.frames; omega, by show 8 + (N.2.2.2.1 + 11) + 40 * k' ≤ R.locals; omega⟩, hts _ hse⟩ ⟨jPc_blind hZ, fun U hU hW => ⟨rfl, by rw [hU]; exact b2, jK.moved hW.alike hK, hZ.1 s U hZs hW (fun q z1 z2 => by rw [hU]; exact b3.2.1 q z1 z2) hBs⟩⟩ rfl hn b4.1 hst (lv_room hcat) d ⟨b7, b8⟩
end JG
-- (Math.floorMod: see the part of goOn)
def f_X10_unit (tot : Int32 → jw → Option (Int32 × jw)) (a1 : Int32) (w : jw) : Option (Int32 × jw) := jl (rat (w.2.2.2 4) (w.1 48 4) : Int32) fun x1 => (if x1 = 2 then jl (rat (w.2.2.2 6) (w.1 48 4) : Int32) fun x13 => jl (jsetI w 48 4 ((w.1 48 4) + 1)) fun w14 => (if x1 = 40 then (if 6 ≤ a1 then some (x13, w14) else jbd2 (tot (a1 + 1) w14) fun x18 w19 => jl (jsetI w19 48 4 ((w19.1 48 4) + 1)) fun w20 => some (x18, w20)) else some (x13, w14)) else jbd2 (f_X10_variable x1 w) fun x4 w5 => jl (jsetI w5 48 4 ((w5.1 48 4) + 1)) fun w6 => (if x1 = 40 then (if 6 ≤ a1 then some (x4, w6) else jbd2 (tot (a1 + 1) w6) fun x10 w11 => jl (jsetI w11 48 4 ((w11.1 48 4) + 1)) fun w12 => some (x10, w12)) else some (x4, w6)))
set_option maxRecDepth 20000 in
set_option maxHeartbeats 2000000 in
theorem s_X10_unit {E : jE} (hE : jfull E) {kt : Nat} {tot : Int32 → jw → Option (Int32 × jw)} (hkt : 5 ≤ kt) (htot : ∀ (a : Int32) (w : jw) (v : Int32) (w' : jw), tot a w = some (v, w') → jC E m_X10_total kt [.ref (E.2.2.2 + 48), .int a] w (some (.int v)) w') {a1 : Int32} {w w' : jw} {v : Int32} (hf : f_X10_unit tot a1 w = some (v, w')) : jC E m_X10_unit (kt + 1) [.ref (E.2.2.2 + 48), .int a1] w (some (.int v)) w' := by
  refine jC_of (ls := [(0, .ref (E.2.2.2 + 48)), (1, .int a1)]) (by decide) rfl (fun _ => trivial) (Nat.le_of_ble_eq_true rfl) rfl ⟨.int, rfl, rfl⟩ ?_
  unfold f_X10_unit at hf
  refine jx_aload_n dX10_unit_0 rfl ?_
  refine jx_getr dX10_unit_1 fl_X10_9 kj_48 sr_48_0 ?_
  refine jx_getr dX10_unit_4 fl_X10_32 kj_3 sr_3_1 ?_
  refine jx_aload_n dX10_unit_7 rfl ?_
  refine jx_geti dX10_unit_8 fl_X10_41 kj_48 sr_48_4 ?_
  refine jx_cVi (a := 4) (As := [.int (w.1 48 4)]) (rest := []) dX10_unit_11 ml_X10_37 mv_X8_at (c_row_at (k := 0) kj_4 (by decide)) rfl rfl jc_4 (by omega) (Nat.le_of_ble_eq_true rfl) ?_
  obtain ⟨x1, hx1, hf⟩ := jl_inv hf
  refine jx_nm hx1 ?_
  refine jx_istore_n (ls' := [(0, .ref (E.2.2.2 + 48)), (1, .int a1), (2, .int x1)]) dX10_unit_14 (by decide) rfl ?_
  refine jx_iload_n dX10_unit_15 rfl ?_
  refine jx_iconst (v := 2) dX10_unit_16 (by decide) ?_
  refine jx_icmp_ne (tgt := 37) dX10_unit_17 (by decide) (fun c2 => ?_) (fun c2 => ?_)
  · rw [if_neg c2] at hf
    refine jx_aload_n dX10_unit_37 rfl ?_
    refine jx_iload_n dX10_unit_38 rfl ?_
    obtain ⟨x4, w5, hq3, hf⟩ := jbd2_inv hf
    refine jx_cVi (a := 48) (As := [.int x1]) (rest := []) dX10_unit_39 ml_X10_101 mv_X10_variable (s_X10_variable hE hq3) rfl rfl jc_48 (by omega) (Nat.le_of_ble_eq_true rfl) ?_
    refine jx_istore_n (ls' := [(0, .ref (E.2.2.2 + 48)), (1, .int a1), (2, .int x1), (3, .int x4)]) dX10_unit_42 (by decide) rfl ?_
    refine jx_aload_n dX10_unit_43 rfl ?_
    refine jx_dup dX10_unit_44 rfl ?_
    refine jx_geti dX10_unit_45 fl_X10_41 kj_48 sr_48_4 ?_
    refine jx_iconst (v := 1) dX10_unit_48 (by decide) ?_
    refine jx_iadd dX10_unit_49 ?_
    refine jx_puti dX10_unit_50 fp_X10_41 kj_48 sr_48_4 rfl rfl ?_
    obtain ⟨w6, hw6, hf⟩ := jl_inv hf
    refine jx_nw hw6 ?_
    refine jx_iload_n dX10_unit_53 rfl ?_
    refine jx_bipush (v := 40) dX10_unit_54 (by decide) ?_
    refine jx_icmp_ne (tgt := 83) dX10_unit_56 (by decide) (fun c7 => ?_) (fun c7 => ?_)
    · rw [if_neg c7] at hf
      refine jx_iload_n dX10_unit_83 rfl ?_
      cases hf
      exact jx_iret dX10_unit_84 rfl rfl
    · rw [if_pos c7] at hf
      refine jx_iload_n dX10_unit_59 rfl ?_
      refine jx_bipush (v := 6) dX10_unit_60 (by decide) ?_
      refine jx_icmp_ge (tgt := 83) dX10_unit_62 (by decide) (fun c8 => ?_) (fun c8 => ?_)
      · rw [if_pos c8] at hf
        refine jx_iload_n dX10_unit_83 rfl ?_
        cases hf
        exact jx_iret dX10_unit_84 rfl rfl
      · rw [if_neg c8] at hf
        refine jx_aload_n dX10_unit_65 rfl ?_
        refine jx_iload_n dX10_unit_66 rfl ?_
        refine jx_iconst (v := 1) dX10_unit_67 (by decide) ?_
        refine jx_iadd dX10_unit_68 ?_
        obtain ⟨x10, w11, hq9, hf⟩ := jbd2_inv hf
        refine jx_cVi (a := 48) (As := [.int (a1 + 1)]) (rest := []) dX10_unit_69 ml_X10_53 mv_X10_total (htot _ _ _ _ hq9) rfl rfl jc_48 (by omega) (Nat.le_of_ble_eq_true rfl) ?_
        refine jx_istore_n (ls' := [(0, .ref (E.2.2.2 + 48)), (1, .int a1), (2, .int x1), (3, .int x10)]) dX10_unit_72 (by decide) rfl ?_
        refine jx_aload_n dX10_unit_73 rfl ?_
        refine jx_dup dX10_unit_74 rfl ?_
        refine jx_geti dX10_unit_75 fl_X10_41 kj_48 sr_48_4 ?_
        refine jx_iconst (v := 1) dX10_unit_78 (by decide) ?_
        refine jx_iadd dX10_unit_79 ?_
        refine jx_puti dX10_unit_80 fp_X10_41 kj_48 sr_48_4 rfl rfl ?_
        obtain ⟨w12, hw12, hf⟩ := jl_inv hf
        refine jx_nw hw12 ?_
        refine jx_iload_n dX10_unit_83 rfl ?_
        cases hf
        exact jx_iret dX10_unit_84 rfl rfl
  · rw [if_pos c2] at hf
    refine jx_aload_n dX10_unit_20 rfl ?_
    refine jx_getr dX10_unit_21 fl_X10_9 kj_48 sr_48_0 ?_
    refine jx_getr dX10_unit_24 fl_X10_88 kj_3 sr_3_2 ?_
    refine jx_aload_n dX10_unit_27 rfl ?_
    refine jx_geti dX10_unit_28 fl_X10_41 kj_48 sr_48_4 ?_
    refine jx_cVi (a := 6) (As := [.int (w.1 48 4)]) (rest := []) dX10_unit_31 ml_X10_37 mv_X8_at (c_row_at (k := 0) kj_6 (by decide)) rfl rfl jc_6 (by omega) (Nat.le_of_ble_eq_true rfl) ?_
    refine jx_goto (tgt := 42) dX10_unit_34 (by decide) ?_
    obtain ⟨x13, hx13, hf⟩ := jl_inv hf
    refine jx_nm hx13 ?_
    refine jx_istore_n (ls' := [(0, .ref (E.2.2.2 + 48)), (1, .int a1), (2, .int x1), (3, .int x13)]) dX10_unit_42 (by decide) rfl ?_
    refine jx_aload_n dX10_unit_43 rfl ?_
    refine jx_dup dX10_unit_44 rfl ?_
    refine jx_geti dX10_unit_45 fl_X10_41 kj_48 sr_48_4 ?_
    refine jx_iconst (v := 1) dX10_unit_48 (by decide) ?_
    refine jx_iadd dX10_unit_49 ?_
    refine jx_puti dX10_unit_50 fp_X10_41 kj_48 sr_48_4 rfl rfl ?_
    obtain ⟨w14, hw14, hf⟩ := jl_inv hf
    refine jx_nw hw14 ?_
    refine jx_iload_n dX10_unit_53 rfl ?_
    refine jx_bipush (v := 40) dX10_unit_54 (by decide) ?_
    refine jx_icmp_ne (tgt := 83) dX10_unit_56 (by decide) (fun c15 => ?_) (fun c15 => ?_)
    · rw [if_neg c15] at hf
      refine jx_iload_n dX10_unit_83 rfl ?_
      cases hf
      exact jx_iret dX10_unit_84 rfl rfl
    · rw [if_pos c15] at hf
      refine jx_iload_n dX10_unit_59 rfl ?_
      refine jx_bipush (v := 6) dX10_unit_60 (by decide) ?_
      refine jx_icmp_ge (tgt := 83) dX10_unit_62 (by decide) (fun c16 => ?_) (fun c16 => ?_)
      · rw [if_pos c16] at hf
        refine jx_iload_n dX10_unit_83 rfl ?_
        cases hf
        exact jx_iret dX10_unit_84 rfl rfl
      · rw [if_neg c16] at hf
        refine jx_aload_n dX10_unit_65 rfl ?_
        refine jx_iload_n dX10_unit_66 rfl ?_
        refine jx_iconst (v := 1) dX10_unit_67 (by decide) ?_
        refine jx_iadd dX10_unit_68 ?_
        obtain ⟨x18, w19, hq17, hf⟩ := jbd2_inv hf
        refine jx_cVi (a := 48) (As := [.int (a1 + 1)]) (rest := []) dX10_unit_69 ml_X10_53 mv_X10_total (htot _ _ _ _ hq17) rfl rfl jc_48 (by omega) (Nat.le_of_ble_eq_true rfl) ?_
        refine jx_istore_n (ls' := [(0, .ref (E.2.2.2 + 48)), (1, .int a1), (2, .int x1), (3, .int x18)]) dX10_unit_72 (by decide) rfl ?_
        refine jx_aload_n dX10_unit_73 rfl ?_
        refine jx_dup dX10_unit_74 rfl ?_
        refine jx_geti dX10_unit_75 fl_X10_41 kj_48 sr_48_4 ?_
        refine jx_iconst (v := 1) dX10_unit_78 (by decide) ?_
        refine jx_iadd dX10_unit_79 ?_
        refine jx_puti dX10_unit_80 fp_X10_41 kj_48 sr_48_4 rfl rfl ?_
        obtain ⟨w20, hw20, hf⟩ := jl_inv hf
        refine jx_nw hw20 ?_
        refine jx_iload_n dX10_unit_83 rfl ?_
        cases hf
        exact jx_iret dX10_unit_84 rfl rfl
def l_X10_product (tot : Int32 → jw → Option (Int32 × jw)) : Nat → Int32 → Int32 → Int32 → jw → Option (Int32 × jw)
  | 0, _, _, _, _ => none
  | n + 1, b1, b2, b3, w => (if 400 ≤ b3 then some (b2, w) else jl (rat (w.2.2.2 4) (w.1 48 4) : Int32) fun x2 => (if x2 = 42 then jl (jsetI w 48 4 ((w.1 48 4) + 1)) fun w4 => jbd2 (f_X10_unit tot b1 w4) fun x6 w7 => (if x2 = 42 then jl (b2 * x6 : Int32) fun x18 => jl (b3 + 1) fun x19 => (l_X10_product tot n b1 x18 x19 w7) else (if x6 = 0 then jl (b3 + 1) fun x17 => (l_X10_product tot n b1 0 x17 w7) else (if x2 = 47 then jg (decide (¬ x6 = 0)) (jl (b2 / x6 : Int32) fun x15 => jl (b3 + 1) fun x16 => (l_X10_product tot n b1 x15 x16 w7)) else jg (decide (¬ x6 = 0)) (jl (b2 - b2 / x6 * x6 : Int32) fun x12 => jl (b3 + 1) fun x13 => (l_X10_product tot n b1 x12 x13 w7))))) else (if x2 = 47 then jl (jsetI w 48 4 ((w.1 48 4) + 1)) fun w21 => jbd2 (f_X10_unit tot b1 w21) fun x23 w24 => (if x2 = 42 then jl (b2 * x23 : Int32) fun x35 => jl (b3 + 1) fun x36 => (l_X10_product tot n b1 x35 x36 w24) else (if x23 = 0 then jl (b3 + 1) fun x34 => (l_X10_product tot n b1 0 x34 w24) else (if x2 = 47 then jg (decide (¬ x23 = 0)) (jl (b2 / x23 : Int32) fun x32 => jl (b3 + 1) fun x33 => (l_X10_product tot n b1 x32 x33 w24)) else jg (decide (¬ x23 = 0)) (jl (b2 - b2 / x23 * x23 : Int32) fun x29 => jl (b3 + 1) fun x30 => (l_X10_product tot n b1 x29 x30 w24))))) else (if x2 = 37 then jl (jsetI w 48 4 ((w.1 48 4) + 1)) fun w38 => jbd2 (f_X10_unit tot b1 w38) fun x40 w41 => (if x2 = 42 then jl (b2 * x40 : Int32) fun x52 => jl (b3 + 1) fun x53 => (l_X10_product tot n b1 x52 x53 w41) else (if x40 = 0 then jl (b3 + 1) fun x51 => (l_X10_product tot n b1 0 x51 w41) else (if x2 = 47 then jg (decide (¬ x40 = 0)) (jl (b2 / x40 : Int32) fun x49 => jl (b3 + 1) fun x50 => (l_X10_product tot n b1 x49 x50 w41)) else jg (decide (¬ x40 = 0)) (jl (b2 - b2 / x40 * x40 : Int32) fun x46 => jl (b3 + 1) fun x47 => (l_X10_product tot n b1 x46 x47 w41))))) else some (b2, w)))))
set_option maxRecDepth 20000 in
set_option maxHeartbeats 2000000 in
theorem sl_X10_product {E : jE} (hE : jfull E) {kt : Nat} {tot : Int32 → jw → Option (Int32 × jw)} (hkt : 5 ≤ kt) (htot : ∀ (a : Int32) (w : jw) (v : Int32) (w' : jw), tot a w = some (v, w') → jC E m_X10_total kt [.ref (E.2.2.2 + 48), .int a] w (some (.int v)) w') : ∀ (n : Nat) (b1 : Int32) (b2 : Int32) (b3 : Int32) (w : jw) (v : Int32) (w' : jw), l_X10_product tot n b1 b2 b3 w = some (v, w') → jX E m_X10_product (kt + 2) 8 [(0, .ref (E.2.2.2 + 48)), (1, .int b1), (2, .int b2), (3, .int b3)] [] w (some (.int v)) w' := by
  intro n
  induction n with
  | zero => intro b1 b2 b3 w v w' hf; cases hf
  | succ n ih =>
    intro b1 b2 b3 w v w' hf
    unfold l_X10_product at hf
    refine jx_iload_n dX10_product_8 rfl ?_
    refine jx_sipush (v := 400) dX10_product_9 (by decide) ?_
    refine jx_icmp_ge (tgt := 122) dX10_product_12 (by decide) (fun c1 => ?_) (fun c1 => ?_)
    · rw [if_pos c1] at hf
      refine jx_iload_n dX10_product_122 rfl ?_
      cases hf
      exact jx_iret dX10_product_123 rfl rfl
    · rw [if_neg c1] at hf
      refine jx_aload_n dX10_product_15 rfl ?_
      refine jx_getr dX10_product_16 fl_X10_9 kj_48 sr_48_0 ?_
      refine jx_getr dX10_product_19 fl_X10_32 kj_3 sr_3_1 ?_
      refine jx_aload_n dX10_product_22 rfl ?_
      refine jx_geti dX10_product_23 fl_X10_41 kj_48 sr_48_4 ?_
      refine jx_cVi (a := 4) (As := [.int (w.1 48 4)]) (rest := []) dX10_product_26 ml_X10_37 mv_X8_at (c_row_at (k := 0) kj_4 (by decide)) rfl rfl jc_4 (by omega) (Nat.le_of_ble_eq_true rfl) ?_
      obtain ⟨x2, hx2, hf⟩ := jl_inv hf
      refine jx_nm hx2 ?_
      refine jx_istore (ls' := [(0, .ref (E.2.2.2 + 48)), (1, .int b1), (2, .int b2), (3, .int b3), (4, .int x2)]) dX10_product_29 (by decide) rfl ?_
      refine jx_iload dX10_product_31 rfl ?_
      refine jx_bipush (v := 42) dX10_product_33 (by decide) ?_
      refine jx_icmp_eq (tgt := 55) dX10_product_35 (by decide) (fun c3 => ?_) (fun c3 => ?_)
      · rw [if_pos c3] at hf
        refine jx_aload_n dX10_product_55 rfl ?_
        refine jx_dup dX10_product_56 rfl ?_
        refine jx_geti dX10_product_57 fl_X10_41 kj_48 sr_48_4 ?_
        refine jx_iconst (v := 1) dX10_product_60 (by decide) ?_
        refine jx_iadd dX10_product_61 ?_
        refine jx_puti dX10_product_62 fp_X10_41 kj_48 sr_48_4 rfl rfl ?_
        obtain ⟨w4, hw4, hf⟩ := jl_inv hf
        refine jx_nw hw4 ?_
        refine jx_aload_n dX10_product_65 rfl ?_
        refine jx_iload_n dX10_product_66 rfl ?_
        obtain ⟨x6, w7, hq5, hf⟩ := jbd2_inv hf
        refine jx_cVi (a := 48) (As := [.int b1]) (rest := []) dX10_product_67 ml_X10_98 mv_X10_unit (s_X10_unit hE hkt htot hq5) rfl rfl jc_48 (by omega) (Nat.le_of_ble_eq_true rfl) ?_
        refine jx_istore (ls' := [(0, .ref (E.2.2.2 + 48)), (1, .int b1), (2, .int b2), (3, .int b3), (4, .int x2), (5, .int x6)]) dX10_product_70 (by decide) rfl ?_
        refine jx_iload dX10_product_72 rfl ?_
        refine jx_bipush (v := 42) dX10_product_74 (by decide) ?_
        refine jx_icmp_ne (tgt := 87) dX10_product_76 (by decide) (fun c8 => ?_) (fun c8 => ?_)
        · rw [if_neg c8] at hf
          refine jx_iload dX10_product_87 rfl ?_
          refine jx_if_ne (tgt := 97) dX10_product_89 (by decide) (fun c9 => ?_) (fun c9 => ?_)
          · rw [if_neg c9] at hf
            refine jx_iload dX10_product_97 rfl ?_
            refine jx_bipush (v := 47) dX10_product_99 (by decide) ?_
            refine jx_icmp_ne (tgt := 111) dX10_product_101 (by decide) (fun c10 => ?_) (fun c10 => ?_)
            · rw [if_neg c10] at hf
              refine jx_iload_n dX10_product_111 rfl ?_
              refine jx_iload dX10_product_112 rfl ?_
              obtain ⟨c11, hf⟩ := jg_inv hf
              refine jx_irem dX10_product_114 (of_decide_eq_true c11) ?_
              obtain ⟨x12, hx12, hf⟩ := jl_inv hf
              refine jx_nm hx12 ?_
              refine jx_istore_n (ls' := [(0, .ref (E.2.2.2 + 48)), (1, .int b1), (2, .int x12), (3, .int b3), (4, .int x2), (5, .int x6)]) dX10_product_115 (by decide) rfl ?_
              obtain ⟨x13, hx13, hf⟩ := jl_inv hf
              refine jx_iinc (v := x13) (ls' := [(0, .ref (E.2.2.2 + 48)), (1, .int b1), (2, .int x12), (3, .int x13), (4, .int x2), (5, .int x6)]) dX10_product_116 rfl (by rw [hx13]; rfl) (by decide) rfl ?_
              refine jx_goto (tgt := 8) dX10_product_119 (by decide) ?_
              refine jx_pick [0, 1, 2, 3] rfl ?_
              exact ih _ _ _ _ _ _ hf
            · rw [if_pos c10] at hf
              refine jx_iload_n dX10_product_104 rfl ?_
              refine jx_iload dX10_product_105 rfl ?_
              obtain ⟨c14, hf⟩ := jg_inv hf
              refine jx_idiv dX10_product_107 (of_decide_eq_true c14) ?_
              refine jx_goto (tgt := 115) dX10_product_108 (by decide) ?_
              obtain ⟨x15, hx15, hf⟩ := jl_inv hf
              refine jx_nm hx15 ?_
              refine jx_istore_n (ls' := [(0, .ref (E.2.2.2 + 48)), (1, .int b1), (2, .int x15), (3, .int b3), (4, .int x2), (5, .int x6)]) dX10_product_115 (by decide) rfl ?_
              obtain ⟨x16, hx16, hf⟩ := jl_inv hf
              refine jx_iinc (v := x16) (ls' := [(0, .ref (E.2.2.2 + 48)), (1, .int b1), (2, .int x15), (3, .int x16), (4, .int x2), (5, .int x6)]) dX10_product_116 rfl (by rw [hx16]; rfl) (by decide) rfl ?_
              refine jx_goto (tgt := 8) dX10_product_119 (by decide) ?_
              refine jx_pick [0, 1, 2, 3] rfl ?_
              exact ih _ _ _ _ _ _ hf
          · rw [if_pos c9] at hf
            refine jx_iconst (v := 0) dX10_product_92 (by decide) ?_
            refine jx_istore_n (ls' := [(0, .ref (E.2.2.2 + 48)), (1, .int b1), (2, .int 0), (3, .int b3), (4, .int x2), (5, .int x6)]) dX10_product_93 (by decide) rfl ?_
            refine jx_goto (tgt := 116) dX10_product_94 (by decide) ?_
            obtain ⟨x17, hx17, hf⟩ := jl_inv hf
            refine jx_iinc (v := x17) (ls' := [(0, .ref (E.2.2.2 + 48)), (1, .int b1), (2, .int 0), (3, .int x17), (4, .int x2), (5, .int x6)]) dX10_product_116 rfl (by rw [hx17]; rfl) (by decide) rfl ?_
            refine jx_goto (tgt := 8) dX10_product_119 (by decide) ?_
            refine jx_pick [0, 1, 2, 3] rfl ?_
            exact ih _ _ _ _ _ _ hf
        · rw [if_pos c8] at hf
          refine jx_iload_n dX10_product_79 rfl ?_
          refine jx_iload dX10_product_80 rfl ?_
          refine jx_imul dX10_product_82 ?_
          obtain ⟨x18, hx18, hf⟩ := jl_inv hf
          refine jx_nm hx18 ?_
          refine jx_istore_n (ls' := [(0, .ref (E.2.2.2 + 48)), (1, .int b1), (2, .int x18), (3, .int b3), (4, .int x2), (5, .int x6)]) dX10_product_83 (by decide) rfl ?_
          refine jx_goto (tgt := 116) dX10_product_84 (by decide) ?_
          obtain ⟨x19, hx19, hf⟩ := jl_inv hf
          refine jx_iinc (v := x19) (ls' := [(0, .ref (E.2.2.2 + 48)), (1, .int b1), (2, .int x18), (3, .int x19), (4, .int x2), (5, .int x6)]) dX10_product_116 rfl (by rw [hx19]; rfl) (by decide) rfl ?_
          refine jx_goto (tgt := 8) dX10_product_119 (by decide) ?_
          refine jx_pick [0, 1, 2, 3] rfl ?_
          exact ih _ _ _ _ _ _ hf
      · rw [if_neg c3] at hf
        refine jx_iload dX10_product_38 rfl ?_
        refine jx_bipush (v := 47) dX10_product_40 (by decide) ?_
        refine jx_icmp_eq (tgt := 55) dX10_product_42 (by decide) (fun c20 => ?_) (fun c20 => ?_)
        · rw [if_pos c20] at hf
          refine jx_aload_n dX10_product_55 rfl ?_
          refine jx_dup dX10_product_56 rfl ?_
          refine jx_geti dX10_product_57 fl_X10_41 kj_48 sr_48_4 ?_
          refine jx_iconst (v := 1) dX10_product_60 (by decide) ?_
          refine jx_iadd dX10_product_61 ?_
          refine jx_puti dX10_product_62 fp_X10_41 kj_48 sr_48_4 rfl rfl ?_
          obtain ⟨w21, hw21, hf⟩ := jl_inv hf
          refine jx_nw hw21 ?_
          refine jx_aload_n dX10_product_65 rfl ?_
          refine jx_iload_n dX10_product_66 rfl ?_
          obtain ⟨x23, w24, hq22, hf⟩ := jbd2_inv hf
          refine jx_cVi (a := 48) (As := [.int b1]) (rest := []) dX10_product_67 ml_X10_98 mv_X10_unit (s_X10_unit hE hkt htot hq22) rfl rfl jc_48 (by omega) (Nat.le_of_ble_eq_true rfl) ?_
          refine jx_istore (ls' := [(0, .ref (E.2.2.2 + 48)), (1, .int b1), (2, .int b2), (3, .int b3), (4, .int x2), (5, .int x23)]) dX10_product_70 (by decide) rfl ?_
          refine jx_iload dX10_product_72 rfl ?_
          refine jx_bipush (v := 42) dX10_product_74 (by decide) ?_
          refine jx_icmp_ne (tgt := 87) dX10_product_76 (by decide) (fun c25 => ?_) (fun c25 => ?_)
          · rw [if_neg c25] at hf
            refine jx_iload dX10_product_87 rfl ?_
            refine jx_if_ne (tgt := 97) dX10_product_89 (by decide) (fun c26 => ?_) (fun c26 => ?_)
            · rw [if_neg c26] at hf
              refine jx_iload dX10_product_97 rfl ?_
              refine jx_bipush (v := 47) dX10_product_99 (by decide) ?_
              refine jx_icmp_ne (tgt := 111) dX10_product_101 (by decide) (fun c27 => ?_) (fun c27 => ?_)
              · rw [if_neg c27] at hf
                refine jx_iload_n dX10_product_111 rfl ?_
                refine jx_iload dX10_product_112 rfl ?_
                obtain ⟨c28, hf⟩ := jg_inv hf
                refine jx_irem dX10_product_114 (of_decide_eq_true c28) ?_
                obtain ⟨x29, hx29, hf⟩ := jl_inv hf
                refine jx_nm hx29 ?_
                refine jx_istore_n (ls' := [(0, .ref (E.2.2.2 + 48)), (1, .int b1), (2, .int x29), (3, .int b3), (4, .int x2), (5, .int x23)]) dX10_product_115 (by decide) rfl ?_
                obtain ⟨x30, hx30, hf⟩ := jl_inv hf
                refine jx_iinc (v := x30) (ls' := [(0, .ref (E.2.2.2 + 48)), (1, .int b1), (2, .int x29), (3, .int x30), (4, .int x2), (5, .int x23)]) dX10_product_116 rfl (by rw [hx30]; rfl) (by decide) rfl ?_
                refine jx_goto (tgt := 8) dX10_product_119 (by decide) ?_
                refine jx_pick [0, 1, 2, 3] rfl ?_
                exact ih _ _ _ _ _ _ hf
              · rw [if_pos c27] at hf
                refine jx_iload_n dX10_product_104 rfl ?_
                refine jx_iload dX10_product_105 rfl ?_
                obtain ⟨c31, hf⟩ := jg_inv hf
                refine jx_idiv dX10_product_107 (of_decide_eq_true c31) ?_
                refine jx_goto (tgt := 115) dX10_product_108 (by decide) ?_
                obtain ⟨x32, hx32, hf⟩ := jl_inv hf
                refine jx_nm hx32 ?_
                refine jx_istore_n (ls' := [(0, .ref (E.2.2.2 + 48)), (1, .int b1), (2, .int x32), (3, .int b3), (4, .int x2), (5, .int x23)]) dX10_product_115 (by decide) rfl ?_
                obtain ⟨x33, hx33, hf⟩ := jl_inv hf
                refine jx_iinc (v := x33) (ls' := [(0, .ref (E.2.2.2 + 48)), (1, .int b1), (2, .int x32), (3, .int x33), (4, .int x2), (5, .int x23)]) dX10_product_116 rfl (by rw [hx33]; rfl) (by decide) rfl ?_
                refine jx_goto (tgt := 8) dX10_product_119 (by decide) ?_
                refine jx_pick [0, 1, 2, 3] rfl ?_
                exact ih _ _ _ _ _ _ hf
            · rw [if_pos c26] at hf
              refine jx_iconst (v := 0) dX10_product_92 (by decide) ?_
              refine jx_istore_n (ls' := [(0, .ref (E.2.2.2 + 48)), (1, .int b1), (2, .int 0), (3, .int b3), (4, .int x2), (5, .int x23)]) dX10_product_93 (by decide) rfl ?_
              refine jx_goto (tgt := 116) dX10_product_94 (by decide) ?_
              obtain ⟨x34, hx34, hf⟩ := jl_inv hf
              refine jx_iinc (v := x34) (ls' := [(0, .ref (E.2.2.2 + 48)), (1, .int b1), (2, .int 0), (3, .int x34), (4, .int x2), (5, .int x23)]) dX10_product_116 rfl (by rw [hx34]; rfl) (by decide) rfl ?_
              refine jx_goto (tgt := 8) dX10_product_119 (by decide) ?_
              refine jx_pick [0, 1, 2, 3] rfl ?_
              exact ih _ _ _ _ _ _ hf
          · rw [if_pos c25] at hf
            refine jx_iload_n dX10_product_79 rfl ?_
            refine jx_iload dX10_product_80 rfl ?_
            refine jx_imul dX10_product_82 ?_
            obtain ⟨x35, hx35, hf⟩ := jl_inv hf
            refine jx_nm hx35 ?_
            refine jx_istore_n (ls' := [(0, .ref (E.2.2.2 + 48)), (1, .int b1), (2, .int x35), (3, .int b3), (4, .int x2), (5, .int x23)]) dX10_product_83 (by decide) rfl ?_
            refine jx_goto (tgt := 116) dX10_product_84 (by decide) ?_
            obtain ⟨x36, hx36, hf⟩ := jl_inv hf
            refine jx_iinc (v := x36) (ls' := [(0, .ref (E.2.2.2 + 48)), (1, .int b1), (2, .int x35), (3, .int x36), (4, .int x2), (5, .int x23)]) dX10_product_116 rfl (by rw [hx36]; rfl) (by decide) rfl ?_
            refine jx_goto (tgt := 8) dX10_product_119 (by decide) ?_
            refine jx_pick [0, 1, 2, 3] rfl ?_
            exact ih _ _ _ _ _ _ hf
        · rw [if_neg c20] at hf
          refine jx_iload dX10_product_45 rfl ?_
          refine jx_bipush (v := 37) dX10_product_47 (by decide) ?_
          refine jx_icmp_eq (tgt := 55) dX10_product_49 (by decide) (fun c37 => ?_) (fun c37 => ?_)
          · rw [if_pos c37] at hf
            refine jx_aload_n dX10_product_55 rfl ?_
            refine jx_dup dX10_product_56 rfl ?_
            refine jx_geti dX10_product_57 fl_X10_41 kj_48 sr_48_4 ?_
            refine jx_iconst (v := 1) dX10_product_60 (by decide) ?_
            refine jx_iadd dX10_product_61 ?_
            refine jx_puti dX10_product_62 fp_X10_41 kj_48 sr_48_4 rfl rfl ?_
            obtain ⟨w38, hw38, hf⟩ := jl_inv hf
            refine jx_nw hw38 ?_
            refine jx_aload_n dX10_product_65 rfl ?_
            refine jx_iload_n dX10_product_66 rfl ?_
            obtain ⟨x40, w41, hq39, hf⟩ := jbd2_inv hf
            refine jx_cVi (a := 48) (As := [.int b1]) (rest := []) dX10_product_67 ml_X10_98 mv_X10_unit (s_X10_unit hE hkt htot hq39) rfl rfl jc_48 (by omega) (Nat.le_of_ble_eq_true rfl) ?_
            refine jx_istore (ls' := [(0, .ref (E.2.2.2 + 48)), (1, .int b1), (2, .int b2), (3, .int b3), (4, .int x2), (5, .int x40)]) dX10_product_70 (by decide) rfl ?_
            refine jx_iload dX10_product_72 rfl ?_
            refine jx_bipush (v := 42) dX10_product_74 (by decide) ?_
            refine jx_icmp_ne (tgt := 87) dX10_product_76 (by decide) (fun c42 => ?_) (fun c42 => ?_)
            · rw [if_neg c42] at hf
              refine jx_iload dX10_product_87 rfl ?_
              refine jx_if_ne (tgt := 97) dX10_product_89 (by decide) (fun c43 => ?_) (fun c43 => ?_)
              · rw [if_neg c43] at hf
                refine jx_iload dX10_product_97 rfl ?_
                refine jx_bipush (v := 47) dX10_product_99 (by decide) ?_
                refine jx_icmp_ne (tgt := 111) dX10_product_101 (by decide) (fun c44 => ?_) (fun c44 => ?_)
                · rw [if_neg c44] at hf
                  refine jx_iload_n dX10_product_111 rfl ?_
                  refine jx_iload dX10_product_112 rfl ?_
                  obtain ⟨c45, hf⟩ := jg_inv hf
                  refine jx_irem dX10_product_114 (of_decide_eq_true c45) ?_
                  obtain ⟨x46, hx46, hf⟩ := jl_inv hf
                  refine jx_nm hx46 ?_
                  refine jx_istore_n (ls' := [(0, .ref (E.2.2.2 + 48)), (1, .int b1), (2, .int x46), (3, .int b3), (4, .int x2), (5, .int x40)]) dX10_product_115 (by decide) rfl ?_
                  obtain ⟨x47, hx47, hf⟩ := jl_inv hf
                  refine jx_iinc (v := x47) (ls' := [(0, .ref (E.2.2.2 + 48)), (1, .int b1), (2, .int x46), (3, .int x47), (4, .int x2), (5, .int x40)]) dX10_product_116 rfl (by rw [hx47]; rfl) (by decide) rfl ?_
                  refine jx_goto (tgt := 8) dX10_product_119 (by decide) ?_
                  refine jx_pick [0, 1, 2, 3] rfl ?_
                  exact ih _ _ _ _ _ _ hf
                · rw [if_pos c44] at hf
                  refine jx_iload_n dX10_product_104 rfl ?_
                  refine jx_iload dX10_product_105 rfl ?_
                  obtain ⟨c48, hf⟩ := jg_inv hf
                  refine jx_idiv dX10_product_107 (of_decide_eq_true c48) ?_
                  refine jx_goto (tgt := 115) dX10_product_108 (by decide) ?_
                  obtain ⟨x49, hx49, hf⟩ := jl_inv hf
                  refine jx_nm hx49 ?_
                  refine jx_istore_n (ls' := [(0, .ref (E.2.2.2 + 48)), (1, .int b1), (2, .int x49), (3, .int b3), (4, .int x2), (5, .int x40)]) dX10_product_115 (by decide) rfl ?_
                  obtain ⟨x50, hx50, hf⟩ := jl_inv hf
                  refine jx_iinc (v := x50) (ls' := [(0, .ref (E.2.2.2 + 48)), (1, .int b1), (2, .int x49), (3, .int x50), (4, .int x2), (5, .int x40)]) dX10_product_116 rfl (by rw [hx50]; rfl) (by decide) rfl ?_
                  refine jx_goto (tgt := 8) dX10_product_119 (by decide) ?_
                  refine jx_pick [0, 1, 2, 3] rfl ?_
                  exact ih _ _ _ _ _ _ hf
              · rw [if_pos c43] at hf
                refine jx_iconst (v := 0) dX10_product_92 (by decide) ?_
                refine jx_istore_n (ls' := [(0, .ref (E.2.2.2 + 48)), (1, .int b1), (2, .int 0), (3, .int b3), (4, .int x2), (5, .int x40)]) dX10_product_93 (by decide) rfl ?_
                refine jx_goto (tgt := 116) dX10_product_94 (by decide) ?_
                obtain ⟨x51, hx51, hf⟩ := jl_inv hf
                refine jx_iinc (v := x51) (ls' := [(0, .ref (E.2.2.2 + 48)), (1, .int b1), (2, .int 0), (3, .int x51), (4, .int x2), (5, .int x40)]) dX10_product_116 rfl (by rw [hx51]; rfl) (by decide) rfl ?_
                refine jx_goto (tgt := 8) dX10_product_119 (by decide) ?_
                refine jx_pick [0, 1, 2, 3] rfl ?_
                exact ih _ _ _ _ _ _ hf
            · rw [if_pos c42] at hf
              refine jx_iload_n dX10_product_79 rfl ?_
              refine jx_iload dX10_product_80 rfl ?_
              refine jx_imul dX10_product_82 ?_
              obtain ⟨x52, hx52, hf⟩ := jl_inv hf
              refine jx_nm hx52 ?_
              refine jx_istore_n (ls' := [(0, .ref (E.2.2.2 + 48)), (1, .int b1), (2, .int x52), (3, .int b3), (4, .int x2), (5, .int x40)]) dX10_product_83 (by decide) rfl ?_
              refine jx_goto (tgt := 116) dX10_product_84 (by decide) ?_
              obtain ⟨x53, hx53, hf⟩ := jl_inv hf
              refine jx_iinc (v := x53) (ls' := [(0, .ref (E.2.2.2 + 48)), (1, .int b1), (2, .int x52), (3, .int x53), (4, .int x2), (5, .int x40)]) dX10_product_116 rfl (by rw [hx53]; rfl) (by decide) rfl ?_
              refine jx_goto (tgt := 8) dX10_product_119 (by decide) ?_
              refine jx_pick [0, 1, 2, 3] rfl ?_
              exact ih _ _ _ _ _ _ hf
          · rw [if_neg c37] at hf
            refine jx_goto (tgt := 122) dX10_product_52 (by decide) ?_
            refine jx_iload_n dX10_product_122 rfl ?_
            cases hf
            exact jx_iret dX10_product_123 rfl rfl
def f_X10_product (tot : Int32 → jw → Option (Int32 × jw)) (a1 : Int32) (w : jw) : Option (Int32 × jw) := jbd2 (f_X10_unit tot a1 w) fun x55 w56 => (l_X10_product tot jfu a1 x55 0 w56)
set_option maxRecDepth 20000 in
set_option maxHeartbeats 2000000 in
theorem s_X10_product {E : jE} (hE : jfull E) {kt : Nat} {tot : Int32 → jw → Option (Int32 × jw)} (hkt : 5 ≤ kt) (htot : ∀ (a : Int32) (w : jw) (v : Int32) (w' : jw), tot a w = some (v, w') → jC E m_X10_total kt [.ref (E.2.2.2 + 48), .int a] w (some (.int v)) w') {a1 : Int32} {w w' : jw} {v : Int32} (hf : f_X10_product tot a1 w = some (v, w')) : jC E m_X10_product (kt + 2) [.ref (E.2.2.2 + 48), .int a1] w (some (.int v)) w' := by
  refine jC_of (ls := [(0, .ref (E.2.2.2 + 48)), (1, .int a1)]) (by decide) rfl (fun _ => trivial) (Nat.le_of_ble_eq_true rfl) rfl ⟨.int, rfl, rfl⟩ ?_
  unfold f_X10_product at hf
  refine jx_aload_n dX10_product_0 rfl ?_
  refine jx_iload_n dX10_product_1 rfl ?_
  obtain ⟨x55, w56, hq54, hf⟩ := jbd2_inv hf
  refine jx_cVi (a := 48) (As := [.int a1]) (rest := []) dX10_product_2 ml_X10_98 mv_X10_unit (s_X10_unit hE hkt htot hq54) rfl rfl jc_48 (by omega) (Nat.le_of_ble_eq_true rfl) ?_
  refine jx_istore_n (ls' := [(0, .ref (E.2.2.2 + 48)), (1, .int a1), (2, .int x55)]) dX10_product_5 (by decide) rfl ?_
  refine jx_iconst (v := 0) dX10_product_6 (by decide) ?_
  refine jx_istore_n (ls' := [(0, .ref (E.2.2.2 + 48)), (1, .int a1), (2, .int x55), (3, .int 0)]) dX10_product_7 (by decide) rfl ?_
  exact sl_X10_product hE hkt htot jfu _ _ _ _ _ _ hf
def l_X10_total (tot : Int32 → jw → Option (Int32 × jw)) : Nat → Int32 → Int32 → Int32 → jw → Option (Int32 × jw)
  | 0, _, _, _, _ => none
  | n + 1, b1, b2, b3, w => (if 400 ≤ b3 then some (b2, w) else jl (rat (w.2.2.2 4) (w.1 48 4) : Int32) fun x2 => (if x2 = 43 then jl (jsetI w 48 4 ((w.1 48 4) + 1)) fun w4 => jbd2 (f_X10_product tot b1 w4) fun x6 w7 => (if x2 = 43 then jl (b2 + x6 : Int32) fun x11 => jl (b3 + 1) fun x12 => (l_X10_total tot n b1 x11 x12 w7) else jl (b2 - x6 : Int32) fun x9 => jl (b3 + 1) fun x10 => (l_X10_total tot n b1 x9 x10 w7)) else (if x2 = 45 then jl (jsetI w 48 4 ((w.1 48 4) + 1)) fun w14 => jbd2 (f_X10_product tot b1 w14) fun x16 w17 => (if x2 = 43 then jl (b2 + x16 : Int32) fun x21 => jl (b3 + 1) fun x22 => (l_X10_total tot n b1 x21 x22 w17) else jl (b2 - x16 : Int32) fun x19 => jl (b3 + 1) fun x20 => (l_X10_total tot n b1 x19 x20 w17)) else some (b2, w))))
set_option maxRecDepth 20000 in
set_option maxHeartbeats 2000000 in
theorem sl_X10_total {E : jE} (hE : jfull E) {kt : Nat} {tot : Int32 → jw → Option (Int32 × jw)} (hkt : 5 ≤ kt) (htot : ∀ (a : Int32) (w : jw) (v : Int32) (w' : jw), tot a w = some (v, w') → jC E m_X10_total kt [.ref (E.2.2.2 + 48), .int a] w (some (.int v)) w') : ∀ (n : Nat) (b1 : Int32) (b2 : Int32) (b3 : Int32) (w : jw) (v : Int32) (w' : jw), l_X10_total tot n b1 b2 b3 w = some (v, w') → jX E m_X10_total (kt + 3) 8 [(0, .ref (E.2.2.2 + 48)), (1, .int b1), (2, .int b2), (3, .int b3)] [] w (some (.int v)) w' := by
  intro n
  induction n with
  | zero => intro b1 b2 b3 w v w' hf; cases hf
  | succ n ih =>
    intro b1 b2 b3 w v w' hf
    unfold l_X10_total at hf
    refine jx_iload_n dX10_total_8 rfl ?_
    refine jx_sipush (v := 400) dX10_total_9 (by decide) ?_
    refine jx_icmp_ge (tgt := 90) dX10_total_12 (by decide) (fun c1 => ?_) (fun c1 => ?_)
    · rw [if_pos c1] at hf
      refine jx_iload_n dX10_total_90 rfl ?_
      cases hf
      exact jx_iret dX10_total_91 rfl rfl
    · rw [if_neg c1] at hf
      refine jx_aload_n dX10_total_15 rfl ?_
      refine jx_getr dX10_total_16 fl_X10_9 kj_48 sr_48_0 ?_
      refine jx_getr dX10_total_19 fl_X10_32 kj_3 sr_3_1 ?_
      refine jx_aload_n dX10_total_22 rfl ?_
      refine jx_geti dX10_total_23 fl_X10_41 kj_48 sr_48_4 ?_
      refine jx_cVi (a := 4) (As := [.int (w.1 48 4)]) (rest := []) dX10_total_26 ml_X10_37 mv_X8_at (c_row_at (k := 0) kj_4 (by decide)) rfl rfl jc_4 (by omega) (Nat.le_of_ble_eq_true rfl) ?_
      obtain ⟨x2, hx2, hf⟩ := jl_inv hf
      refine jx_nm hx2 ?_
      refine jx_istore (ls' := [(0, .ref (E.2.2.2 + 48)), (1, .int b1), (2, .int b2), (3, .int b3), (4, .int x2)]) dX10_total_29 (by decide) rfl ?_
      refine jx_iload dX10_total_31 rfl ?_
      refine jx_bipush (v := 43) dX10_total_33 (by decide) ?_
      refine jx_icmp_eq (tgt := 48) dX10_total_35 (by decide) (fun c3 => ?_) (fun c3 => ?_)
      · rw [if_pos c3] at hf
        refine jx_aload_n dX10_total_48 rfl ?_
        refine jx_dup dX10_total_49 rfl ?_
        refine jx_geti dX10_total_50 fl_X10_41 kj_48 sr_48_4 ?_
        refine jx_iconst (v := 1) dX10_total_53 (by decide) ?_
        refine jx_iadd dX10_total_54 ?_
        refine jx_puti dX10_total_55 fp_X10_41 kj_48 sr_48_4 rfl rfl ?_
        obtain ⟨w4, hw4, hf⟩ := jl_inv hf
        refine jx_nw hw4 ?_
        refine jx_aload_n dX10_total_58 rfl ?_
        refine jx_iload_n dX10_total_59 rfl ?_
        obtain ⟨x6, w7, hq5, hf⟩ := jbd2_inv hf
        refine jx_cVi (a := 48) (As := [.int b1]) (rest := []) dX10_total_60 ml_X10_95 mv_X10_product (s_X10_product hE hkt htot hq5) rfl rfl jc_48 (by omega) (Nat.le_of_ble_eq_true rfl) ?_
        refine jx_istore (ls' := [(0, .ref (E.2.2.2 + 48)), (1, .int b1), (2, .int b2), (3, .int b3), (4, .int x2), (5, .int x6)]) dX10_total_63 (by decide) rfl ?_
        refine jx_iload dX10_total_65 rfl ?_
        refine jx_bipush (v := 43) dX10_total_67 (by decide) ?_
        refine jx_icmp_ne (tgt := 79) dX10_total_69 (by decide) (fun c8 => ?_) (fun c8 => ?_)
        · rw [if_neg c8] at hf
          refine jx_iload_n dX10_total_79 rfl ?_
          refine jx_iload dX10_total_80 rfl ?_
          refine jx_isub dX10_total_82 ?_
          obtain ⟨x9, hx9, hf⟩ := jl_inv hf
          refine jx_nm hx9 ?_
          refine jx_istore_n (ls' := [(0, .ref (E.2.2.2 + 48)), (1, .int b1), (2, .int x9), (3, .int b3), (4, .int x2), (5, .int x6)]) dX10_total_83 (by decide) rfl ?_
          obtain ⟨x10, hx10, hf⟩ := jl_inv hf
          refine jx_iinc (v := x10) (ls' := [(0, .ref (E.2.2.2 + 48)), (1, .int b1), (2, .int x9), (3, .int x10), (4, .int x2), (5, .int x6)]) dX10_total_84 rfl (by rw [hx10]; rfl) (by decide) rfl ?_
          refine jx_goto (tgt := 8) dX10_total_87 (by decide) ?_
          refine jx_pick [0, 1, 2, 3] rfl ?_
          exact ih _ _ _ _ _ _ hf
        · rw [if_pos c8] at hf
          refine jx_iload_n dX10_total_72 rfl ?_
          refine jx_iload dX10_total_73 rfl ?_
          refine jx_iadd dX10_total_75 ?_
          refine jx_goto (tgt := 83) dX10_total_76 (by decide) ?_
          obtain ⟨x11, hx11, hf⟩ := jl_inv hf
          refine jx_nm hx11 ?_
          refine jx_istore_n (ls' := [(0, .ref (E.2.2.2 + 48)), (1, .int b1), (2, .int x11), (3, .int b3), (4, .int x2), (5, .int x6)]) dX10_total_83 (by decide) rfl ?_
          obtain ⟨x12, hx12, hf⟩ := jl_inv hf
          refine jx_iinc (v := x12) (ls' := [(0, .ref (E.2.2.2 + 48)), (1, .int b1), (2, .int x11), (3, .int x12), (4, .int x2), (5, .int x6)]) dX10_total_84 rfl (by rw [hx12]; rfl) (by decide) rfl ?_
          refine jx_goto (tgt := 8) dX10_total_87 (by decide) ?_
          refine jx_pick [0, 1, 2, 3] rfl ?_
          exact ih _ _ _ _ _ _ hf
      · rw [if_neg c3] at hf
        refine jx_iload dX10_total_38 rfl ?_
        refine jx_bipush (v := 45) dX10_total_40 (by decide) ?_
        refine jx_icmp_eq (tgt := 48) dX10_total_42 (by decide) (fun c13 => ?_) (fun c13 => ?_)
        · rw [if_pos c13] at hf
          refine jx_aload_n dX10_total_48 rfl ?_
          refine jx_dup dX10_total_49 rfl ?_
          refine jx_geti dX10_total_50 fl_X10_41 kj_48 sr_48_4 ?_
          refine jx_iconst (v := 1) dX10_total_53 (by decide) ?_
          refine jx_iadd dX10_total_54 ?_
          refine jx_puti dX10_total_55 fp_X10_41 kj_48 sr_48_4 rfl rfl ?_
          obtain ⟨w14, hw14, hf⟩ := jl_inv hf
          refine jx_nw hw14 ?_
          refine jx_aload_n dX10_total_58 rfl ?_
          refine jx_iload_n dX10_total_59 rfl ?_
          obtain ⟨x16, w17, hq15, hf⟩ := jbd2_inv hf
          refine jx_cVi (a := 48) (As := [.int b1]) (rest := []) dX10_total_60 ml_X10_95 mv_X10_product (s_X10_product hE hkt htot hq15) rfl rfl jc_48 (by omega) (Nat.le_of_ble_eq_true rfl) ?_
          refine jx_istore (ls' := [(0, .ref (E.2.2.2 + 48)), (1, .int b1), (2, .int b2), (3, .int b3), (4, .int x2), (5, .int x16)]) dX10_total_63 (by decide) rfl ?_
          refine jx_iload dX10_total_65 rfl ?_
          refine jx_bipush (v := 43) dX10_total_67 (by decide) ?_
          refine jx_icmp_ne (tgt := 79) dX10_total_69 (by decide) (fun c18 => ?_) (fun c18 => ?_)
          · rw [if_neg c18] at hf
            refine jx_iload_n dX10_total_79 rfl ?_
            refine jx_iload dX10_total_80 rfl ?_
            refine jx_isub dX10_total_82 ?_
            obtain ⟨x19, hx19, hf⟩ := jl_inv hf
            refine jx_nm hx19 ?_
            refine jx_istore_n (ls' := [(0, .ref (E.2.2.2 + 48)), (1, .int b1), (2, .int x19), (3, .int b3), (4, .int x2), (5, .int x16)]) dX10_total_83 (by decide) rfl ?_
            obtain ⟨x20, hx20, hf⟩ := jl_inv hf
            refine jx_iinc (v := x20) (ls' := [(0, .ref (E.2.2.2 + 48)), (1, .int b1), (2, .int x19), (3, .int x20), (4, .int x2), (5, .int x16)]) dX10_total_84 rfl (by rw [hx20]; rfl) (by decide) rfl ?_
            refine jx_goto (tgt := 8) dX10_total_87 (by decide) ?_
            refine jx_pick [0, 1, 2, 3] rfl ?_
            exact ih _ _ _ _ _ _ hf
          · rw [if_pos c18] at hf
            refine jx_iload_n dX10_total_72 rfl ?_
            refine jx_iload dX10_total_73 rfl ?_
            refine jx_iadd dX10_total_75 ?_
            refine jx_goto (tgt := 83) dX10_total_76 (by decide) ?_
            obtain ⟨x21, hx21, hf⟩ := jl_inv hf
            refine jx_nm hx21 ?_
            refine jx_istore_n (ls' := [(0, .ref (E.2.2.2 + 48)), (1, .int b1), (2, .int x21), (3, .int b3), (4, .int x2), (5, .int x16)]) dX10_total_83 (by decide) rfl ?_
            obtain ⟨x22, hx22, hf⟩ := jl_inv hf
            refine jx_iinc (v := x22) (ls' := [(0, .ref (E.2.2.2 + 48)), (1, .int b1), (2, .int x21), (3, .int x22), (4, .int x2), (5, .int x16)]) dX10_total_84 rfl (by rw [hx22]; rfl) (by decide) rfl ?_
            refine jx_goto (tgt := 8) dX10_total_87 (by decide) ?_
            refine jx_pick [0, 1, 2, 3] rfl ?_
            exact ih _ _ _ _ _ _ hf
        · rw [if_neg c13] at hf
          refine jx_goto (tgt := 90) dX10_total_45 (by decide) ?_
          refine jx_iload_n dX10_total_90 rfl ?_
          cases hf
          exact jx_iret dX10_total_91 rfl rfl
def f_X10_totalB (tot : Int32 → jw → Option (Int32 × jw)) (a1 : Int32) (w : jw) : Option (Int32 × jw) := jbd2 (f_X10_product tot a1 w) fun x24 w25 => (l_X10_total tot jfu a1 x24 0 w25)
set_option maxRecDepth 20000 in
set_option maxHeartbeats 2000000 in
theorem s_X10_totalB {E : jE} (hE : jfull E) {kt : Nat} {tot : Int32 → jw → Option (Int32 × jw)} (hkt : 5 ≤ kt) (htot : ∀ (a : Int32) (w : jw) (v : Int32) (w' : jw), tot a w = some (v, w') → jC E m_X10_total kt [.ref (E.2.2.2 + 48), .int a] w (some (.int v)) w') {a1 : Int32} {w w' : jw} {v : Int32} (hf : f_X10_totalB tot a1 w = some (v, w')) : jC E m_X10_total (kt + 3) [.ref (E.2.2.2 + 48), .int a1] w (some (.int v)) w' := by
  refine jC_of (ls := [(0, .ref (E.2.2.2 + 48)), (1, .int a1)]) (by decide) rfl (fun _ => trivial) (Nat.le_of_ble_eq_true rfl) rfl ⟨.int, rfl, rfl⟩ ?_
  unfold f_X10_totalB at hf
  refine jx_aload_n dX10_total_0 rfl ?_
  refine jx_iload_n dX10_total_1 rfl ?_
  obtain ⟨x24, w25, hq23, hf⟩ := jbd2_inv hf
  refine jx_cVi (a := 48) (As := [.int a1]) (rest := []) dX10_total_2 ml_X10_95 mv_X10_product (s_X10_product hE hkt htot hq23) rfl rfl jc_48 (by omega) (Nat.le_of_ble_eq_true rfl) ?_
  refine jx_istore_n (ls' := [(0, .ref (E.2.2.2 + 48)), (1, .int a1), (2, .int x24)]) dX10_total_5 (by decide) rfl ?_
  refine jx_iconst (v := 0) dX10_total_6 (by decide) ?_
  refine jx_istore_n (ls' := [(0, .ref (E.2.2.2 + 48)), (1, .int a1), (2, .int x24), (3, .int 0)]) dX10_total_7 (by decide) rfl ?_
  exact sl_X10_total hE hkt htot jfu _ _ _ _ _ _ hf
def f_X10_totalN : Nat → Int32 → jw → Option (Int32 × jw)
  | 0, _, _ => none
  | n + 1, a, w => f_X10_totalB (f_X10_totalN n) a w
theorem s_X10_totalN {E : jE} (hE : jfull E) : ∀ (n : Nat) (a : Int32) (w : jw) (v : Int32) (w' : jw), f_X10_totalN n a w = some (v, w') → jC E m_X10_total (3 * n + 5) [.ref (E.2.2.2 + 48), .int a] w (some (.int v)) w' := by
  intro n
  induction n with
  | zero => intro a w v w' h; cases h
  | succ n ih =>
    intro a w v w' h
    exact s_X10_totalB hE (kt := 3 * n + 5) (by omega) ih h
def f_X10_total (a : Int32) (w : jw) : Option (Int32 × jw) := f_X10_totalN 8 a w
theorem s_X10_total {E : jE} (hE : jfull E) {a : Int32} {w w' : jw} {v : Int32} (hf : f_X10_total a w = some (v, w')) : jC E m_X10_total 29 [.ref (E.2.2.2 + 48), .int a] w (some (.int v)) w' := s_X10_totalN hE 8 a w v w' hf
