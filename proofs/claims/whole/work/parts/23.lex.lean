/-! the Lexer's methods that look at texts -/
theorem pnX4 : plainName RX4 = true := by decide
theorem pnX11 : plainName RX11 = true := by decide
theorem c_charx {E : jE} {A : (Nat → Nat) × Option Nat} {i : Nat} {w : jw} {x : Int32} (hi : i < 12) (h : jin x (slen.getD i 0) = true) : jC E (m_J0_charAt A) 3 [.ref (A.1 i), .int x] w (some (.int (sch i (Int32.toNatClampNeg x)))) w := by
  simp only [jin, Bool.and_eq_true, decide_eq_true_eq] at h
  obtain ⟨j, hj, rfl⟩ := nI_of h.1
  have e := h.2
  rw [nI_clamp hj] at e ⊢
  exact c_char hi e
abbrev ma_X4_spells (A : (Nat → Nat) × Option Nat) : jm := (RX4, yX4_spells, cX4_spells, 5, (some .boolean), Zs A)
theorem mva_X4_spells {A : (Nat → Nat) × Option Nat} : jMv (ma_X4_spells A) 3 := mv_X4_spells
abbrev ma_X4_kindOfWord (A : (Nat → Nat) × Option Nat) : jm := (RX4, yX4_kindOfWord, cX4_kindOfWord, 3, (some .int), Zs A)
theorem mva_X4_kindOfWord {A : (Nat → Nat) × Option Nat} : jMv (ma_X4_kindOfWord A) 2 := mv_X4_kindOfWord
abbrev ma_X4_kindOfVar (A : (Nat → Nat) × Option Nat) : jm := (RX4, yX4_kindOfVar, cX4_kindOfVar, 3, (some .int), Zs A)
theorem mva_X4_kindOfVar {A : (Nat → Nat) × Option Nat} : jMv (ma_X4_kindOfVar A) 2 := mv_X4_kindOfVar
abbrev ma_X4_lexWord (A : (Nat → Nat) × Option Nat) : jm := (RX4, yX4_lexWord, cX4_lexWord, 3, (some .int), Zs A)
theorem mva_X4_lexWord {A : (Nat → Nat) × Option Nat} : jMv (ma_X4_lexWord A) 1 := mv_X4_lexWord
abbrev ma_X4_lexOne (A : (Nat → Nat) × Option Nat) : jm := (RX4, yX4_lexOne, cX4_lexOne, 3, (some .int), Zs A)
theorem mva_X4_lexOne {A : (Nat → Nat) × Option Nat} : jMv (ma_X4_lexOne A) 1 := mv_X4_lexOne
abbrev ma_X4_lexAll (A : (Nat → Nat) × Option Nat) : jm := (RX4, yX4_lexAll, cX4_lexAll, 4, none, Zs A)
theorem mva_X4_lexAll {A : (Nat → Nat) × Option Nat} : jMv (ma_X4_lexAll A) 0 := mv_X4_lexAll
abbrev ma_X11_read (A : (Nat → Nat) × Option Nat) : jm := (RX11, yX11_read, cX11_read, 1, (some .int), Zs A)
theorem mva_X11_read {A : (Nat → Nat) × Option Nat} : jMv (ma_X11_read A) 0 := mv_X11_read
def l_X4_spells_s0 : Nat → Int32 → Int32 → Int32 → jw → Option (Bool × jw)
  | 0, _, _, _, _ => none
  | n + 1, b1, b2, b4, w => (if (nI (slen.getD 0 0)) ≤ b4 then some (true, w) else jg (jin b4 (slen.getD 0 0)) ((if (rat (w.2.2.2 1) (b1 + b4)) = (sch 0 (Int32.toNatClampNeg b4)) then jl (b4 + 1) fun x4 => (l_X4_spells_s0 n b1 b2 x4 w) else some (false, w))))
set_option maxRecDepth 20000 in
set_option maxHeartbeats 2000000 in
theorem sl_X4_spells_s0 {E : jE} {A : (Nat → Nat) × Option Nat} (hE : jfull E) : ∀ (n : Nat) (b1 : Int32) (b2 : Int32) (b4 : Int32) (w : jw) (v : Bool) (w' : jw), l_X4_spells_s0 n b1 b2 b4 w = some (v, w') → jX E (ma_X4_spells A) 4 15 [(0, .ref (E.2.2.2 + 3)), (1, .int b1), (2, .int b2), (3, .ref (A.1 0)), (4, .int b4)] [] w (some (.int (jb v))) w' := by
  intro n
  induction n with
  | zero => intro b1 b2 b4 w v w' hf; cases hf
  | succ n ih =>
    intro b1 b2 b4 w v w' hf
    unfold l_X4_spells_s0 at hf
    refine jx_iload dX4_spells_15 rfl ?_
    refine jx_aload_n dX4_spells_17 rfl ?_
    refine jx_cVs (i := 0) (As := []) (rest := [.int b4]) rfl (by decide) dX4_spells_18 ml_x106 (mv_J0_length (A := A)) (c_slen (by decide)) rfl rfl rfl (by decide) (Nat.le_of_ble_eq_true rfl) (Zs_i rfl rfl) ?_
    refine jx_icmp_ge (tgt := 52) dX4_spells_21 (by decide) (fun c1 => ?_) (fun c1 => ?_)
    · rw [if_pos c1] at hf
      refine jx_iconst (v := 1) dX4_spells_52 (by decide) ?_
      cases hf
      exact jx_iret dX4_spells_53 rfl rfl
    · rw [if_neg c1] at hf
      refine jx_aload_n dX4_spells_24 rfl ?_
      refine jx_getr dX4_spells_25 fl_X4_9 kj_3 sr_3_0 ?_
      refine jx_iload_n dX4_spells_28 rfl ?_
      refine jx_iload dX4_spells_29 rfl ?_
      refine jx_iadd dX4_spells_31 ?_
      refine jx_cVi (a := 1) (As := [.int (b1 + b4)]) (rest := []) dX4_spells_32 ml_X4_39 mv_X8_at (c_row_at (k := 0) kj_1 (by decide)) rfl rfl jc_1 (by decide) (Nat.le_of_ble_eq_true rfl) ?_
      refine jx_aload_n dX4_spells_35 rfl ?_
      refine jx_iload dX4_spells_36 rfl ?_
      obtain ⟨c2, hf⟩ := jg_inv hf
      refine jx_cVs (i := 0) (As := [.int b4]) (rest := [.int (rat (w.2.2.2 1) (b1 + b4))]) rfl (by decide) dX4_spells_38 ml_x110 (mv_J0_charAt (A := A)) (c_charx (by decide) c2) rfl rfl rfl (by decide) (Nat.le_of_ble_eq_true rfl) (Zs_i rfl rfl) ?_
      refine jx_icmp_eq (tgt := 46) dX4_spells_41 (by decide) (fun c3 => ?_) (fun c3 => ?_)
      · rw [if_pos c3] at hf
        obtain ⟨x4, hx4, hf⟩ := jl_inv hf
        refine jx_iinc (v := x4) (ls' := [(0, .ref (E.2.2.2 + 3)), (1, .int b1), (2, .int b2), (3, .ref (A.1 0)), (4, .int x4)]) dX4_spells_46 rfl (by rw [hx4]; rfl) (show 4 < 5 by decide) rfl ?_
        refine jx_goto (tgt := 15) dX4_spells_49 (by decide) ?_
        exact ih _ _ _ _ _ _ hf
      · rw [if_neg c3] at hf
        refine jx_iconst (v := 0) dX4_spells_44 (by decide) ?_
        cases hf
        exact jx_iret dX4_spells_45 rfl rfl
def f_X4_spells_s0 (a1 : Int32) (a2 : Int32) (w : jw) : Option (Bool × jw) := (if (a2 - a1) = (nI (slen.getD 0 0)) then (l_X4_spells_s0 jfu a1 a2 0 w) else some (false, w))
set_option maxRecDepth 20000 in
set_option maxHeartbeats 2000000 in
theorem s_X4_spells_s0 {E : jE} {A : (Nat → Nat) × Option Nat} (hE : jfull E) {a1 : Int32} {a2 : Int32} {w w' : jw} {v : Bool} (hf : f_X4_spells_s0 a1 a2 w = some (v, w')) : jC E (ma_X4_spells A) 4 [.ref (E.2.2.2 + 3), .int a1, .int a2, .ref (A.1 0)] w (some (.int (jb v))) w' := by
  refine jC_of (ls := [(0, .ref (E.2.2.2 + 3)), (1, .int a1), (2, .int a2), (3, .ref (A.1 0))]) pnX4 rfl (fun _ => trivial) (Nat.le_of_ble_eq_true rfl) rfl jb_ans ?_
  unfold f_X4_spells_s0 at hf
  refine jx_iload_n dX4_spells_0 rfl ?_
  refine jx_iload_n dX4_spells_1 rfl ?_
  refine jx_isub dX4_spells_2 ?_
  refine jx_aload_n dX4_spells_3 rfl ?_
  refine jx_cVs (i := 0) (As := []) (rest := [.int (a2 - a1)]) rfl (by decide) dX4_spells_4 ml_x106 (mv_J0_length (A := A)) (c_slen (by decide)) rfl rfl rfl (by decide) (Nat.le_of_ble_eq_true rfl) (Zs_i rfl rfl) ?_
  refine jx_icmp_eq (tgt := 12) dX4_spells_7 (by decide) (fun c5 => ?_) (fun c5 => ?_)
  · rw [if_pos c5] at hf
    refine jx_iconst (v := 0) dX4_spells_12 (by decide) ?_
    refine jx_istore (ls' := [(0, .ref (E.2.2.2 + 3)), (1, .int a1), (2, .int a2), (3, .ref (A.1 0)), (4, .int 0)]) dX4_spells_13 (show 4 < 5 by decide) rfl ?_
    exact sl_X4_spells_s0 (A := A) hE jfu _ _ _ _ _ _ hf
  · rw [if_neg c5] at hf
    refine jx_iconst (v := 0) dX4_spells_10 (by decide) ?_
    cases hf
    exact jx_iret dX4_spells_11 rfl rfl
def l_X4_spells_s1 : Nat → Int32 → Int32 → Int32 → jw → Option (Bool × jw)
  | 0, _, _, _, _ => none
  | n + 1, b1, b2, b4, w => (if (nI (slen.getD 1 0)) ≤ b4 then some (true, w) else jg (jin b4 (slen.getD 1 0)) ((if (rat (w.2.2.2 1) (b1 + b4)) = (sch 1 (Int32.toNatClampNeg b4)) then jl (b4 + 1) fun x4 => (l_X4_spells_s1 n b1 b2 x4 w) else some (false, w))))
set_option maxRecDepth 20000 in
set_option maxHeartbeats 2000000 in
theorem sl_X4_spells_s1 {E : jE} {A : (Nat → Nat) × Option Nat} (hE : jfull E) : ∀ (n : Nat) (b1 : Int32) (b2 : Int32) (b4 : Int32) (w : jw) (v : Bool) (w' : jw), l_X4_spells_s1 n b1 b2 b4 w = some (v, w') → jX E (ma_X4_spells A) 4 15 [(0, .ref (E.2.2.2 + 3)), (1, .int b1), (2, .int b2), (3, .ref (A.1 1)), (4, .int b4)] [] w (some (.int (jb v))) w' := by
  intro n
  induction n with
  | zero => intro b1 b2 b4 w v w' hf; cases hf
  | succ n ih =>
    intro b1 b2 b4 w v w' hf
    unfold l_X4_spells_s1 at hf
    refine jx_iload dX4_spells_15 rfl ?_
    refine jx_aload_n dX4_spells_17 rfl ?_
    refine jx_cVs (i := 1) (As := []) (rest := [.int b4]) rfl (by decide) dX4_spells_18 ml_x106 (mv_J0_length (A := A)) (c_slen (by decide)) rfl rfl rfl (by decide) (Nat.le_of_ble_eq_true rfl) (Zs_i rfl rfl) ?_
    refine jx_icmp_ge (tgt := 52) dX4_spells_21 (by decide) (fun c1 => ?_) (fun c1 => ?_)
    · rw [if_pos c1] at hf
      refine jx_iconst (v := 1) dX4_spells_52 (by decide) ?_
      cases hf
      exact jx_iret dX4_spells_53 rfl rfl
    · rw [if_neg c1] at hf
      refine jx_aload_n dX4_spells_24 rfl ?_
      refine jx_getr dX4_spells_25 fl_X4_9 kj_3 sr_3_0 ?_
      refine jx_iload_n dX4_spells_28 rfl ?_
      refine jx_iload dX4_spells_29 rfl ?_
      refine jx_iadd dX4_spells_31 ?_
      refine jx_cVi (a := 1) (As := [.int (b1 + b4)]) (rest := []) dX4_spells_32 ml_X4_39 mv_X8_at (c_row_at (k := 0) kj_1 (by decide)) rfl rfl jc_1 (by decide) (Nat.le_of_ble_eq_true rfl) ?_
      refine jx_aload_n dX4_spells_35 rfl ?_
      refine jx_iload dX4_spells_36 rfl ?_
      obtain ⟨c2, hf⟩ := jg_inv hf
      refine jx_cVs (i := 1) (As := [.int b4]) (rest := [.int (rat (w.2.2.2 1) (b1 + b4))]) rfl (by decide) dX4_spells_38 ml_x110 (mv_J0_charAt (A := A)) (c_charx (by decide) c2) rfl rfl rfl (by decide) (Nat.le_of_ble_eq_true rfl) (Zs_i rfl rfl) ?_
      refine jx_icmp_eq (tgt := 46) dX4_spells_41 (by decide) (fun c3 => ?_) (fun c3 => ?_)
      · rw [if_pos c3] at hf
        obtain ⟨x4, hx4, hf⟩ := jl_inv hf
        refine jx_iinc (v := x4) (ls' := [(0, .ref (E.2.2.2 + 3)), (1, .int b1), (2, .int b2), (3, .ref (A.1 1)), (4, .int x4)]) dX4_spells_46 rfl (by rw [hx4]; rfl) (show 4 < 5 by decide) rfl ?_
        refine jx_goto (tgt := 15) dX4_spells_49 (by decide) ?_
        exact ih _ _ _ _ _ _ hf
      · rw [if_neg c3] at hf
        refine jx_iconst (v := 0) dX4_spells_44 (by decide) ?_
        cases hf
        exact jx_iret dX4_spells_45 rfl rfl
def f_X4_spells_s1 (a1 : Int32) (a2 : Int32) (w : jw) : Option (Bool × jw) := (if (a2 - a1) = (nI (slen.getD 1 0)) then (l_X4_spells_s1 jfu a1 a2 0 w) else some (false, w))
set_option maxRecDepth 20000 in
set_option maxHeartbeats 2000000 in
theorem s_X4_spells_s1 {E : jE} {A : (Nat → Nat) × Option Nat} (hE : jfull E) {a1 : Int32} {a2 : Int32} {w w' : jw} {v : Bool} (hf : f_X4_spells_s1 a1 a2 w = some (v, w')) : jC E (ma_X4_spells A) 4 [.ref (E.2.2.2 + 3), .int a1, .int a2, .ref (A.1 1)] w (some (.int (jb v))) w' := by
  refine jC_of (ls := [(0, .ref (E.2.2.2 + 3)), (1, .int a1), (2, .int a2), (3, .ref (A.1 1))]) pnX4 rfl (fun _ => trivial) (Nat.le_of_ble_eq_true rfl) rfl jb_ans ?_
  unfold f_X4_spells_s1 at hf
  refine jx_iload_n dX4_spells_0 rfl ?_
  refine jx_iload_n dX4_spells_1 rfl ?_
  refine jx_isub dX4_spells_2 ?_
  refine jx_aload_n dX4_spells_3 rfl ?_
  refine jx_cVs (i := 1) (As := []) (rest := [.int (a2 - a1)]) rfl (by decide) dX4_spells_4 ml_x106 (mv_J0_length (A := A)) (c_slen (by decide)) rfl rfl rfl (by decide) (Nat.le_of_ble_eq_true rfl) (Zs_i rfl rfl) ?_
  refine jx_icmp_eq (tgt := 12) dX4_spells_7 (by decide) (fun c5 => ?_) (fun c5 => ?_)
  · rw [if_pos c5] at hf
    refine jx_iconst (v := 0) dX4_spells_12 (by decide) ?_
    refine jx_istore (ls' := [(0, .ref (E.2.2.2 + 3)), (1, .int a1), (2, .int a2), (3, .ref (A.1 1)), (4, .int 0)]) dX4_spells_13 (show 4 < 5 by decide) rfl ?_
    exact sl_X4_spells_s1 (A := A) hE jfu _ _ _ _ _ _ hf
  · rw [if_neg c5] at hf
    refine jx_iconst (v := 0) dX4_spells_10 (by decide) ?_
    cases hf
    exact jx_iret dX4_spells_11 rfl rfl
def l_X4_spells_s2 : Nat → Int32 → Int32 → Int32 → jw → Option (Bool × jw)
  | 0, _, _, _, _ => none
  | n + 1, b1, b2, b4, w => (if (nI (slen.getD 2 0)) ≤ b4 then some (true, w) else jg (jin b4 (slen.getD 2 0)) ((if (rat (w.2.2.2 1) (b1 + b4)) = (sch 2 (Int32.toNatClampNeg b4)) then jl (b4 + 1) fun x4 => (l_X4_spells_s2 n b1 b2 x4 w) else some (false, w))))
set_option maxRecDepth 20000 in
set_option maxHeartbeats 2000000 in
theorem sl_X4_spells_s2 {E : jE} {A : (Nat → Nat) × Option Nat} (hE : jfull E) : ∀ (n : Nat) (b1 : Int32) (b2 : Int32) (b4 : Int32) (w : jw) (v : Bool) (w' : jw), l_X4_spells_s2 n b1 b2 b4 w = some (v, w') → jX E (ma_X4_spells A) 4 15 [(0, .ref (E.2.2.2 + 3)), (1, .int b1), (2, .int b2), (3, .ref (A.1 2)), (4, .int b4)] [] w (some (.int (jb v))) w' := by
  intro n
  induction n with
  | zero => intro b1 b2 b4 w v w' hf; cases hf
  | succ n ih =>
    intro b1 b2 b4 w v w' hf
    unfold l_X4_spells_s2 at hf
    refine jx_iload dX4_spells_15 rfl ?_
    refine jx_aload_n dX4_spells_17 rfl ?_
    refine jx_cVs (i := 2) (As := []) (rest := [.int b4]) rfl (by decide) dX4_spells_18 ml_x106 (mv_J0_length (A := A)) (c_slen (by decide)) rfl rfl rfl (by decide) (Nat.le_of_ble_eq_true rfl) (Zs_i rfl rfl) ?_
    refine jx_icmp_ge (tgt := 52) dX4_spells_21 (by decide) (fun c1 => ?_) (fun c1 => ?_)
    · rw [if_pos c1] at hf
      refine jx_iconst (v := 1) dX4_spells_52 (by decide) ?_
      cases hf
      exact jx_iret dX4_spells_53 rfl rfl
    · rw [if_neg c1] at hf
      refine jx_aload_n dX4_spells_24 rfl ?_
      refine jx_getr dX4_spells_25 fl_X4_9 kj_3 sr_3_0 ?_
      refine jx_iload_n dX4_spells_28 rfl ?_
      refine jx_iload dX4_spells_29 rfl ?_
      refine jx_iadd dX4_spells_31 ?_
      refine jx_cVi (a := 1) (As := [.int (b1 + b4)]) (rest := []) dX4_spells_32 ml_X4_39 mv_X8_at (c_row_at (k := 0) kj_1 (by decide)) rfl rfl jc_1 (by decide) (Nat.le_of_ble_eq_true rfl) ?_
      refine jx_aload_n dX4_spells_35 rfl ?_
      refine jx_iload dX4_spells_36 rfl ?_
      obtain ⟨c2, hf⟩ := jg_inv hf
      refine jx_cVs (i := 2) (As := [.int b4]) (rest := [.int (rat (w.2.2.2 1) (b1 + b4))]) rfl (by decide) dX4_spells_38 ml_x110 (mv_J0_charAt (A := A)) (c_charx (by decide) c2) rfl rfl rfl (by decide) (Nat.le_of_ble_eq_true rfl) (Zs_i rfl rfl) ?_
      refine jx_icmp_eq (tgt := 46) dX4_spells_41 (by decide) (fun c3 => ?_) (fun c3 => ?_)
      · rw [if_pos c3] at hf
        obtain ⟨x4, hx4, hf⟩ := jl_inv hf
        refine jx_iinc (v := x4) (ls' := [(0, .ref (E.2.2.2 + 3)), (1, .int b1), (2, .int b2), (3, .ref (A.1 2)), (4, .int x4)]) dX4_spells_46 rfl (by rw [hx4]; rfl) (show 4 < 5 by decide) rfl ?_
        refine jx_goto (tgt := 15) dX4_spells_49 (by decide) ?_
        exact ih _ _ _ _ _ _ hf
      · rw [if_neg c3] at hf
        refine jx_iconst (v := 0) dX4_spells_44 (by decide) ?_
        cases hf
        exact jx_iret dX4_spells_45 rfl rfl
def f_X4_spells_s2 (a1 : Int32) (a2 : Int32) (w : jw) : Option (Bool × jw) := (if (a2 - a1) = (nI (slen.getD 2 0)) then (l_X4_spells_s2 jfu a1 a2 0 w) else some (false, w))
set_option maxRecDepth 20000 in
set_option maxHeartbeats 2000000 in
theorem s_X4_spells_s2 {E : jE} {A : (Nat → Nat) × Option Nat} (hE : jfull E) {a1 : Int32} {a2 : Int32} {w w' : jw} {v : Bool} (hf : f_X4_spells_s2 a1 a2 w = some (v, w')) : jC E (ma_X4_spells A) 4 [.ref (E.2.2.2 + 3), .int a1, .int a2, .ref (A.1 2)] w (some (.int (jb v))) w' := by
  refine jC_of (ls := [(0, .ref (E.2.2.2 + 3)), (1, .int a1), (2, .int a2), (3, .ref (A.1 2))]) pnX4 rfl (fun _ => trivial) (Nat.le_of_ble_eq_true rfl) rfl jb_ans ?_
  unfold f_X4_spells_s2 at hf
  refine jx_iload_n dX4_spells_0 rfl ?_
  refine jx_iload_n dX4_spells_1 rfl ?_
  refine jx_isub dX4_spells_2 ?_
  refine jx_aload_n dX4_spells_3 rfl ?_
  refine jx_cVs (i := 2) (As := []) (rest := [.int (a2 - a1)]) rfl (by decide) dX4_spells_4 ml_x106 (mv_J0_length (A := A)) (c_slen (by decide)) rfl rfl rfl (by decide) (Nat.le_of_ble_eq_true rfl) (Zs_i rfl rfl) ?_
  refine jx_icmp_eq (tgt := 12) dX4_spells_7 (by decide) (fun c5 => ?_) (fun c5 => ?_)
  · rw [if_pos c5] at hf
    refine jx_iconst (v := 0) dX4_spells_12 (by decide) ?_
    refine jx_istore (ls' := [(0, .ref (E.2.2.2 + 3)), (1, .int a1), (2, .int a2), (3, .ref (A.1 2)), (4, .int 0)]) dX4_spells_13 (show 4 < 5 by decide) rfl ?_
    exact sl_X4_spells_s2 (A := A) hE jfu _ _ _ _ _ _ hf
  · rw [if_neg c5] at hf
    refine jx_iconst (v := 0) dX4_spells_10 (by decide) ?_
    cases hf
    exact jx_iret dX4_spells_11 rfl rfl
def l_X4_spells_s3 : Nat → Int32 → Int32 → Int32 → jw → Option (Bool × jw)
  | 0, _, _, _, _ => none
  | n + 1, b1, b2, b4, w => (if (nI (slen.getD 3 0)) ≤ b4 then some (true, w) else jg (jin b4 (slen.getD 3 0)) ((if (rat (w.2.2.2 1) (b1 + b4)) = (sch 3 (Int32.toNatClampNeg b4)) then jl (b4 + 1) fun x4 => (l_X4_spells_s3 n b1 b2 x4 w) else some (false, w))))
set_option maxRecDepth 20000 in
set_option maxHeartbeats 2000000 in
theorem sl_X4_spells_s3 {E : jE} {A : (Nat → Nat) × Option Nat} (hE : jfull E) : ∀ (n : Nat) (b1 : Int32) (b2 : Int32) (b4 : Int32) (w : jw) (v : Bool) (w' : jw), l_X4_spells_s3 n b1 b2 b4 w = some (v, w') → jX E (ma_X4_spells A) 4 15 [(0, .ref (E.2.2.2 + 3)), (1, .int b1), (2, .int b2), (3, .ref (A.1 3)), (4, .int b4)] [] w (some (.int (jb v))) w' := by
  intro n
  induction n with
  | zero => intro b1 b2 b4 w v w' hf; cases hf
  | succ n ih =>
    intro b1 b2 b4 w v w' hf
    unfold l_X4_spells_s3 at hf
    refine jx_iload dX4_spells_15 rfl ?_
    refine jx_aload_n dX4_spells_17 rfl ?_
    refine jx_cVs (i := 3) (As := []) (rest := [.int b4]) rfl (by decide) dX4_spells_18 ml_x106 (mv_J0_length (A := A)) (c_slen (by decide)) rfl rfl rfl (by decide) (Nat.le_of_ble_eq_true rfl) (Zs_i rfl rfl) ?_
    refine jx_icmp_ge (tgt := 52) dX4_spells_21 (by decide) (fun c1 => ?_) (fun c1 => ?_)
    · rw [if_pos c1] at hf
      refine jx_iconst (v := 1) dX4_spells_52 (by decide) ?_
      cases hf
      exact jx_iret dX4_spells_53 rfl rfl
    · rw [if_neg c1] at hf
      refine jx_aload_n dX4_spells_24 rfl ?_
      refine jx_getr dX4_spells_25 fl_X4_9 kj_3 sr_3_0 ?_
      refine jx_iload_n dX4_spells_28 rfl ?_
      refine jx_iload dX4_spells_29 rfl ?_
      refine jx_iadd dX4_spells_31 ?_
      refine jx_cVi (a := 1) (As := [.int (b1 + b4)]) (rest := []) dX4_spells_32 ml_X4_39 mv_X8_at (c_row_at (k := 0) kj_1 (by decide)) rfl rfl jc_1 (by decide) (Nat.le_of_ble_eq_true rfl) ?_
      refine jx_aload_n dX4_spells_35 rfl ?_
      refine jx_iload dX4_spells_36 rfl ?_
      obtain ⟨c2, hf⟩ := jg_inv hf
      refine jx_cVs (i := 3) (As := [.int b4]) (rest := [.int (rat (w.2.2.2 1) (b1 + b4))]) rfl (by decide) dX4_spells_38 ml_x110 (mv_J0_charAt (A := A)) (c_charx (by decide) c2) rfl rfl rfl (by decide) (Nat.le_of_ble_eq_true rfl) (Zs_i rfl rfl) ?_
      refine jx_icmp_eq (tgt := 46) dX4_spells_41 (by decide) (fun c3 => ?_) (fun c3 => ?_)
      · rw [if_pos c3] at hf
        obtain ⟨x4, hx4, hf⟩ := jl_inv hf
        refine jx_iinc (v := x4) (ls' := [(0, .ref (E.2.2.2 + 3)), (1, .int b1), (2, .int b2), (3, .ref (A.1 3)), (4, .int x4)]) dX4_spells_46 rfl (by rw [hx4]; rfl) (show 4 < 5 by decide) rfl ?_
        refine jx_goto (tgt := 15) dX4_spells_49 (by decide) ?_
        exact ih _ _ _ _ _ _ hf
      · rw [if_neg c3] at hf
        refine jx_iconst (v := 0) dX4_spells_44 (by decide) ?_
        cases hf
        exact jx_iret dX4_spells_45 rfl rfl
def f_X4_spells_s3 (a1 : Int32) (a2 : Int32) (w : jw) : Option (Bool × jw) := (if (a2 - a1) = (nI (slen.getD 3 0)) then (l_X4_spells_s3 jfu a1 a2 0 w) else some (false, w))
set_option maxRecDepth 20000 in
set_option maxHeartbeats 2000000 in
theorem s_X4_spells_s3 {E : jE} {A : (Nat → Nat) × Option Nat} (hE : jfull E) {a1 : Int32} {a2 : Int32} {w w' : jw} {v : Bool} (hf : f_X4_spells_s3 a1 a2 w = some (v, w')) : jC E (ma_X4_spells A) 4 [.ref (E.2.2.2 + 3), .int a1, .int a2, .ref (A.1 3)] w (some (.int (jb v))) w' := by
  refine jC_of (ls := [(0, .ref (E.2.2.2 + 3)), (1, .int a1), (2, .int a2), (3, .ref (A.1 3))]) pnX4 rfl (fun _ => trivial) (Nat.le_of_ble_eq_true rfl) rfl jb_ans ?_
  unfold f_X4_spells_s3 at hf
  refine jx_iload_n dX4_spells_0 rfl ?_
  refine jx_iload_n dX4_spells_1 rfl ?_
  refine jx_isub dX4_spells_2 ?_
  refine jx_aload_n dX4_spells_3 rfl ?_
  refine jx_cVs (i := 3) (As := []) (rest := [.int (a2 - a1)]) rfl (by decide) dX4_spells_4 ml_x106 (mv_J0_length (A := A)) (c_slen (by decide)) rfl rfl rfl (by decide) (Nat.le_of_ble_eq_true rfl) (Zs_i rfl rfl) ?_
  refine jx_icmp_eq (tgt := 12) dX4_spells_7 (by decide) (fun c5 => ?_) (fun c5 => ?_)
  · rw [if_pos c5] at hf
    refine jx_iconst (v := 0) dX4_spells_12 (by decide) ?_
    refine jx_istore (ls' := [(0, .ref (E.2.2.2 + 3)), (1, .int a1), (2, .int a2), (3, .ref (A.1 3)), (4, .int 0)]) dX4_spells_13 (show 4 < 5 by decide) rfl ?_
    exact sl_X4_spells_s3 (A := A) hE jfu _ _ _ _ _ _ hf
  · rw [if_neg c5] at hf
    refine jx_iconst (v := 0) dX4_spells_10 (by decide) ?_
    cases hf
    exact jx_iret dX4_spells_11 rfl rfl
def l_X4_spells_s4 : Nat → Int32 → Int32 → Int32 → jw → Option (Bool × jw)
  | 0, _, _, _, _ => none
  | n + 1, b1, b2, b4, w => (if (nI (slen.getD 4 0)) ≤ b4 then some (true, w) else jg (jin b4 (slen.getD 4 0)) ((if (rat (w.2.2.2 1) (b1 + b4)) = (sch 4 (Int32.toNatClampNeg b4)) then jl (b4 + 1) fun x4 => (l_X4_spells_s4 n b1 b2 x4 w) else some (false, w))))
set_option maxRecDepth 20000 in
set_option maxHeartbeats 2000000 in
theorem sl_X4_spells_s4 {E : jE} {A : (Nat → Nat) × Option Nat} (hE : jfull E) : ∀ (n : Nat) (b1 : Int32) (b2 : Int32) (b4 : Int32) (w : jw) (v : Bool) (w' : jw), l_X4_spells_s4 n b1 b2 b4 w = some (v, w') → jX E (ma_X4_spells A) 4 15 [(0, .ref (E.2.2.2 + 3)), (1, .int b1), (2, .int b2), (3, .ref (A.1 4)), (4, .int b4)] [] w (some (.int (jb v))) w' := by
  intro n
  induction n with
  | zero => intro b1 b2 b4 w v w' hf; cases hf
  | succ n ih =>
    intro b1 b2 b4 w v w' hf
    unfold l_X4_spells_s4 at hf
    refine jx_iload dX4_spells_15 rfl ?_
    refine jx_aload_n dX4_spells_17 rfl ?_
    refine jx_cVs (i := 4) (As := []) (rest := [.int b4]) rfl (by decide) dX4_spells_18 ml_x106 (mv_J0_length (A := A)) (c_slen (by decide)) rfl rfl rfl (by decide) (Nat.le_of_ble_eq_true rfl) (Zs_i rfl rfl) ?_
    refine jx_icmp_ge (tgt := 52) dX4_spells_21 (by decide) (fun c1 => ?_) (fun c1 => ?_)
    · rw [if_pos c1] at hf
      refine jx_iconst (v := 1) dX4_spells_52 (by decide) ?_
      cases hf
      exact jx_iret dX4_spells_53 rfl rfl
    · rw [if_neg c1] at hf
      refine jx_aload_n dX4_spells_24 rfl ?_
      refine jx_getr dX4_spells_25 fl_X4_9 kj_3 sr_3_0 ?_
      refine jx_iload_n dX4_spells_28 rfl ?_
      refine jx_iload dX4_spells_29 rfl ?_
      refine jx_iadd dX4_spells_31 ?_
      refine jx_cVi (a := 1) (As := [.int (b1 + b4)]) (rest := []) dX4_spells_32 ml_X4_39 mv_X8_at (c_row_at (k := 0) kj_1 (by decide)) rfl rfl jc_1 (by decide) (Nat.le_of_ble_eq_true rfl) ?_
      refine jx_aload_n dX4_spells_35 rfl ?_
      refine jx_iload dX4_spells_36 rfl ?_
      obtain ⟨c2, hf⟩ := jg_inv hf
      refine jx_cVs (i := 4) (As := [.int b4]) (rest := [.int (rat (w.2.2.2 1) (b1 + b4))]) rfl (by decide) dX4_spells_38 ml_x110 (mv_J0_charAt (A := A)) (c_charx (by decide) c2) rfl rfl rfl (by decide) (Nat.le_of_ble_eq_true rfl) (Zs_i rfl rfl) ?_
      refine jx_icmp_eq (tgt := 46) dX4_spells_41 (by decide) (fun c3 => ?_) (fun c3 => ?_)
      · rw [if_pos c3] at hf
        obtain ⟨x4, hx4, hf⟩ := jl_inv hf
        refine jx_iinc (v := x4) (ls' := [(0, .ref (E.2.2.2 + 3)), (1, .int b1), (2, .int b2), (3, .ref (A.1 4)), (4, .int x4)]) dX4_spells_46 rfl (by rw [hx4]; rfl) (show 4 < 5 by decide) rfl ?_
        refine jx_goto (tgt := 15) dX4_spells_49 (by decide) ?_
        exact ih _ _ _ _ _ _ hf
      · rw [if_neg c3] at hf
        refine jx_iconst (v := 0) dX4_spells_44 (by decide) ?_
        cases hf
        exact jx_iret dX4_spells_45 rfl rfl
def f_X4_spells_s4 (a1 : Int32) (a2 : Int32) (w : jw) : Option (Bool × jw) := (if (a2 - a1) = (nI (slen.getD 4 0)) then (l_X4_spells_s4 jfu a1 a2 0 w) else some (false, w))
set_option maxRecDepth 20000 in
set_option maxHeartbeats 2000000 in
theorem s_X4_spells_s4 {E : jE} {A : (Nat → Nat) × Option Nat} (hE : jfull E) {a1 : Int32} {a2 : Int32} {w w' : jw} {v : Bool} (hf : f_X4_spells_s4 a1 a2 w = some (v, w')) : jC E (ma_X4_spells A) 4 [.ref (E.2.2.2 + 3), .int a1, .int a2, .ref (A.1 4)] w (some (.int (jb v))) w' := by
  refine jC_of (ls := [(0, .ref (E.2.2.2 + 3)), (1, .int a1), (2, .int a2), (3, .ref (A.1 4))]) pnX4 rfl (fun _ => trivial) (Nat.le_of_ble_eq_true rfl) rfl jb_ans ?_
  unfold f_X4_spells_s4 at hf
  refine jx_iload_n dX4_spells_0 rfl ?_
  refine jx_iload_n dX4_spells_1 rfl ?_
  refine jx_isub dX4_spells_2 ?_
  refine jx_aload_n dX4_spells_3 rfl ?_
  refine jx_cVs (i := 4) (As := []) (rest := [.int (a2 - a1)]) rfl (by decide) dX4_spells_4 ml_x106 (mv_J0_length (A := A)) (c_slen (by decide)) rfl rfl rfl (by decide) (Nat.le_of_ble_eq_true rfl) (Zs_i rfl rfl) ?_
  refine jx_icmp_eq (tgt := 12) dX4_spells_7 (by decide) (fun c5 => ?_) (fun c5 => ?_)
  · rw [if_pos c5] at hf
    refine jx_iconst (v := 0) dX4_spells_12 (by decide) ?_
    refine jx_istore (ls' := [(0, .ref (E.2.2.2 + 3)), (1, .int a1), (2, .int a2), (3, .ref (A.1 4)), (4, .int 0)]) dX4_spells_13 (show 4 < 5 by decide) rfl ?_
    exact sl_X4_spells_s4 (A := A) hE jfu _ _ _ _ _ _ hf
  · rw [if_neg c5] at hf
    refine jx_iconst (v := 0) dX4_spells_10 (by decide) ?_
    cases hf
    exact jx_iret dX4_spells_11 rfl rfl
def l_X4_spells_s5 : Nat → Int32 → Int32 → Int32 → jw → Option (Bool × jw)
  | 0, _, _, _, _ => none
  | n + 1, b1, b2, b4, w => (if (nI (slen.getD 5 0)) ≤ b4 then some (true, w) else jg (jin b4 (slen.getD 5 0)) ((if (rat (w.2.2.2 1) (b1 + b4)) = (sch 5 (Int32.toNatClampNeg b4)) then jl (b4 + 1) fun x4 => (l_X4_spells_s5 n b1 b2 x4 w) else some (false, w))))
set_option maxRecDepth 20000 in
set_option maxHeartbeats 2000000 in
theorem sl_X4_spells_s5 {E : jE} {A : (Nat → Nat) × Option Nat} (hE : jfull E) : ∀ (n : Nat) (b1 : Int32) (b2 : Int32) (b4 : Int32) (w : jw) (v : Bool) (w' : jw), l_X4_spells_s5 n b1 b2 b4 w = some (v, w') → jX E (ma_X4_spells A) 4 15 [(0, .ref (E.2.2.2 + 3)), (1, .int b1), (2, .int b2), (3, .ref (A.1 5)), (4, .int b4)] [] w (some (.int (jb v))) w' := by
  intro n
  induction n with
  | zero => intro b1 b2 b4 w v w' hf; cases hf
  | succ n ih =>
    intro b1 b2 b4 w v w' hf
    unfold l_X4_spells_s5 at hf
    refine jx_iload dX4_spells_15 rfl ?_
    refine jx_aload_n dX4_spells_17 rfl ?_
    refine jx_cVs (i := 5) (As := []) (rest := [.int b4]) rfl (by decide) dX4_spells_18 ml_x106 (mv_J0_length (A := A)) (c_slen (by decide)) rfl rfl rfl (by decide) (Nat.le_of_ble_eq_true rfl) (Zs_i rfl rfl) ?_
    refine jx_icmp_ge (tgt := 52) dX4_spells_21 (by decide) (fun c1 => ?_) (fun c1 => ?_)
    · rw [if_pos c1] at hf
      refine jx_iconst (v := 1) dX4_spells_52 (by decide) ?_
      cases hf
      exact jx_iret dX4_spells_53 rfl rfl
    · rw [if_neg c1] at hf
      refine jx_aload_n dX4_spells_24 rfl ?_
      refine jx_getr dX4_spells_25 fl_X4_9 kj_3 sr_3_0 ?_
      refine jx_iload_n dX4_spells_28 rfl ?_
      refine jx_iload dX4_spells_29 rfl ?_
      refine jx_iadd dX4_spells_31 ?_
      refine jx_cVi (a := 1) (As := [.int (b1 + b4)]) (rest := []) dX4_spells_32 ml_X4_39 mv_X8_at (c_row_at (k := 0) kj_1 (by decide)) rfl rfl jc_1 (by decide) (Nat.le_of_ble_eq_true rfl) ?_
      refine jx_aload_n dX4_spells_35 rfl ?_
      refine jx_iload dX4_spells_36 rfl ?_
      obtain ⟨c2, hf⟩ := jg_inv hf
      refine jx_cVs (i := 5) (As := [.int b4]) (rest := [.int (rat (w.2.2.2 1) (b1 + b4))]) rfl (by decide) dX4_spells_38 ml_x110 (mv_J0_charAt (A := A)) (c_charx (by decide) c2) rfl rfl rfl (by decide) (Nat.le_of_ble_eq_true rfl) (Zs_i rfl rfl) ?_
      refine jx_icmp_eq (tgt := 46) dX4_spells_41 (by decide) (fun c3 => ?_) (fun c3 => ?_)
      · rw [if_pos c3] at hf
        obtain ⟨x4, hx4, hf⟩ := jl_inv hf
        refine jx_iinc (v := x4) (ls' := [(0, .ref (E.2.2.2 + 3)), (1, .int b1), (2, .int b2), (3, .ref (A.1 5)), (4, .int x4)]) dX4_spells_46 rfl (by rw [hx4]; rfl) (show 4 < 5 by decide) rfl ?_
        refine jx_goto (tgt := 15) dX4_spells_49 (by decide) ?_
        exact ih _ _ _ _ _ _ hf
      · rw [if_neg c3] at hf
        refine jx_iconst (v := 0) dX4_spells_44 (by decide) ?_
        cases hf
        exact jx_iret dX4_spells_45 rfl rfl
def f_X4_spells_s5 (a1 : Int32) (a2 : Int32) (w : jw) : Option (Bool × jw) := (if (a2 - a1) = (nI (slen.getD 5 0)) then (l_X4_spells_s5 jfu a1 a2 0 w) else some (false, w))
set_option maxRecDepth 20000 in
set_option maxHeartbeats 2000000 in
theorem s_X4_spells_s5 {E : jE} {A : (Nat → Nat) × Option Nat} (hE : jfull E) {a1 : Int32} {a2 : Int32} {w w' : jw} {v : Bool} (hf : f_X4_spells_s5 a1 a2 w = some (v, w')) : jC E (ma_X4_spells A) 4 [.ref (E.2.2.2 + 3), .int a1, .int a2, .ref (A.1 5)] w (some (.int (jb v))) w' := by
  refine jC_of (ls := [(0, .ref (E.2.2.2 + 3)), (1, .int a1), (2, .int a2), (3, .ref (A.1 5))]) pnX4 rfl (fun _ => trivial) (Nat.le_of_ble_eq_true rfl) rfl jb_ans ?_
  unfold f_X4_spells_s5 at hf
  refine jx_iload_n dX4_spells_0 rfl ?_
  refine jx_iload_n dX4_spells_1 rfl ?_
  refine jx_isub dX4_spells_2 ?_
  refine jx_aload_n dX4_spells_3 rfl ?_
  refine jx_cVs (i := 5) (As := []) (rest := [.int (a2 - a1)]) rfl (by decide) dX4_spells_4 ml_x106 (mv_J0_length (A := A)) (c_slen (by decide)) rfl rfl rfl (by decide) (Nat.le_of_ble_eq_true rfl) (Zs_i rfl rfl) ?_
  refine jx_icmp_eq (tgt := 12) dX4_spells_7 (by decide) (fun c5 => ?_) (fun c5 => ?_)
  · rw [if_pos c5] at hf
    refine jx_iconst (v := 0) dX4_spells_12 (by decide) ?_
    refine jx_istore (ls' := [(0, .ref (E.2.2.2 + 3)), (1, .int a1), (2, .int a2), (3, .ref (A.1 5)), (4, .int 0)]) dX4_spells_13 (show 4 < 5 by decide) rfl ?_
    exact sl_X4_spells_s5 (A := A) hE jfu _ _ _ _ _ _ hf
  · rw [if_neg c5] at hf
    refine jx_iconst (v := 0) dX4_spells_10 (by decide) ?_
    cases hf
    exact jx_iret dX4_spells_11 rfl rfl
def l_X4_spells_s6 : Nat → Int32 → Int32 → Int32 → jw → Option (Bool × jw)
  | 0, _, _, _, _ => none
  | n + 1, b1, b2, b4, w => (if (nI (slen.getD 6 0)) ≤ b4 then some (true, w) else jg (jin b4 (slen.getD 6 0)) ((if (rat (w.2.2.2 1) (b1 + b4)) = (sch 6 (Int32.toNatClampNeg b4)) then jl (b4 + 1) fun x4 => (l_X4_spells_s6 n b1 b2 x4 w) else some (false, w))))
set_option maxRecDepth 20000 in
set_option maxHeartbeats 2000000 in
theorem sl_X4_spells_s6 {E : jE} {A : (Nat → Nat) × Option Nat} (hE : jfull E) : ∀ (n : Nat) (b1 : Int32) (b2 : Int32) (b4 : Int32) (w : jw) (v : Bool) (w' : jw), l_X4_spells_s6 n b1 b2 b4 w = some (v, w') → jX E (ma_X4_spells A) 4 15 [(0, .ref (E.2.2.2 + 3)), (1, .int b1), (2, .int b2), (3, .ref (A.1 6)), (4, .int b4)] [] w (some (.int (jb v))) w' := by
  intro n
  induction n with
  | zero => intro b1 b2 b4 w v w' hf; cases hf
  | succ n ih =>
    intro b1 b2 b4 w v w' hf
    unfold l_X4_spells_s6 at hf
    refine jx_iload dX4_spells_15 rfl ?_
    refine jx_aload_n dX4_spells_17 rfl ?_
    refine jx_cVs (i := 6) (As := []) (rest := [.int b4]) rfl (by decide) dX4_spells_18 ml_x106 (mv_J0_length (A := A)) (c_slen (by decide)) rfl rfl rfl (by decide) (Nat.le_of_ble_eq_true rfl) (Zs_i rfl rfl) ?_
    refine jx_icmp_ge (tgt := 52) dX4_spells_21 (by decide) (fun c1 => ?_) (fun c1 => ?_)
    · rw [if_pos c1] at hf
      refine jx_iconst (v := 1) dX4_spells_52 (by decide) ?_
      cases hf
      exact jx_iret dX4_spells_53 rfl rfl
    · rw [if_neg c1] at hf
      refine jx_aload_n dX4_spells_24 rfl ?_
      refine jx_getr dX4_spells_25 fl_X4_9 kj_3 sr_3_0 ?_
      refine jx_iload_n dX4_spells_28 rfl ?_
      refine jx_iload dX4_spells_29 rfl ?_
      refine jx_iadd dX4_spells_31 ?_
      refine jx_cVi (a := 1) (As := [.int (b1 + b4)]) (rest := []) dX4_spells_32 ml_X4_39 mv_X8_at (c_row_at (k := 0) kj_1 (by decide)) rfl rfl jc_1 (by decide) (Nat.le_of_ble_eq_true rfl) ?_
      refine jx_aload_n dX4_spells_35 rfl ?_
      refine jx_iload dX4_spells_36 rfl ?_
      obtain ⟨c2, hf⟩ := jg_inv hf
      refine jx_cVs (i := 6) (As := [.int b4]) (rest := [.int (rat (w.2.2.2 1) (b1 + b4))]) rfl (by decide) dX4_spells_38 ml_x110 (mv_J0_charAt (A := A)) (c_charx (by decide) c2) rfl rfl rfl (by decide) (Nat.le_of_ble_eq_true rfl) (Zs_i rfl rfl) ?_
      refine jx_icmp_eq (tgt := 46) dX4_spells_41 (by decide) (fun c3 => ?_) (fun c3 => ?_)
      · rw [if_pos c3] at hf
        obtain ⟨x4, hx4, hf⟩ := jl_inv hf
        refine jx_iinc (v := x4) (ls' := [(0, .ref (E.2.2.2 + 3)), (1, .int b1), (2, .int b2), (3, .ref (A.1 6)), (4, .int x4)]) dX4_spells_46 rfl (by rw [hx4]; rfl) (show 4 < 5 by decide) rfl ?_
        refine jx_goto (tgt := 15) dX4_spells_49 (by decide) ?_
        exact ih _ _ _ _ _ _ hf
      · rw [if_neg c3] at hf
        refine jx_iconst (v := 0) dX4_spells_44 (by decide) ?_
        cases hf
        exact jx_iret dX4_spells_45 rfl rfl
def f_X4_spells_s6 (a1 : Int32) (a2 : Int32) (w : jw) : Option (Bool × jw) := (if (a2 - a1) = (nI (slen.getD 6 0)) then (l_X4_spells_s6 jfu a1 a2 0 w) else some (false, w))
set_option maxRecDepth 20000 in
set_option maxHeartbeats 2000000 in
theorem s_X4_spells_s6 {E : jE} {A : (Nat → Nat) × Option Nat} (hE : jfull E) {a1 : Int32} {a2 : Int32} {w w' : jw} {v : Bool} (hf : f_X4_spells_s6 a1 a2 w = some (v, w')) : jC E (ma_X4_spells A) 4 [.ref (E.2.2.2 + 3), .int a1, .int a2, .ref (A.1 6)] w (some (.int (jb v))) w' := by
  refine jC_of (ls := [(0, .ref (E.2.2.2 + 3)), (1, .int a1), (2, .int a2), (3, .ref (A.1 6))]) pnX4 rfl (fun _ => trivial) (Nat.le_of_ble_eq_true rfl) rfl jb_ans ?_
  unfold f_X4_spells_s6 at hf
  refine jx_iload_n dX4_spells_0 rfl ?_
  refine jx_iload_n dX4_spells_1 rfl ?_
  refine jx_isub dX4_spells_2 ?_
  refine jx_aload_n dX4_spells_3 rfl ?_
  refine jx_cVs (i := 6) (As := []) (rest := [.int (a2 - a1)]) rfl (by decide) dX4_spells_4 ml_x106 (mv_J0_length (A := A)) (c_slen (by decide)) rfl rfl rfl (by decide) (Nat.le_of_ble_eq_true rfl) (Zs_i rfl rfl) ?_
  refine jx_icmp_eq (tgt := 12) dX4_spells_7 (by decide) (fun c5 => ?_) (fun c5 => ?_)
  · rw [if_pos c5] at hf
    refine jx_iconst (v := 0) dX4_spells_12 (by decide) ?_
    refine jx_istore (ls' := [(0, .ref (E.2.2.2 + 3)), (1, .int a1), (2, .int a2), (3, .ref (A.1 6)), (4, .int 0)]) dX4_spells_13 (show 4 < 5 by decide) rfl ?_
    exact sl_X4_spells_s6 (A := A) hE jfu _ _ _ _ _ _ hf
  · rw [if_neg c5] at hf
    refine jx_iconst (v := 0) dX4_spells_10 (by decide) ?_
    cases hf
    exact jx_iret dX4_spells_11 rfl rfl
def l_X4_spells_s7 : Nat → Int32 → Int32 → Int32 → jw → Option (Bool × jw)
  | 0, _, _, _, _ => none
  | n + 1, b1, b2, b4, w => (if (nI (slen.getD 7 0)) ≤ b4 then some (true, w) else jg (jin b4 (slen.getD 7 0)) ((if (rat (w.2.2.2 1) (b1 + b4)) = (sch 7 (Int32.toNatClampNeg b4)) then jl (b4 + 1) fun x4 => (l_X4_spells_s7 n b1 b2 x4 w) else some (false, w))))
set_option maxRecDepth 20000 in
set_option maxHeartbeats 2000000 in
theorem sl_X4_spells_s7 {E : jE} {A : (Nat → Nat) × Option Nat} (hE : jfull E) : ∀ (n : Nat) (b1 : Int32) (b2 : Int32) (b4 : Int32) (w : jw) (v : Bool) (w' : jw), l_X4_spells_s7 n b1 b2 b4 w = some (v, w') → jX E (ma_X4_spells A) 4 15 [(0, .ref (E.2.2.2 + 3)), (1, .int b1), (2, .int b2), (3, .ref (A.1 7)), (4, .int b4)] [] w (some (.int (jb v))) w' := by
  intro n
  induction n with
  | zero => intro b1 b2 b4 w v w' hf; cases hf
  | succ n ih =>
    intro b1 b2 b4 w v w' hf
    unfold l_X4_spells_s7 at hf
    refine jx_iload dX4_spells_15 rfl ?_
    refine jx_aload_n dX4_spells_17 rfl ?_
    refine jx_cVs (i := 7) (As := []) (rest := [.int b4]) rfl (by decide) dX4_spells_18 ml_x106 (mv_J0_length (A := A)) (c_slen (by decide)) rfl rfl rfl (by decide) (Nat.le_of_ble_eq_true rfl) (Zs_i rfl rfl) ?_
    refine jx_icmp_ge (tgt := 52) dX4_spells_21 (by decide) (fun c1 => ?_) (fun c1 => ?_)
    · rw [if_pos c1] at hf
      refine jx_iconst (v := 1) dX4_spells_52 (by decide) ?_
      cases hf
      exact jx_iret dX4_spells_53 rfl rfl
    · rw [if_neg c1] at hf
      refine jx_aload_n dX4_spells_24 rfl ?_
      refine jx_getr dX4_spells_25 fl_X4_9 kj_3 sr_3_0 ?_
      refine jx_iload_n dX4_spells_28 rfl ?_
      refine jx_iload dX4_spells_29 rfl ?_
      refine jx_iadd dX4_spells_31 ?_
      refine jx_cVi (a := 1) (As := [.int (b1 + b4)]) (rest := []) dX4_spells_32 ml_X4_39 mv_X8_at (c_row_at (k := 0) kj_1 (by decide)) rfl rfl jc_1 (by decide) (Nat.le_of_ble_eq_true rfl) ?_
      refine jx_aload_n dX4_spells_35 rfl ?_
      refine jx_iload dX4_spells_36 rfl ?_
      obtain ⟨c2, hf⟩ := jg_inv hf
      refine jx_cVs (i := 7) (As := [.int b4]) (rest := [.int (rat (w.2.2.2 1) (b1 + b4))]) rfl (by decide) dX4_spells_38 ml_x110 (mv_J0_charAt (A := A)) (c_charx (by decide) c2) rfl rfl rfl (by decide) (Nat.le_of_ble_eq_true rfl) (Zs_i rfl rfl) ?_
      refine jx_icmp_eq (tgt := 46) dX4_spells_41 (by decide) (fun c3 => ?_) (fun c3 => ?_)
      · rw [if_pos c3] at hf
        obtain ⟨x4, hx4, hf⟩ := jl_inv hf
        refine jx_iinc (v := x4) (ls' := [(0, .ref (E.2.2.2 + 3)), (1, .int b1), (2, .int b2), (3, .ref (A.1 7)), (4, .int x4)]) dX4_spells_46 rfl (by rw [hx4]; rfl) (show 4 < 5 by decide) rfl ?_
        refine jx_goto (tgt := 15) dX4_spells_49 (by decide) ?_
        exact ih _ _ _ _ _ _ hf
      · rw [if_neg c3] at hf
        refine jx_iconst (v := 0) dX4_spells_44 (by decide) ?_
        cases hf
        exact jx_iret dX4_spells_45 rfl rfl
def f_X4_spells_s7 (a1 : Int32) (a2 : Int32) (w : jw) : Option (Bool × jw) := (if (a2 - a1) = (nI (slen.getD 7 0)) then (l_X4_spells_s7 jfu a1 a2 0 w) else some (false, w))
set_option maxRecDepth 20000 in
set_option maxHeartbeats 2000000 in
theorem s_X4_spells_s7 {E : jE} {A : (Nat → Nat) × Option Nat} (hE : jfull E) {a1 : Int32} {a2 : Int32} {w w' : jw} {v : Bool} (hf : f_X4_spells_s7 a1 a2 w = some (v, w')) : jC E (ma_X4_spells A) 4 [.ref (E.2.2.2 + 3), .int a1, .int a2, .ref (A.1 7)] w (some (.int (jb v))) w' := by
  refine jC_of (ls := [(0, .ref (E.2.2.2 + 3)), (1, .int a1), (2, .int a2), (3, .ref (A.1 7))]) pnX4 rfl (fun _ => trivial) (Nat.le_of_ble_eq_true rfl) rfl jb_ans ?_
  unfold f_X4_spells_s7 at hf
  refine jx_iload_n dX4_spells_0 rfl ?_
  refine jx_iload_n dX4_spells_1 rfl ?_
  refine jx_isub dX4_spells_2 ?_
  refine jx_aload_n dX4_spells_3 rfl ?_
  refine jx_cVs (i := 7) (As := []) (rest := [.int (a2 - a1)]) rfl (by decide) dX4_spells_4 ml_x106 (mv_J0_length (A := A)) (c_slen (by decide)) rfl rfl rfl (by decide) (Nat.le_of_ble_eq_true rfl) (Zs_i rfl rfl) ?_
  refine jx_icmp_eq (tgt := 12) dX4_spells_7 (by decide) (fun c5 => ?_) (fun c5 => ?_)
  · rw [if_pos c5] at hf
    refine jx_iconst (v := 0) dX4_spells_12 (by decide) ?_
    refine jx_istore (ls' := [(0, .ref (E.2.2.2 + 3)), (1, .int a1), (2, .int a2), (3, .ref (A.1 7)), (4, .int 0)]) dX4_spells_13 (show 4 < 5 by decide) rfl ?_
    exact sl_X4_spells_s7 (A := A) hE jfu _ _ _ _ _ _ hf
  · rw [if_neg c5] at hf
    refine jx_iconst (v := 0) dX4_spells_10 (by decide) ?_
    cases hf
    exact jx_iret dX4_spells_11 rfl rfl
def l_X4_spells_s8 : Nat → Int32 → Int32 → Int32 → jw → Option (Bool × jw)
  | 0, _, _, _, _ => none
  | n + 1, b1, b2, b4, w => (if (nI (slen.getD 8 0)) ≤ b4 then some (true, w) else jg (jin b4 (slen.getD 8 0)) ((if (rat (w.2.2.2 1) (b1 + b4)) = (sch 8 (Int32.toNatClampNeg b4)) then jl (b4 + 1) fun x4 => (l_X4_spells_s8 n b1 b2 x4 w) else some (false, w))))
set_option maxRecDepth 20000 in
set_option maxHeartbeats 2000000 in
theorem sl_X4_spells_s8 {E : jE} {A : (Nat → Nat) × Option Nat} (hE : jfull E) : ∀ (n : Nat) (b1 : Int32) (b2 : Int32) (b4 : Int32) (w : jw) (v : Bool) (w' : jw), l_X4_spells_s8 n b1 b2 b4 w = some (v, w') → jX E (ma_X4_spells A) 4 15 [(0, .ref (E.2.2.2 + 3)), (1, .int b1), (2, .int b2), (3, .ref (A.1 8)), (4, .int b4)] [] w (some (.int (jb v))) w' := by
  intro n
  induction n with
  | zero => intro b1 b2 b4 w v w' hf; cases hf
  | succ n ih =>
    intro b1 b2 b4 w v w' hf
    unfold l_X4_spells_s8 at hf
    refine jx_iload dX4_spells_15 rfl ?_
    refine jx_aload_n dX4_spells_17 rfl ?_
    refine jx_cVs (i := 8) (As := []) (rest := [.int b4]) rfl (by decide) dX4_spells_18 ml_x106 (mv_J0_length (A := A)) (c_slen (by decide)) rfl rfl rfl (by decide) (Nat.le_of_ble_eq_true rfl) (Zs_i rfl rfl) ?_
    refine jx_icmp_ge (tgt := 52) dX4_spells_21 (by decide) (fun c1 => ?_) (fun c1 => ?_)
    · rw [if_pos c1] at hf
      refine jx_iconst (v := 1) dX4_spells_52 (by decide) ?_
      cases hf
      exact jx_iret dX4_spells_53 rfl rfl
    · rw [if_neg c1] at hf
      refine jx_aload_n dX4_spells_24 rfl ?_
      refine jx_getr dX4_spells_25 fl_X4_9 kj_3 sr_3_0 ?_
      refine jx_iload_n dX4_spells_28 rfl ?_
      refine jx_iload dX4_spells_29 rfl ?_
      refine jx_iadd dX4_spells_31 ?_
      refine jx_cVi (a := 1) (As := [.int (b1 + b4)]) (rest := []) dX4_spells_32 ml_X4_39 mv_X8_at (c_row_at (k := 0) kj_1 (by decide)) rfl rfl jc_1 (by decide) (Nat.le_of_ble_eq_true rfl) ?_
      refine jx_aload_n dX4_spells_35 rfl ?_
      refine jx_iload dX4_spells_36 rfl ?_
      obtain ⟨c2, hf⟩ := jg_inv hf
      refine jx_cVs (i := 8) (As := [.int b4]) (rest := [.int (rat (w.2.2.2 1) (b1 + b4))]) rfl (by decide) dX4_spells_38 ml_x110 (mv_J0_charAt (A := A)) (c_charx (by decide) c2) rfl rfl rfl (by decide) (Nat.le_of_ble_eq_true rfl) (Zs_i rfl rfl) ?_
      refine jx_icmp_eq (tgt := 46) dX4_spells_41 (by decide) (fun c3 => ?_) (fun c3 => ?_)
      · rw [if_pos c3] at hf
        obtain ⟨x4, hx4, hf⟩ := jl_inv hf
        refine jx_iinc (v := x4) (ls' := [(0, .ref (E.2.2.2 + 3)), (1, .int b1), (2, .int b2), (3, .ref (A.1 8)), (4, .int x4)]) dX4_spells_46 rfl (by rw [hx4]; rfl) (show 4 < 5 by decide) rfl ?_
        refine jx_goto (tgt := 15) dX4_spells_49 (by decide) ?_
        exact ih _ _ _ _ _ _ hf
      · rw [if_neg c3] at hf
        refine jx_iconst (v := 0) dX4_spells_44 (by decide) ?_
        cases hf
        exact jx_iret dX4_spells_45 rfl rfl
def f_X4_spells_s8 (a1 : Int32) (a2 : Int32) (w : jw) : Option (Bool × jw) := (if (a2 - a1) = (nI (slen.getD 8 0)) then (l_X4_spells_s8 jfu a1 a2 0 w) else some (false, w))
set_option maxRecDepth 20000 in
set_option maxHeartbeats 2000000 in
theorem s_X4_spells_s8 {E : jE} {A : (Nat → Nat) × Option Nat} (hE : jfull E) {a1 : Int32} {a2 : Int32} {w w' : jw} {v : Bool} (hf : f_X4_spells_s8 a1 a2 w = some (v, w')) : jC E (ma_X4_spells A) 4 [.ref (E.2.2.2 + 3), .int a1, .int a2, .ref (A.1 8)] w (some (.int (jb v))) w' := by
  refine jC_of (ls := [(0, .ref (E.2.2.2 + 3)), (1, .int a1), (2, .int a2), (3, .ref (A.1 8))]) pnX4 rfl (fun _ => trivial) (Nat.le_of_ble_eq_true rfl) rfl jb_ans ?_
  unfold f_X4_spells_s8 at hf
  refine jx_iload_n dX4_spells_0 rfl ?_
  refine jx_iload_n dX4_spells_1 rfl ?_
  refine jx_isub dX4_spells_2 ?_
  refine jx_aload_n dX4_spells_3 rfl ?_
  refine jx_cVs (i := 8) (As := []) (rest := [.int (a2 - a1)]) rfl (by decide) dX4_spells_4 ml_x106 (mv_J0_length (A := A)) (c_slen (by decide)) rfl rfl rfl (by decide) (Nat.le_of_ble_eq_true rfl) (Zs_i rfl rfl) ?_
  refine jx_icmp_eq (tgt := 12) dX4_spells_7 (by decide) (fun c5 => ?_) (fun c5 => ?_)
  · rw [if_pos c5] at hf
    refine jx_iconst (v := 0) dX4_spells_12 (by decide) ?_
    refine jx_istore (ls' := [(0, .ref (E.2.2.2 + 3)), (1, .int a1), (2, .int a2), (3, .ref (A.1 8)), (4, .int 0)]) dX4_spells_13 (show 4 < 5 by decide) rfl ?_
    exact sl_X4_spells_s8 (A := A) hE jfu _ _ _ _ _ _ hf
  · rw [if_neg c5] at hf
    refine jx_iconst (v := 0) dX4_spells_10 (by decide) ?_
    cases hf
    exact jx_iret dX4_spells_11 rfl rfl
def l_X4_spells_s9 : Nat → Int32 → Int32 → Int32 → jw → Option (Bool × jw)
  | 0, _, _, _, _ => none
  | n + 1, b1, b2, b4, w => (if (nI (slen.getD 9 0)) ≤ b4 then some (true, w) else jg (jin b4 (slen.getD 9 0)) ((if (rat (w.2.2.2 1) (b1 + b4)) = (sch 9 (Int32.toNatClampNeg b4)) then jl (b4 + 1) fun x4 => (l_X4_spells_s9 n b1 b2 x4 w) else some (false, w))))
set_option maxRecDepth 20000 in
set_option maxHeartbeats 2000000 in
theorem sl_X4_spells_s9 {E : jE} {A : (Nat → Nat) × Option Nat} (hE : jfull E) : ∀ (n : Nat) (b1 : Int32) (b2 : Int32) (b4 : Int32) (w : jw) (v : Bool) (w' : jw), l_X4_spells_s9 n b1 b2 b4 w = some (v, w') → jX E (ma_X4_spells A) 4 15 [(0, .ref (E.2.2.2 + 3)), (1, .int b1), (2, .int b2), (3, .ref (A.1 9)), (4, .int b4)] [] w (some (.int (jb v))) w' := by
  intro n
  induction n with
  | zero => intro b1 b2 b4 w v w' hf; cases hf
  | succ n ih =>
    intro b1 b2 b4 w v w' hf
    unfold l_X4_spells_s9 at hf
    refine jx_iload dX4_spells_15 rfl ?_
    refine jx_aload_n dX4_spells_17 rfl ?_
    refine jx_cVs (i := 9) (As := []) (rest := [.int b4]) rfl (by decide) dX4_spells_18 ml_x106 (mv_J0_length (A := A)) (c_slen (by decide)) rfl rfl rfl (by decide) (Nat.le_of_ble_eq_true rfl) (Zs_i rfl rfl) ?_
    refine jx_icmp_ge (tgt := 52) dX4_spells_21 (by decide) (fun c1 => ?_) (fun c1 => ?_)
    · rw [if_pos c1] at hf
      refine jx_iconst (v := 1) dX4_spells_52 (by decide) ?_
      cases hf
      exact jx_iret dX4_spells_53 rfl rfl
    · rw [if_neg c1] at hf
      refine jx_aload_n dX4_spells_24 rfl ?_
      refine jx_getr dX4_spells_25 fl_X4_9 kj_3 sr_3_0 ?_
      refine jx_iload_n dX4_spells_28 rfl ?_
      refine jx_iload dX4_spells_29 rfl ?_
      refine jx_iadd dX4_spells_31 ?_
      refine jx_cVi (a := 1) (As := [.int (b1 + b4)]) (rest := []) dX4_spells_32 ml_X4_39 mv_X8_at (c_row_at (k := 0) kj_1 (by decide)) rfl rfl jc_1 (by decide) (Nat.le_of_ble_eq_true rfl) ?_
      refine jx_aload_n dX4_spells_35 rfl ?_
      refine jx_iload dX4_spells_36 rfl ?_
      obtain ⟨c2, hf⟩ := jg_inv hf
      refine jx_cVs (i := 9) (As := [.int b4]) (rest := [.int (rat (w.2.2.2 1) (b1 + b4))]) rfl (by decide) dX4_spells_38 ml_x110 (mv_J0_charAt (A := A)) (c_charx (by decide) c2) rfl rfl rfl (by decide) (Nat.le_of_ble_eq_true rfl) (Zs_i rfl rfl) ?_
      refine jx_icmp_eq (tgt := 46) dX4_spells_41 (by decide) (fun c3 => ?_) (fun c3 => ?_)
      · rw [if_pos c3] at hf
        obtain ⟨x4, hx4, hf⟩ := jl_inv hf
        refine jx_iinc (v := x4) (ls' := [(0, .ref (E.2.2.2 + 3)), (1, .int b1), (2, .int b2), (3, .ref (A.1 9)), (4, .int x4)]) dX4_spells_46 rfl (by rw [hx4]; rfl) (show 4 < 5 by decide) rfl ?_
        refine jx_goto (tgt := 15) dX4_spells_49 (by decide) ?_
        exact ih _ _ _ _ _ _ hf
      · rw [if_neg c3] at hf
        refine jx_iconst (v := 0) dX4_spells_44 (by decide) ?_
        cases hf
        exact jx_iret dX4_spells_45 rfl rfl
def f_X4_spells_s9 (a1 : Int32) (a2 : Int32) (w : jw) : Option (Bool × jw) := (if (a2 - a1) = (nI (slen.getD 9 0)) then (l_X4_spells_s9 jfu a1 a2 0 w) else some (false, w))
set_option maxRecDepth 20000 in
set_option maxHeartbeats 2000000 in
theorem s_X4_spells_s9 {E : jE} {A : (Nat → Nat) × Option Nat} (hE : jfull E) {a1 : Int32} {a2 : Int32} {w w' : jw} {v : Bool} (hf : f_X4_spells_s9 a1 a2 w = some (v, w')) : jC E (ma_X4_spells A) 4 [.ref (E.2.2.2 + 3), .int a1, .int a2, .ref (A.1 9)] w (some (.int (jb v))) w' := by
  refine jC_of (ls := [(0, .ref (E.2.2.2 + 3)), (1, .int a1), (2, .int a2), (3, .ref (A.1 9))]) pnX4 rfl (fun _ => trivial) (Nat.le_of_ble_eq_true rfl) rfl jb_ans ?_
  unfold f_X4_spells_s9 at hf
  refine jx_iload_n dX4_spells_0 rfl ?_
  refine jx_iload_n dX4_spells_1 rfl ?_
  refine jx_isub dX4_spells_2 ?_
  refine jx_aload_n dX4_spells_3 rfl ?_
  refine jx_cVs (i := 9) (As := []) (rest := [.int (a2 - a1)]) rfl (by decide) dX4_spells_4 ml_x106 (mv_J0_length (A := A)) (c_slen (by decide)) rfl rfl rfl (by decide) (Nat.le_of_ble_eq_true rfl) (Zs_i rfl rfl) ?_
  refine jx_icmp_eq (tgt := 12) dX4_spells_7 (by decide) (fun c5 => ?_) (fun c5 => ?_)
  · rw [if_pos c5] at hf
    refine jx_iconst (v := 0) dX4_spells_12 (by decide) ?_
    refine jx_istore (ls' := [(0, .ref (E.2.2.2 + 3)), (1, .int a1), (2, .int a2), (3, .ref (A.1 9)), (4, .int 0)]) dX4_spells_13 (show 4 < 5 by decide) rfl ?_
    exact sl_X4_spells_s9 (A := A) hE jfu _ _ _ _ _ _ hf
  · rw [if_neg c5] at hf
    refine jx_iconst (v := 0) dX4_spells_10 (by decide) ?_
    cases hf
    exact jx_iret dX4_spells_11 rfl rfl
def l_X4_spells_s10 : Nat → Int32 → Int32 → Int32 → jw → Option (Bool × jw)
  | 0, _, _, _, _ => none
  | n + 1, b1, b2, b4, w => (if (nI (slen.getD 10 0)) ≤ b4 then some (true, w) else jg (jin b4 (slen.getD 10 0)) ((if (rat (w.2.2.2 1) (b1 + b4)) = (sch 10 (Int32.toNatClampNeg b4)) then jl (b4 + 1) fun x4 => (l_X4_spells_s10 n b1 b2 x4 w) else some (false, w))))
set_option maxRecDepth 20000 in
set_option maxHeartbeats 2000000 in
theorem sl_X4_spells_s10 {E : jE} {A : (Nat → Nat) × Option Nat} (hE : jfull E) : ∀ (n : Nat) (b1 : Int32) (b2 : Int32) (b4 : Int32) (w : jw) (v : Bool) (w' : jw), l_X4_spells_s10 n b1 b2 b4 w = some (v, w') → jX E (ma_X4_spells A) 4 15 [(0, .ref (E.2.2.2 + 3)), (1, .int b1), (2, .int b2), (3, .ref (A.1 10)), (4, .int b4)] [] w (some (.int (jb v))) w' := by
  intro n
  induction n with
  | zero => intro b1 b2 b4 w v w' hf; cases hf
  | succ n ih =>
    intro b1 b2 b4 w v w' hf
    unfold l_X4_spells_s10 at hf
    refine jx_iload dX4_spells_15 rfl ?_
    refine jx_aload_n dX4_spells_17 rfl ?_
    refine jx_cVs (i := 10) (As := []) (rest := [.int b4]) rfl (by decide) dX4_spells_18 ml_x106 (mv_J0_length (A := A)) (c_slen (by decide)) rfl rfl rfl (by decide) (Nat.le_of_ble_eq_true rfl) (Zs_i rfl rfl) ?_
    refine jx_icmp_ge (tgt := 52) dX4_spells_21 (by decide) (fun c1 => ?_) (fun c1 => ?_)
    · rw [if_pos c1] at hf
      refine jx_iconst (v := 1) dX4_spells_52 (by decide) ?_
      cases hf
      exact jx_iret dX4_spells_53 rfl rfl
    · rw [if_neg c1] at hf
      refine jx_aload_n dX4_spells_24 rfl ?_
      refine jx_getr dX4_spells_25 fl_X4_9 kj_3 sr_3_0 ?_
      refine jx_iload_n dX4_spells_28 rfl ?_
      refine jx_iload dX4_spells_29 rfl ?_
      refine jx_iadd dX4_spells_31 ?_
      refine jx_cVi (a := 1) (As := [.int (b1 + b4)]) (rest := []) dX4_spells_32 ml_X4_39 mv_X8_at (c_row_at (k := 0) kj_1 (by decide)) rfl rfl jc_1 (by decide) (Nat.le_of_ble_eq_true rfl) ?_
      refine jx_aload_n dX4_spells_35 rfl ?_
      refine jx_iload dX4_spells_36 rfl ?_
      obtain ⟨c2, hf⟩ := jg_inv hf
      refine jx_cVs (i := 10) (As := [.int b4]) (rest := [.int (rat (w.2.2.2 1) (b1 + b4))]) rfl (by decide) dX4_spells_38 ml_x110 (mv_J0_charAt (A := A)) (c_charx (by decide) c2) rfl rfl rfl (by decide) (Nat.le_of_ble_eq_true rfl) (Zs_i rfl rfl) ?_
      refine jx_icmp_eq (tgt := 46) dX4_spells_41 (by decide) (fun c3 => ?_) (fun c3 => ?_)
      · rw [if_pos c3] at hf
        obtain ⟨x4, hx4, hf⟩ := jl_inv hf
        refine jx_iinc (v := x4) (ls' := [(0, .ref (E.2.2.2 + 3)), (1, .int b1), (2, .int b2), (3, .ref (A.1 10)), (4, .int x4)]) dX4_spells_46 rfl (by rw [hx4]; rfl) (show 4 < 5 by decide) rfl ?_
        refine jx_goto (tgt := 15) dX4_spells_49 (by decide) ?_
        exact ih _ _ _ _ _ _ hf
      · rw [if_neg c3] at hf
        refine jx_iconst (v := 0) dX4_spells_44 (by decide) ?_
        cases hf
        exact jx_iret dX4_spells_45 rfl rfl
def f_X4_spells_s10 (a1 : Int32) (a2 : Int32) (w : jw) : Option (Bool × jw) := (if (a2 - a1) = (nI (slen.getD 10 0)) then (l_X4_spells_s10 jfu a1 a2 0 w) else some (false, w))
set_option maxRecDepth 20000 in
set_option maxHeartbeats 2000000 in
theorem s_X4_spells_s10 {E : jE} {A : (Nat → Nat) × Option Nat} (hE : jfull E) {a1 : Int32} {a2 : Int32} {w w' : jw} {v : Bool} (hf : f_X4_spells_s10 a1 a2 w = some (v, w')) : jC E (ma_X4_spells A) 4 [.ref (E.2.2.2 + 3), .int a1, .int a2, .ref (A.1 10)] w (some (.int (jb v))) w' := by
  refine jC_of (ls := [(0, .ref (E.2.2.2 + 3)), (1, .int a1), (2, .int a2), (3, .ref (A.1 10))]) pnX4 rfl (fun _ => trivial) (Nat.le_of_ble_eq_true rfl) rfl jb_ans ?_
  unfold f_X4_spells_s10 at hf
  refine jx_iload_n dX4_spells_0 rfl ?_
  refine jx_iload_n dX4_spells_1 rfl ?_
  refine jx_isub dX4_spells_2 ?_
  refine jx_aload_n dX4_spells_3 rfl ?_
  refine jx_cVs (i := 10) (As := []) (rest := [.int (a2 - a1)]) rfl (by decide) dX4_spells_4 ml_x106 (mv_J0_length (A := A)) (c_slen (by decide)) rfl rfl rfl (by decide) (Nat.le_of_ble_eq_true rfl) (Zs_i rfl rfl) ?_
  refine jx_icmp_eq (tgt := 12) dX4_spells_7 (by decide) (fun c5 => ?_) (fun c5 => ?_)
  · rw [if_pos c5] at hf
    refine jx_iconst (v := 0) dX4_spells_12 (by decide) ?_
    refine jx_istore (ls' := [(0, .ref (E.2.2.2 + 3)), (1, .int a1), (2, .int a2), (3, .ref (A.1 10)), (4, .int 0)]) dX4_spells_13 (show 4 < 5 by decide) rfl ?_
    exact sl_X4_spells_s10 (A := A) hE jfu _ _ _ _ _ _ hf
  · rw [if_neg c5] at hf
    refine jx_iconst (v := 0) dX4_spells_10 (by decide) ?_
    cases hf
    exact jx_iret dX4_spells_11 rfl rfl
def f_X4_kindOfVar (a1 : Int32) (a2 : Int32) (w : jw) : Option (Int32 × jw) := jbd2 (f_X4_spells_s5 a1 a2 w) fun x2 w3 => (if (jb x2) = 0 then jbd2 (f_X4_spells_s6 a1 a2 w3) fun x6 w7 => (if (jb x6) = 0 then jbd2 (f_X4_spells_s7 a1 a2 w7) fun x10 w11 => (if (jb x10) = 0 then jbd2 (f_X4_spells_s8 a1 a2 w11) fun x14 w15 => (if (jb x14) = 0 then jbd2 (f_X4_spells_s9 a1 a2 w15) fun x18 w19 => (if (jb x18) = 0 then jbd2 (f_X4_spells_s10 a1 a2 w19) fun x22 w23 => (if (jb x22) = 0 then some (1, w23) else some (13, w23)) else some (12, w19)) else some (11, w15)) else some (10, w11)) else some (9, w7)) else some (8, w3))
set_option maxRecDepth 20000 in
set_option maxHeartbeats 2000000 in
theorem s_X4_kindOfVar {E : jE} {A : (Nat → Nat) × Option Nat} (hE : jfull E) {a1 : Int32} {a2 : Int32} {w w' : jw} {v : Int32} (hf : f_X4_kindOfVar a1 a2 w = some (v, w')) : jC E (ma_X4_kindOfVar A) 5 [.ref (E.2.2.2 + 3), .int a1, .int a2] w (some (.int v)) w' := by
  refine jC_of (ls := [(0, .ref (E.2.2.2 + 3)), (1, .int a1), (2, .int a2)]) pnX4 rfl (fun _ => trivial) (Nat.le_of_ble_eq_true rfl) rfl ⟨.int, rfl, rfl⟩ ?_
  unfold f_X4_kindOfVar at hf
  refine jx_aload_n dX4_kindOfVar_0 rfl ?_
  refine jx_iload_n dX4_kindOfVar_1 rfl ?_
  refine jx_iload_n dX4_kindOfVar_2 rfl ?_
  refine jx_sldc (i := 5) rfl (by decide) rfl dX4_kindOfVar_3 ?_
  obtain ⟨x2, w3, hq1, hf⟩ := jbd2_inv hf
  refine jx_cVi (a := 3) (As := [.int a1, .int a2, .ref (A.1 5)]) (rest := []) dX4_kindOfVar_5 ml_X4_79 (mva_X4_spells (A := A)) (s_X4_spells_s5 hE hq1) rfl rfl jc_3 (by decide) (Nat.le_of_ble_eq_true rfl) ?_ (Zs_i rfl rfl)
  refine jx_if_eq (tgt := 14) dX4_kindOfVar_8 (by decide) (fun c4 => ?_) (fun c4 => ?_)
  · rw [if_pos c4] at hf
    refine jx_aload_n dX4_kindOfVar_14 rfl ?_
    refine jx_iload_n dX4_kindOfVar_15 rfl ?_
    refine jx_iload_n dX4_kindOfVar_16 rfl ?_
    refine jx_sldc (i := 6) rfl (by decide) rfl dX4_kindOfVar_17 ?_
    obtain ⟨x6, w7, hq5, hf⟩ := jbd2_inv hf
    refine jx_cVi (a := 3) (As := [.int a1, .int a2, .ref (A.1 6)]) (rest := []) dX4_kindOfVar_19 ml_X4_79 (mva_X4_spells (A := A)) (s_X4_spells_s6 hE hq5) rfl rfl jc_3 (by decide) (Nat.le_of_ble_eq_true rfl) ?_ (Zs_i rfl rfl)
    refine jx_if_eq (tgt := 28) dX4_kindOfVar_22 (by decide) (fun c8 => ?_) (fun c8 => ?_)
    · rw [if_pos c8] at hf
      refine jx_aload_n dX4_kindOfVar_28 rfl ?_
      refine jx_iload_n dX4_kindOfVar_29 rfl ?_
      refine jx_iload_n dX4_kindOfVar_30 rfl ?_
      refine jx_sldc (i := 7) rfl (by decide) rfl dX4_kindOfVar_31 ?_
      obtain ⟨x10, w11, hq9, hf⟩ := jbd2_inv hf
      refine jx_cVi (a := 3) (As := [.int a1, .int a2, .ref (A.1 7)]) (rest := []) dX4_kindOfVar_33 ml_X4_79 (mva_X4_spells (A := A)) (s_X4_spells_s7 hE hq9) rfl rfl jc_3 (by decide) (Nat.le_of_ble_eq_true rfl) ?_ (Zs_i rfl rfl)
      refine jx_if_eq (tgt := 42) dX4_kindOfVar_36 (by decide) (fun c12 => ?_) (fun c12 => ?_)
      · rw [if_pos c12] at hf
        refine jx_aload_n dX4_kindOfVar_42 rfl ?_
        refine jx_iload_n dX4_kindOfVar_43 rfl ?_
        refine jx_iload_n dX4_kindOfVar_44 rfl ?_
        refine jx_sldc (i := 8) rfl (by decide) rfl dX4_kindOfVar_45 ?_
        obtain ⟨x14, w15, hq13, hf⟩ := jbd2_inv hf
        refine jx_cVi (a := 3) (As := [.int a1, .int a2, .ref (A.1 8)]) (rest := []) dX4_kindOfVar_47 ml_X4_79 (mva_X4_spells (A := A)) (s_X4_spells_s8 hE hq13) rfl rfl jc_3 (by decide) (Nat.le_of_ble_eq_true rfl) ?_ (Zs_i rfl rfl)
        refine jx_if_eq (tgt := 56) dX4_kindOfVar_50 (by decide) (fun c16 => ?_) (fun c16 => ?_)
        · rw [if_pos c16] at hf
          refine jx_aload_n dX4_kindOfVar_56 rfl ?_
          refine jx_iload_n dX4_kindOfVar_57 rfl ?_
          refine jx_iload_n dX4_kindOfVar_58 rfl ?_
          refine jx_sldc (i := 9) rfl (by decide) rfl dX4_kindOfVar_59 ?_
          obtain ⟨x18, w19, hq17, hf⟩ := jbd2_inv hf
          refine jx_cVi (a := 3) (As := [.int a1, .int a2, .ref (A.1 9)]) (rest := []) dX4_kindOfVar_61 ml_X4_79 (mva_X4_spells (A := A)) (s_X4_spells_s9 hE hq17) rfl rfl jc_3 (by decide) (Nat.le_of_ble_eq_true rfl) ?_ (Zs_i rfl rfl)
          refine jx_if_eq (tgt := 70) dX4_kindOfVar_64 (by decide) (fun c20 => ?_) (fun c20 => ?_)
          · rw [if_pos c20] at hf
            refine jx_aload_n dX4_kindOfVar_70 rfl ?_
            refine jx_iload_n dX4_kindOfVar_71 rfl ?_
            refine jx_iload_n dX4_kindOfVar_72 rfl ?_
            refine jx_sldc (i := 10) rfl (by decide) rfl dX4_kindOfVar_73 ?_
            obtain ⟨x22, w23, hq21, hf⟩ := jbd2_inv hf
            refine jx_cVi (a := 3) (As := [.int a1, .int a2, .ref (A.1 10)]) (rest := []) dX4_kindOfVar_75 ml_X4_79 (mva_X4_spells (A := A)) (s_X4_spells_s10 hE hq21) rfl rfl jc_3 (by decide) (Nat.le_of_ble_eq_true rfl) ?_ (Zs_i rfl rfl)
            refine jx_if_eq (tgt := 86) dX4_kindOfVar_78 (by decide) (fun c24 => ?_) (fun c24 => ?_)
            · rw [if_pos c24] at hf
              refine jx_iconst (v := 1) dX4_kindOfVar_86 (by decide) ?_
              cases hf
              exact jx_iret dX4_kindOfVar_87 rfl rfl
            · rw [if_neg c24] at hf
              refine jx_bipush (v := 13) dX4_kindOfVar_81 (by decide) ?_
              refine jx_goto (tgt := 87) dX4_kindOfVar_83 (by decide) ?_
              cases hf
              exact jx_iret dX4_kindOfVar_87 rfl rfl
          · rw [if_neg c20] at hf
            refine jx_bipush (v := 12) dX4_kindOfVar_67 (by decide) ?_
            cases hf
            exact jx_iret dX4_kindOfVar_69 rfl rfl
        · rw [if_neg c16] at hf
          refine jx_bipush (v := 11) dX4_kindOfVar_53 (by decide) ?_
          cases hf
          exact jx_iret dX4_kindOfVar_55 rfl rfl
      · rw [if_neg c12] at hf
        refine jx_bipush (v := 10) dX4_kindOfVar_39 (by decide) ?_
        cases hf
        exact jx_iret dX4_kindOfVar_41 rfl rfl
    · rw [if_neg c8] at hf
      refine jx_bipush (v := 9) dX4_kindOfVar_25 (by decide) ?_
      cases hf
      exact jx_iret dX4_kindOfVar_27 rfl rfl
  · rw [if_neg c4] at hf
    refine jx_bipush (v := 8) dX4_kindOfVar_11 (by decide) ?_
    cases hf
    exact jx_iret dX4_kindOfVar_13 rfl rfl
def f_X4_kindOfWord (a1 : Int32) (a2 : Int32) (w : jw) : Option (Int32 × jw) := jbd2 (f_X4_spells_s0 a1 a2 w) fun x2 w3 => (if (jb x2) = 0 then jbd2 (f_X4_spells_s1 a1 a2 w3) fun x6 w7 => (if (jb x6) = 0 then jbd2 (f_X4_spells_s2 a1 a2 w7) fun x10 w11 => (if (jb x10) = 0 then jbd2 (f_X4_spells_s3 a1 a2 w11) fun x14 w15 => (if (jb x14) = 0 then jbd2 (f_X4_spells_s4 a1 a2 w15) fun x18 w19 => (if (jb x18) = 0 then jbd2 (f_X4_kindOfVar a1 a2 w19) fun x22 w23 => some (x22, w23) else some (3, w19)) else some (7, w15)) else some (6, w11)) else some (5, w7)) else some (4, w3))
set_option maxRecDepth 20000 in
set_option maxHeartbeats 2000000 in
theorem s_X4_kindOfWord {E : jE} {A : (Nat → Nat) × Option Nat} (hE : jfull E) {a1 : Int32} {a2 : Int32} {w w' : jw} {v : Int32} (hf : f_X4_kindOfWord a1 a2 w = some (v, w')) : jC E (ma_X4_kindOfWord A) 6 [.ref (E.2.2.2 + 3), .int a1, .int a2] w (some (.int v)) w' := by
  refine jC_of (ls := [(0, .ref (E.2.2.2 + 3)), (1, .int a1), (2, .int a2)]) pnX4 rfl (fun _ => trivial) (Nat.le_of_ble_eq_true rfl) rfl ⟨.int, rfl, rfl⟩ ?_
  unfold f_X4_kindOfWord at hf
  refine jx_aload_n dX4_kindOfWord_0 rfl ?_
  refine jx_iload_n dX4_kindOfWord_1 rfl ?_
  refine jx_iload_n dX4_kindOfWord_2 rfl ?_
  refine jx_sldc (i := 0) rfl (by decide) rfl dX4_kindOfWord_3 ?_
  obtain ⟨x2, w3, hq1, hf⟩ := jbd2_inv hf
  refine jx_cVi (a := 3) (As := [.int a1, .int a2, .ref (A.1 0)]) (rest := []) dX4_kindOfWord_5 ml_X4_79 (mva_X4_spells (A := A)) (s_X4_spells_s0 hE hq1) rfl rfl jc_3 (by decide) (Nat.le_of_ble_eq_true rfl) ?_ (Zs_i rfl rfl)
  refine jx_if_eq (tgt := 13) dX4_kindOfWord_8 (by decide) (fun c4 => ?_) (fun c4 => ?_)
  · rw [if_pos c4] at hf
    refine jx_aload_n dX4_kindOfWord_13 rfl ?_
    refine jx_iload_n dX4_kindOfWord_14 rfl ?_
    refine jx_iload_n dX4_kindOfWord_15 rfl ?_
    refine jx_sldc (i := 1) rfl (by decide) rfl dX4_kindOfWord_16 ?_
    obtain ⟨x6, w7, hq5, hf⟩ := jbd2_inv hf
    refine jx_cVi (a := 3) (As := [.int a1, .int a2, .ref (A.1 1)]) (rest := []) dX4_kindOfWord_18 ml_X4_79 (mva_X4_spells (A := A)) (s_X4_spells_s1 hE hq5) rfl rfl jc_3 (by decide) (Nat.le_of_ble_eq_true rfl) ?_ (Zs_i rfl rfl)
    refine jx_if_eq (tgt := 26) dX4_kindOfWord_21 (by decide) (fun c8 => ?_) (fun c8 => ?_)
    · rw [if_pos c8] at hf
      refine jx_aload_n dX4_kindOfWord_26 rfl ?_
      refine jx_iload_n dX4_kindOfWord_27 rfl ?_
      refine jx_iload_n dX4_kindOfWord_28 rfl ?_
      refine jx_sldc (i := 2) rfl (by decide) rfl dX4_kindOfWord_29 ?_
      obtain ⟨x10, w11, hq9, hf⟩ := jbd2_inv hf
      refine jx_cVi (a := 3) (As := [.int a1, .int a2, .ref (A.1 2)]) (rest := []) dX4_kindOfWord_31 ml_X4_79 (mva_X4_spells (A := A)) (s_X4_spells_s2 hE hq9) rfl rfl jc_3 (by decide) (Nat.le_of_ble_eq_true rfl) ?_ (Zs_i rfl rfl)
      refine jx_if_eq (tgt := 40) dX4_kindOfWord_34 (by decide) (fun c12 => ?_) (fun c12 => ?_)
      · rw [if_pos c12] at hf
        refine jx_aload_n dX4_kindOfWord_40 rfl ?_
        refine jx_iload_n dX4_kindOfWord_41 rfl ?_
        refine jx_iload_n dX4_kindOfWord_42 rfl ?_
        refine jx_sldc (i := 3) rfl (by decide) rfl dX4_kindOfWord_43 ?_
        obtain ⟨x14, w15, hq13, hf⟩ := jbd2_inv hf
        refine jx_cVi (a := 3) (As := [.int a1, .int a2, .ref (A.1 3)]) (rest := []) dX4_kindOfWord_45 ml_X4_79 (mva_X4_spells (A := A)) (s_X4_spells_s3 hE hq13) rfl rfl jc_3 (by decide) (Nat.le_of_ble_eq_true rfl) ?_ (Zs_i rfl rfl)
        refine jx_if_eq (tgt := 54) dX4_kindOfWord_48 (by decide) (fun c16 => ?_) (fun c16 => ?_)
        · rw [if_pos c16] at hf
          refine jx_aload_n dX4_kindOfWord_54 rfl ?_
          refine jx_iload_n dX4_kindOfWord_55 rfl ?_
          refine jx_iload_n dX4_kindOfWord_56 rfl ?_
          refine jx_sldc (i := 4) rfl (by decide) rfl dX4_kindOfWord_57 ?_
          obtain ⟨x18, w19, hq17, hf⟩ := jbd2_inv hf
          refine jx_cVi (a := 3) (As := [.int a1, .int a2, .ref (A.1 4)]) (rest := []) dX4_kindOfWord_59 ml_X4_79 (mva_X4_spells (A := A)) (s_X4_spells_s4 hE hq17) rfl rfl jc_3 (by decide) (Nat.le_of_ble_eq_true rfl) ?_ (Zs_i rfl rfl)
          refine jx_if_eq (tgt := 67) dX4_kindOfWord_62 (by decide) (fun c20 => ?_) (fun c20 => ?_)
          · rw [if_pos c20] at hf
            refine jx_aload_n dX4_kindOfWord_67 rfl ?_
            refine jx_iload_n dX4_kindOfWord_68 rfl ?_
            refine jx_iload_n dX4_kindOfWord_69 rfl ?_
            obtain ⟨x22, w23, hq21, hf⟩ := jbd2_inv hf
            refine jx_cVi (a := 3) (As := [.int a1, .int a2]) (rest := []) dX4_kindOfWord_70 ml_X4_91 (mva_X4_kindOfVar (A := A)) (s_X4_kindOfVar hE hq21) rfl rfl jc_3 (by decide) (Nat.le_of_ble_eq_true rfl) ?_ (Zs_i rfl rfl)
            cases hf
            exact jx_iret dX4_kindOfWord_73 rfl rfl
          · rw [if_neg c20] at hf
            refine jx_iconst (v := 3) dX4_kindOfWord_65 (by decide) ?_
            cases hf
            exact jx_iret dX4_kindOfWord_66 rfl rfl
        · rw [if_neg c16] at hf
          refine jx_bipush (v := 7) dX4_kindOfWord_51 (by decide) ?_
          cases hf
          exact jx_iret dX4_kindOfWord_53 rfl rfl
      · rw [if_neg c12] at hf
        refine jx_bipush (v := 6) dX4_kindOfWord_37 (by decide) ?_
        cases hf
        exact jx_iret dX4_kindOfWord_39 rfl rfl
    · rw [if_neg c8] at hf
      refine jx_iconst (v := 5) dX4_kindOfWord_24 (by decide) ?_
      cases hf
      exact jx_iret dX4_kindOfWord_25 rfl rfl
  · rw [if_neg c4] at hf
    refine jx_iconst (v := 4) dX4_kindOfWord_11 (by decide) ?_
    cases hf
    exact jx_iret dX4_kindOfWord_12 rfl rfl
def l_X4_lexWord : Nat → Int32 → Int32 → jw → Option (Int32 × jw)
  | 0, _, _, _ => none
  | n + 1, b1, b2, w => (if (nI (w.2.2.2 1).length) ≤ b2 then (if (b2 - b1) ≤ 8 then jbd2 (f_X4_kindOfWord b1 b2 w) fun x4 w5 => jbd (f_X4_keep x4 0 b1 w5) fun q6 => some (b2, q6) else jbd (f_X4_keep 1 0 b1 w) fun q7 => some (b2, q7)) else jbd2 (f_X4_isLetter (rat (w.2.2.2 1) b2) w) fun x9 w10 => (if (jb x9) = 0 then (if (b2 - b1) ≤ 8 then jbd2 (f_X4_kindOfWord b1 b2 w10) fun x14 w15 => jbd (f_X4_keep x14 0 b1 w15) fun q16 => some (b2, q16) else jbd (f_X4_keep 1 0 b1 w10) fun q17 => some (b2, q17)) else jl (b2 + 1) fun x18 => (l_X4_lexWord n b1 x18 w10)))
set_option maxRecDepth 20000 in
set_option maxHeartbeats 2000000 in
theorem sl_X4_lexWord {E : jE} {A : (Nat → Nat) × Option Nat} (hE : jfull E) : ∀ (n : Nat) (b1 : Int32) (b2 : Int32) (w : jw) (v : Int32) (w' : jw), l_X4_lexWord n b1 b2 w = some (v, w') → jX E (ma_X4_lexWord A) 7 2 [(0, .ref (E.2.2.2 + 3)), (1, .int b1), (2, .int b2)] [] w (some (.int v)) w' := by
  intro n
  induction n with
  | zero => intro b1 b2 w v w' hf; cases hf
  | succ n ih =>
    intro b1 b2 w v w' hf
    unfold l_X4_lexWord at hf
    refine jx_iload_n dX4_lexWord_2 rfl ?_
    refine jx_aload_n dX4_lexWord_3 rfl ?_
    refine jx_getr dX4_lexWord_4 fl_X4_9 kj_3 sr_3_0 ?_
    refine jx_getn dX4_lexWord_7 fl_X4_42 kj_1 (by decide) ?_
    refine jx_icmp_ge (tgt := 33) dX4_lexWord_10 (by decide) (fun c1 => ?_) (fun c1 => ?_)
    · rw [if_pos c1] at hf
      refine jx_aload_n dX4_lexWord_33 rfl ?_
      refine jx_iload_n dX4_lexWord_34 rfl ?_
      refine jx_iload_n dX4_lexWord_35 rfl ?_
      refine jx_isub dX4_lexWord_36 ?_
      refine jx_bipush (v := 8) dX4_lexWord_37 (by decide) ?_
      refine jx_icmp_le (tgt := 46) dX4_lexWord_39 (by decide) (fun c2 => ?_) (fun c2 => ?_)
      · rw [if_pos c2] at hf
        refine jx_aload_n dX4_lexWord_46 rfl ?_
        refine jx_iload_n dX4_lexWord_47 rfl ?_
        refine jx_iload_n dX4_lexWord_48 rfl ?_
        obtain ⟨x4, w5, hq3, hf⟩ := jbd2_inv hf
        refine jx_cVi (a := 3) (As := [.int b1, .int b2]) (rest := [.ref (E.2.2.2 + 3)]) dX4_lexWord_49 ml_X4_73 (mva_X4_kindOfWord (A := A)) (s_X4_kindOfWord hE hq3) rfl rfl jc_3 (by decide) (Nat.le_of_ble_eq_true rfl) ?_ (Zs_i rfl rfl)
        refine jx_iconst (v := 0) dX4_lexWord_52 (by decide) ?_
        refine jx_iload_n dX4_lexWord_53 rfl ?_
        obtain ⟨q6, hq6, hf⟩ := jbd_inv hf
        refine jx_cVv (a := 3) (As := [.int x4, .int 0, .int b1]) (rest := []) dX4_lexWord_54 ml_X4_50 mv_X4_keep (s_X4_keep hE hq6) rfl rfl jc_3 (by decide) (Nat.le_of_ble_eq_true rfl) ?_
        refine jx_iload_n dX4_lexWord_57 rfl ?_
        cases hf
        exact jx_iret dX4_lexWord_58 rfl rfl
      · rw [if_neg c2] at hf
        refine jx_iconst (v := 1) dX4_lexWord_42 (by decide) ?_
        refine jx_goto (tgt := 52) dX4_lexWord_43 (by decide) ?_
        refine jx_iconst (v := 0) dX4_lexWord_52 (by decide) ?_
        refine jx_iload_n dX4_lexWord_53 rfl ?_
        obtain ⟨q7, hq7, hf⟩ := jbd_inv hf
        refine jx_cVv (a := 3) (As := [.int 1, .int 0, .int b1]) (rest := []) dX4_lexWord_54 ml_X4_50 mv_X4_keep (s_X4_keep hE hq7) rfl rfl jc_3 (by decide) (Nat.le_of_ble_eq_true rfl) ?_
        refine jx_iload_n dX4_lexWord_57 rfl ?_
        cases hf
        exact jx_iret dX4_lexWord_58 rfl rfl
    · rw [if_neg c1] at hf
      refine jx_aload_n dX4_lexWord_13 rfl ?_
      refine jx_getr dX4_lexWord_14 fl_X4_9 kj_3 sr_3_0 ?_
      refine jx_iload_n dX4_lexWord_17 rfl ?_
      refine jx_cVi (a := 1) (As := [.int b2]) (rest := []) dX4_lexWord_18 ml_X4_39 mv_X8_at (c_row_at (k := 0) kj_1 (by decide)) rfl rfl jc_1 (by decide) (Nat.le_of_ble_eq_true rfl) ?_
      obtain ⟨x9, w10, hq8, hf⟩ := jbd2_inv hf
      refine jx_cSi (As := [.int (rat (w.2.2.2 1) b2)]) (rest := []) dX4_lexWord_21 ml_X4_54 ms_X4_isLetter (s_X4_isLetter hE hq8) rfl rfl rfl (by decide) (Nat.le_of_ble_eq_true rfl) ?_
      refine jx_if_eq (tgt := 33) dX4_lexWord_24 (by decide) (fun c11 => ?_) (fun c11 => ?_)
      · rw [if_pos c11] at hf
        refine jx_aload_n dX4_lexWord_33 rfl ?_
        refine jx_iload_n dX4_lexWord_34 rfl ?_
        refine jx_iload_n dX4_lexWord_35 rfl ?_
        refine jx_isub dX4_lexWord_36 ?_
        refine jx_bipush (v := 8) dX4_lexWord_37 (by decide) ?_
        refine jx_icmp_le (tgt := 46) dX4_lexWord_39 (by decide) (fun c12 => ?_) (fun c12 => ?_)
        · rw [if_pos c12] at hf
          refine jx_aload_n dX4_lexWord_46 rfl ?_
          refine jx_iload_n dX4_lexWord_47 rfl ?_
          refine jx_iload_n dX4_lexWord_48 rfl ?_
          obtain ⟨x14, w15, hq13, hf⟩ := jbd2_inv hf
          refine jx_cVi (a := 3) (As := [.int b1, .int b2]) (rest := [.ref (E.2.2.2 + 3)]) dX4_lexWord_49 ml_X4_73 (mva_X4_kindOfWord (A := A)) (s_X4_kindOfWord hE hq13) rfl rfl jc_3 (by decide) (Nat.le_of_ble_eq_true rfl) ?_ (Zs_i rfl rfl)
          refine jx_iconst (v := 0) dX4_lexWord_52 (by decide) ?_
          refine jx_iload_n dX4_lexWord_53 rfl ?_
          obtain ⟨q16, hq16, hf⟩ := jbd_inv hf
          refine jx_cVv (a := 3) (As := [.int x14, .int 0, .int b1]) (rest := []) dX4_lexWord_54 ml_X4_50 mv_X4_keep (s_X4_keep hE hq16) rfl rfl jc_3 (by decide) (Nat.le_of_ble_eq_true rfl) ?_
          refine jx_iload_n dX4_lexWord_57 rfl ?_
          cases hf
          exact jx_iret dX4_lexWord_58 rfl rfl
        · rw [if_neg c12] at hf
          refine jx_iconst (v := 1) dX4_lexWord_42 (by decide) ?_
          refine jx_goto (tgt := 52) dX4_lexWord_43 (by decide) ?_
          refine jx_iconst (v := 0) dX4_lexWord_52 (by decide) ?_
          refine jx_iload_n dX4_lexWord_53 rfl ?_
          obtain ⟨q17, hq17, hf⟩ := jbd_inv hf
          refine jx_cVv (a := 3) (As := [.int 1, .int 0, .int b1]) (rest := []) dX4_lexWord_54 ml_X4_50 mv_X4_keep (s_X4_keep hE hq17) rfl rfl jc_3 (by decide) (Nat.le_of_ble_eq_true rfl) ?_
          refine jx_iload_n dX4_lexWord_57 rfl ?_
          cases hf
          exact jx_iret dX4_lexWord_58 rfl rfl
      · rw [if_neg c11] at hf
        obtain ⟨x18, hx18, hf⟩ := jl_inv hf
        refine jx_iinc (v := x18) (ls' := [(0, .ref (E.2.2.2 + 3)), (1, .int b1), (2, .int x18)]) dX4_lexWord_27 rfl (by rw [hx18]; rfl) (show 2 < 3 by decide) rfl ?_
        refine jx_goto (tgt := 2) dX4_lexWord_30 (by decide) ?_
        exact ih _ _ _ _ _ hf
def f_X4_lexWord (a1 : Int32) (w : jw) : Option (Int32 × jw) := (l_X4_lexWord jfu a1 a1 w)
set_option maxRecDepth 20000 in
set_option maxHeartbeats 2000000 in
theorem s_X4_lexWord {E : jE} {A : (Nat → Nat) × Option Nat} (hE : jfull E) {a1 : Int32} {w w' : jw} {v : Int32} (hf : f_X4_lexWord a1 w = some (v, w')) : jC E (ma_X4_lexWord A) 7 [.ref (E.2.2.2 + 3), .int a1] w (some (.int v)) w' := by
  refine jC_of (ls := [(0, .ref (E.2.2.2 + 3)), (1, .int a1)]) pnX4 rfl (fun _ => trivial) (Nat.le_of_ble_eq_true rfl) rfl ⟨.int, rfl, rfl⟩ ?_
  unfold f_X4_lexWord at hf
  refine jx_iload_n dX4_lexWord_0 rfl ?_
  refine jx_istore_n (ls' := [(0, .ref (E.2.2.2 + 3)), (1, .int a1), (2, .int a1)]) dX4_lexWord_1 (show 2 < 3 by decide) rfl ?_
  exact sl_X4_lexWord (A := A) hE jfu _ _ _ _ _ hf
def f_X4_lexOne (a1 : Int32) (w : jw) : Option (Int32 × jw) := jl (rat (w.2.2.2 1) a1 : Int32) fun x1 => (if a1 < (nI (w.2.2.2 1).length) then jbd2 (f_X4_isLetter x1 w) fun x4 w5 => (if (jb x4) = 0 then jbd2 (f_X4_isDigit x1 w5) fun x8 w9 => (if (jb x8) = 0 then (if (six 11 ((Int32.toUInt32 x1 % 65536).toInt32)) < 0 then jbd (f_X4_keep 1 0 a1 w9) fun q12 => some (a1 + 1, q12) else jbd (f_X4_keep x1 0 a1 w9) fun q13 => some (a1 + 1, q13)) else jbd2 (f_X4_lexInt a1 w9) fun x15 w16 => some (x15, w16)) else jbd2 (f_X4_lexWord a1 w5) fun x18 w19 => some (x18, w19)) else jbd (f_X4_keep 0 0 a1 w) fun q20 => some (a1 + 1, q20))
set_option maxRecDepth 20000 in
set_option maxHeartbeats 2000000 in
theorem s_X4_lexOne {E : jE} {A : (Nat → Nat) × Option Nat} (hE : jfull E) {a1 : Int32} {w w' : jw} {v : Int32} (hf : f_X4_lexOne a1 w = some (v, w')) : jC E (ma_X4_lexOne A) 8 [.ref (E.2.2.2 + 3), .int a1] w (some (.int v)) w' := by
  refine jC_of (ls := [(0, .ref (E.2.2.2 + 3)), (1, .int a1)]) pnX4 rfl (fun _ => trivial) (Nat.le_of_ble_eq_true rfl) rfl ⟨.int, rfl, rfl⟩ ?_
  unfold f_X4_lexOne at hf
  refine jx_aload_n dX4_lexOne_0 rfl ?_
  refine jx_getr dX4_lexOne_1 fl_X4_9 kj_3 sr_3_0 ?_
  refine jx_iload_n dX4_lexOne_4 rfl ?_
  refine jx_cVi (a := 1) (As := [.int a1]) (rest := []) dX4_lexOne_5 ml_X4_39 mv_X8_at (c_row_at (k := 0) kj_1 (by decide)) rfl rfl jc_1 (by decide) (Nat.le_of_ble_eq_true rfl) ?_
  obtain ⟨x1, hx1, hf⟩ := jl_inv hf
  refine jx_nm hx1 ?_
  refine jx_istore_n (ls' := [(0, .ref (E.2.2.2 + 3)), (1, .int a1), (2, .int x1)]) dX4_lexOne_8 (show 2 < 3 by decide) rfl ?_
  refine jx_iload_n dX4_lexOne_9 rfl ?_
  refine jx_aload_n dX4_lexOne_10 rfl ?_
  refine jx_getr dX4_lexOne_11 fl_X4_9 kj_3 sr_3_0 ?_
  refine jx_getn dX4_lexOne_14 fl_X4_42 kj_1 (by decide) ?_
  refine jx_icmp_lt (tgt := 30) dX4_lexOne_17 (by decide) (fun c2 => ?_) (fun c2 => ?_)
  · rw [if_pos c2] at hf
    refine jx_iload_n dX4_lexOne_30 rfl ?_
    obtain ⟨x4, w5, hq3, hf⟩ := jbd2_inv hf
    refine jx_cSi (As := [.int x1]) (rest := []) dX4_lexOne_31 ml_X4_54 ms_X4_isLetter (s_X4_isLetter hE hq3) rfl rfl rfl (by decide) (Nat.le_of_ble_eq_true rfl) ?_
    refine jx_if_eq (tgt := 43) dX4_lexOne_34 (by decide) (fun c6 => ?_) (fun c6 => ?_)
    · rw [if_pos c6] at hf
      refine jx_iload_n dX4_lexOne_43 rfl ?_
      obtain ⟨x8, w9, hq7, hf⟩ := jbd2_inv hf
      refine jx_cSi (As := [.int x1]) (rest := []) dX4_lexOne_44 ml_X4_60 ms_X4_isDigit (s_X4_isDigit hE hq7) rfl rfl rfl (by decide) (Nat.le_of_ble_eq_true rfl) ?_
      refine jx_if_eq (tgt := 56) dX4_lexOne_47 (by decide) (fun c10 => ?_) (fun c10 => ?_)
      · rw [if_pos c10] at hf
        refine jx_aload_n dX4_lexOne_56 rfl ?_
        refine jx_sldc (i := 11) rfl (by decide) rfl dX4_lexOne_57 ?_
        refine jx_iload_n dX4_lexOne_59 rfl ?_
        refine jx_i2c dX4_lexOne_60 ?_
        refine jx_cVs (i := 11) (As := [.int ((Int32.toUInt32 x1 % 65536).toInt32)]) (rest := [.ref (E.2.2.2 + 3)]) rfl (by decide) dX4_lexOne_61 ml_x68 (mv_J0_indexOf (A := A)) (c_ix (by decide)) rfl rfl rfl (by decide) (Nat.le_of_ble_eq_true rfl) (Zs_i rfl rfl) ?_
        refine jx_if_lt (tgt := 71) dX4_lexOne_64 (by decide) (fun c11 => ?_) (fun c11 => ?_)
        · rw [if_pos c11] at hf
          refine jx_iconst (v := 1) dX4_lexOne_71 (by decide) ?_
          refine jx_iconst (v := 0) dX4_lexOne_72 (by decide) ?_
          refine jx_iload_n dX4_lexOne_73 rfl ?_
          obtain ⟨q12, hq12, hf⟩ := jbd_inv hf
          refine jx_cVv (a := 3) (As := [.int 1, .int 0, .int a1]) (rest := []) dX4_lexOne_74 ml_X4_50 mv_X4_keep (s_X4_keep hE hq12) rfl rfl jc_3 (by decide) (Nat.le_of_ble_eq_true rfl) ?_
          refine jx_iload_n dX4_lexOne_77 rfl ?_
          refine jx_iconst (v := 1) dX4_lexOne_78 (by decide) ?_
          refine jx_iadd dX4_lexOne_79 ?_
          cases hf
          exact jx_iret dX4_lexOne_80 rfl rfl
        · rw [if_neg c11] at hf
          refine jx_iload_n dX4_lexOne_67 rfl ?_
          refine jx_goto (tgt := 72) dX4_lexOne_68 (by decide) ?_
          refine jx_iconst (v := 0) dX4_lexOne_72 (by decide) ?_
          refine jx_iload_n dX4_lexOne_73 rfl ?_
          obtain ⟨q13, hq13, hf⟩ := jbd_inv hf
          refine jx_cVv (a := 3) (As := [.int x1, .int 0, .int a1]) (rest := []) dX4_lexOne_74 ml_X4_50 mv_X4_keep (s_X4_keep hE hq13) rfl rfl jc_3 (by decide) (Nat.le_of_ble_eq_true rfl) ?_
          refine jx_iload_n dX4_lexOne_77 rfl ?_
          refine jx_iconst (v := 1) dX4_lexOne_78 (by decide) ?_
          refine jx_iadd dX4_lexOne_79 ?_
          cases hf
          exact jx_iret dX4_lexOne_80 rfl rfl
      · rw [if_neg c10] at hf
        refine jx_aload_n dX4_lexOne_50 rfl ?_
        refine jx_iload_n dX4_lexOne_51 rfl ?_
        obtain ⟨x15, w16, hq14, hf⟩ := jbd2_inv hf
        refine jx_cVi (a := 3) (As := [.int a1]) (rest := []) dX4_lexOne_52 ml_X4_63 mv_X4_lexInt (s_X4_lexInt hE hq14) rfl rfl jc_3 (by decide) (Nat.le_of_ble_eq_true rfl) ?_
        cases hf
        exact jx_iret dX4_lexOne_55 rfl rfl
    · rw [if_neg c6] at hf
      refine jx_aload_n dX4_lexOne_37 rfl ?_
      refine jx_iload_n dX4_lexOne_38 rfl ?_
      obtain ⟨x18, w19, hq17, hf⟩ := jbd2_inv hf
      refine jx_cVi (a := 3) (As := [.int a1]) (rest := []) dX4_lexOne_39 ml_X4_57 (mva_X4_lexWord (A := A)) (s_X4_lexWord hE hq17) rfl rfl jc_3 (by decide) (Nat.le_of_ble_eq_true rfl) ?_ (Zs_i rfl rfl)
      cases hf
      exact jx_iret dX4_lexOne_42 rfl rfl
  · rw [if_neg c2] at hf
    refine jx_aload_n dX4_lexOne_20 rfl ?_
    refine jx_iconst (v := 0) dX4_lexOne_21 (by decide) ?_
    refine jx_iconst (v := 0) dX4_lexOne_22 (by decide) ?_
    refine jx_iload_n dX4_lexOne_23 rfl ?_
    obtain ⟨q20, hq20, hf⟩ := jbd_inv hf
    refine jx_cVv (a := 3) (As := [.int 0, .int 0, .int a1]) (rest := []) dX4_lexOne_24 ml_X4_50 mv_X4_keep (s_X4_keep hE hq20) rfl rfl jc_3 (by decide) (Nat.le_of_ble_eq_true rfl) ?_
    refine jx_goto (tgt := 77) dX4_lexOne_27 (by decide) ?_
    refine jx_iload_n dX4_lexOne_77 rfl ?_
    refine jx_iconst (v := 1) dX4_lexOne_78 (by decide) ?_
    refine jx_iadd dX4_lexOne_79 ?_
    cases hf
    exact jx_iret dX4_lexOne_80 rfl rfl
def l_X4_lexAll : Nat → Int32 → Int32 → jw → Option (jw)
  | 0, _, _, _ => none
  | n + 1, b1, b2, w => (if 400 < b2 then some w else jbd2 (f_X4_pastBlanks b1 w) fun x3 w4 => jbd2 (f_X4_lexOne x3 w4) fun x6 w7 => jl (rat (w7.2.2.2 4) b2 : Int32) fun x8 => (if x8 = 0 then some w7 else (if x8 = 1 then some w7 else jl (b2 + 1) fun x11 => (l_X4_lexAll n x6 x11 w7))))
set_option maxRecDepth 20000 in
set_option maxHeartbeats 2000000 in
theorem sl_X4_lexAll {E : jE} {A : (Nat → Nat) × Option Nat} (hE : jfull E) : ∀ (n : Nat) (b1 : Int32) (b2 : Int32) (w : jw) (w' : jw), l_X4_lexAll n b1 b2 w = some w' → jX E (ma_X4_lexAll A) 9 28 [(0, .ref (E.2.2.2 + 3)), (1, .int b1), (2, .int b2)] [] w none w' := by
  intro n
  induction n with
  | zero => intro b1 b2 w w' hf; cases hf
  | succ n ih =>
    intro b1 b2 w w' hf
    unfold l_X4_lexAll at hf
    refine jx_iload_n dX4_lexAll_28 rfl ?_
    refine jx_sipush (v := 400) dX4_lexAll_29 (by decide) ?_
    refine jx_icmp_gt (tgt := 70) dX4_lexAll_32 (by decide) (fun c1 => ?_) (fun c1 => ?_)
    · rw [if_pos c1] at hf
      cases hf
      exact jx_vret dX4_lexAll_70 rfl rfl
    · rw [if_neg c1] at hf
      refine jx_aload_n dX4_lexAll_35 rfl ?_
      refine jx_aload_n dX4_lexAll_36 rfl ?_
      refine jx_iload_n dX4_lexAll_37 rfl ?_
      obtain ⟨x3, w4, hq2, hf⟩ := jbd2_inv hf
      refine jx_cVi (a := 3) (As := [.int b1]) (rest := [.ref (E.2.2.2 + 3)]) dX4_lexAll_38 ml_X4_32 mv_X4_pastBlanks (s_X4_pastBlanks hE hq2) rfl rfl jc_3 (by decide) (Nat.le_of_ble_eq_true rfl) ?_
      obtain ⟨x6, w7, hq5, hf⟩ := jbd2_inv hf
      refine jx_cVi (a := 3) (As := [.int x3]) (rest := []) dX4_lexAll_41 ml_X4_36 (mva_X4_lexOne (A := A)) (s_X4_lexOne hE hq5) rfl rfl jc_3 (by decide) (Nat.le_of_ble_eq_true rfl) ?_ (Zs_i rfl rfl)
      refine jx_istore_n (ls' := [(0, .ref (E.2.2.2 + 3)), (1, .int x6), (2, .int b2)]) dX4_lexAll_44 (show 1 < 4 by decide) rfl ?_
      refine jx_aload_n dX4_lexAll_45 rfl ?_
      refine jx_getr dX4_lexAll_46 fl_X4_20 kj_3 sr_3_1 ?_
      refine jx_iload_n dX4_lexAll_49 rfl ?_
      refine jx_cVi (a := 4) (As := [.int b2]) (rest := []) dX4_lexAll_50 ml_X4_39 mv_X8_at (c_row_at (k := 0) kj_4 (by decide)) rfl rfl jc_4 (by decide) (Nat.le_of_ble_eq_true rfl) ?_
      obtain ⟨x8, hx8, hf⟩ := jl_inv hf
      refine jx_nm hx8 ?_
      refine jx_istore_n (ls' := [(0, .ref (E.2.2.2 + 3)), (1, .int x6), (2, .int b2), (3, .int x8)]) dX4_lexAll_53 (show 3 < 4 by decide) rfl ?_
      refine jx_iload_n dX4_lexAll_54 rfl ?_
      refine jx_if_eq (tgt := 63) dX4_lexAll_55 (by decide) (fun c9 => ?_) (fun c9 => ?_)
      · rw [if_pos c9] at hf
        cases hf
        exact jx_vret dX4_lexAll_63 rfl rfl
      · rw [if_neg c9] at hf
        refine jx_iload_n dX4_lexAll_58 rfl ?_
        refine jx_iconst (v := 1) dX4_lexAll_59 (by decide) ?_
        refine jx_icmp_ne (tgt := 64) dX4_lexAll_60 (by decide) (fun c10 => ?_) (fun c10 => ?_)
        · rw [if_neg c10] at hf
          obtain ⟨x11, hx11, hf⟩ := jl_inv hf
          refine jx_iinc (v := x11) (ls' := [(0, .ref (E.2.2.2 + 3)), (1, .int x6), (2, .int x11), (3, .int x8)]) dX4_lexAll_64 rfl (by rw [hx11]; rfl) (show 2 < 4 by decide) rfl ?_
          refine jx_goto (tgt := 28) dX4_lexAll_67 (by decide) ?_
          refine jx_pick [0, 1, 2] rfl ?_
          exact ih _ _ _ _ hf
        · rw [if_pos c10] at hf
          cases hf
          exact jx_vret dX4_lexAll_63 rfl rfl
def f_X4_lexAll  (w : jw) : Option (jw) := jl (jsetR w 4 (rcut (w.2.2.2 4) 0)) fun w12 => jl (jsetR w12 6 (rcut (w12.2.2.2 6) 0)) fun w13 => jl (jsetR w13 8 (rcut (w13.2.2.2 8) 0)) fun w14 => (l_X4_lexAll jfu 0 0 w14)
set_option maxRecDepth 20000 in
set_option maxHeartbeats 2000000 in
theorem s_X4_lexAll {E : jE} {A : (Nat → Nat) × Option Nat} (hE : jfull E)  {w w' : jw} (hf : f_X4_lexAll  w = some w') : jC E (ma_X4_lexAll A) 9 [.ref (E.2.2.2 + 3)] w none w' := by
  refine jC_of (ls := [(0, .ref (E.2.2.2 + 3))]) pnX4 rfl (fun _ => trivial) (Nat.le_of_ble_eq_true rfl) rfl rfl ?_
  unfold f_X4_lexAll at hf
  refine jx_aload_n dX4_lexAll_0 rfl ?_
  refine jx_getr dX4_lexAll_1 fl_X4_20 kj_3 sr_3_1 ?_
  refine jx_iconst (v := 0) dX4_lexAll_4 (by decide) ?_
  refine jx_cVv (a := 4) (As := [.int 0]) (rest := []) dX4_lexAll_5 ml_X4_29 mv_X8_shorten (c_row_shorten (k := 0) kj_4 (by decide)) rfl rfl jc_4 (by decide) (Nat.le_of_ble_eq_true rfl) ?_
  obtain ⟨w12, hw12, hf⟩ := jl_inv hf
  refine jx_nw hw12 ?_
  refine jx_aload_n dX4_lexAll_8 rfl ?_
  refine jx_getr dX4_lexAll_9 fl_X4_23 kj_3 sr_3_2 ?_
  refine jx_iconst (v := 0) dX4_lexAll_12 (by decide) ?_
  refine jx_cVv (a := 6) (As := [.int 0]) (rest := []) dX4_lexAll_13 ml_X4_29 mv_X8_shorten (c_row_shorten (k := 0) kj_6 (by decide)) rfl rfl jc_6 (by decide) (Nat.le_of_ble_eq_true rfl) ?_
  obtain ⟨w13, hw13, hf⟩ := jl_inv hf
  refine jx_nw hw13 ?_
  refine jx_aload_n dX4_lexAll_16 rfl ?_
  refine jx_getr dX4_lexAll_17 fl_X4_26 kj_3 sr_3_3 ?_
  refine jx_iconst (v := 0) dX4_lexAll_20 (by decide) ?_
  refine jx_cVv (a := 8) (As := [.int 0]) (rest := []) dX4_lexAll_21 ml_X4_29 mv_X8_shorten (c_row_shorten (k := 0) kj_8 (by decide)) rfl rfl jc_8 (by decide) (Nat.le_of_ble_eq_true rfl) ?_
  obtain ⟨w14, hw14, hf⟩ := jl_inv hf
  refine jx_nw hw14 ?_
  refine jx_iconst (v := 0) dX4_lexAll_24 (by decide) ?_
  refine jx_istore_n (ls' := [(0, .ref (E.2.2.2 + 3)), (1, .int 0)]) dX4_lexAll_25 (show 1 < 4 by decide) rfl ?_
  refine jx_iconst (v := 0) dX4_lexAll_26 (by decide) ?_
  refine jx_istore_n (ls' := [(0, .ref (E.2.2.2 + 3)), (1, .int 0), (2, .int 0)]) dX4_lexAll_27 (show 2 < 4 by decide) rfl ?_
  exact sl_X4_lexAll (A := A) hE jfu _ _ _ _ hf
