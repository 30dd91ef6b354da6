def l_X12_busiest_96 : Nat → Int32 → Int32 → Int32 → Int32 → Int32 → jw → Option (Int32 × jw)
  | 0, _, _, _, _, _, _ => none
  | n + 1, b1, b2, b3, b4, b5, w => (if b2 < b5 then (if b4 < 0 then some (b4, w) else (if b3 = 0 then some (b4, w) else jg (jin b4 1000) (some (w.2.1 187 (Int32.toNatClampNeg b4), w)))) else jg (jin b5 1000) ((if (w.2.1 187 (Int32.toNatClampNeg b5)) ≤ 0 then jl (b5 + 1) fun x7 => (l_X12_busiest_96 n b1 b2 b3 b4 x7 w) else (if b4 < 0 then jl (b5 + 1) fun x9 => (l_X12_busiest_96 n b1 b2 b3 b5 x9 w) else jg (jin b5 1000) (jg (jin b4 1000) ((if (w.2.1 187 (Int32.toNatClampNeg b5)) ≤ (w.2.1 187 (Int32.toNatClampNeg b4)) then jl (b5 + 1) fun x13 => (l_X12_busiest_96 n b1 b2 b3 b4 x13 w) else jl (b5 + 1) fun x14 => (l_X12_busiest_96 n b1 b2 b3 b5 x14 w))))))))
set_option maxRecDepth 20000 in
set_option maxHeartbeats 2000000 in
theorem sl_X12_busiest_96 {E : jE} (hE : jfull E) : ∀ (n : Nat) (b1 : Int32) (b2 : Int32) (b3 : Int32) (b4 : Int32) (b5 : Int32) (w : jw) (v : Int32) (w' : jw), l_X12_busiest_96 n b1 b2 b3 b4 b5 w = some (v, w') → jX E m_X12_busiest 3 96 [(0, .ref (E.2.2.2 + 162)), (1, .int b1), (2, .int b2), (3, .int b3), (4, .int b4), (5, .int b5)] [] w (some (.int v)) w' := by
  intro n
  induction n with
  | zero => intro b1 b2 b3 b4 b5 w v w' hf; cases hf
  | succ n ih =>
    intro b1 b2 b3 b4 b5 w v w' hf
    unfold l_X12_busiest_96 at hf
    refine jx_iload dX12_busiest_96 rfl ?_
    refine jx_iload_n dX12_busiest_98 rfl ?_
    refine jx_icmp_gt (tgt := 144) dX12_busiest_99 (by decide) (fun c1 => ?_) (fun c1 => ?_)
    · rw [if_pos c1] at hf
      refine jx_iload dX12_busiest_144 rfl ?_
      refine jx_if_lt (tgt := 153) dX12_busiest_146 (by decide) (fun c2 => ?_) (fun c2 => ?_)
      · rw [if_pos c2] at hf
        refine jx_iload dX12_busiest_153 rfl ?_
        refine jx_goto (tgt := 165) dX12_busiest_155 (by decide) ?_
        cases hf
        exact jx_iret dX12_busiest_165 rfl rfl
      · rw [if_neg c2] at hf
        refine jx_iload_n dX12_busiest_149 rfl ?_
        refine jx_if_ne (tgt := 158) dX12_busiest_150 (by decide) (fun c3 => ?_) (fun c3 => ?_)
        · rw [if_neg c3] at hf
          refine jx_aload_n dX12_busiest_158 rfl ?_
          refine jx_getr dX12_busiest_159 fl_X12_92 (kj_162 hE) sr_162_41 ?_
          refine jx_iload dX12_busiest_162 rfl ?_
          obtain ⟨c4, hf⟩ := jg_inv hf
          refine jx_iald dX12_busiest_164 (kj_187 hE) (jin_vp c4) ?_
          cases hf
          exact jx_iret dX12_busiest_165 rfl rfl
        · rw [if_pos c3] at hf
          refine jx_iload dX12_busiest_153 rfl ?_
          refine jx_goto (tgt := 165) dX12_busiest_155 (by decide) ?_
          cases hf
          exact jx_iret dX12_busiest_165 rfl rfl
    · rw [if_neg c1] at hf
      refine jx_aload_n dX12_busiest_102 rfl ?_
      refine jx_getr dX12_busiest_103 fl_X12_92 (kj_162 hE) sr_162_41 ?_
      refine jx_iload dX12_busiest_106 rfl ?_
      obtain ⟨c5, hf⟩ := jg_inv hf
      refine jx_iald dX12_busiest_108 (kj_187 hE) (jin_vp c5) ?_
      refine jx_if_le (tgt := 138) dX12_busiest_109 (by decide) (fun c6 => ?_) (fun c6 => ?_)
      · rw [if_pos c6] at hf
        obtain ⟨x7, hx7, hf⟩ := jl_inv hf
        refine jx_iinc (v := x7) (ls' := [(0, .ref (E.2.2.2 + 162)), (1, .int b1), (2, .int b2), (3, .int b3), (4, .int b4), (5, .int x7)]) dX12_busiest_138 rfl (by rw [hx7]; rfl) (by decide) rfl ?_
        refine jx_goto (tgt := 96) dX12_busiest_141 (by decide) ?_
        exact ih _ _ _ _ _ _ _ _ hf
      · rw [if_neg c6] at hf
        refine jx_iload dX12_busiest_112 rfl ?_
        refine jx_if_lt (tgt := 134) dX12_busiest_114 (by decide) (fun c8 => ?_) (fun c8 => ?_)
        · rw [if_pos c8] at hf
          refine jx_iload dX12_busiest_134 rfl ?_
          refine jx_istore (ls' := [(0, .ref (E.2.2.2 + 162)), (1, .int b1), (2, .int b2), (3, .int b3), (4, .int b5), (5, .int b5)]) dX12_busiest_136 (by decide) rfl ?_
          obtain ⟨x9, hx9, hf⟩ := jl_inv hf
          refine jx_iinc (v := x9) (ls' := [(0, .ref (E.2.2.2 + 162)), (1, .int b1), (2, .int b2), (3, .int b3), (4, .int b5), (5, .int x9)]) dX12_busiest_138 rfl (by rw [hx9]; rfl) (by decide) rfl ?_
          refine jx_goto (tgt := 96) dX12_busiest_141 (by decide) ?_
          exact ih _ _ _ _ _ _ _ _ hf
        · rw [if_neg c8] at hf
          refine jx_aload_n dX12_busiest_117 rfl ?_
          refine jx_getr dX12_busiest_118 fl_X12_92 (kj_162 hE) sr_162_41 ?_
          refine jx_iload dX12_busiest_121 rfl ?_
          obtain ⟨c10, hf⟩ := jg_inv hf
          refine jx_iald dX12_busiest_123 (kj_187 hE) (jin_vp c10) ?_
          refine jx_aload_n dX12_busiest_124 rfl ?_
          refine jx_getr dX12_busiest_125 fl_X12_92 (kj_162 hE) sr_162_41 ?_
          refine jx_iload dX12_busiest_128 rfl ?_
          obtain ⟨c11, hf⟩ := jg_inv hf
          refine jx_iald dX12_busiest_130 (kj_187 hE) (jin_vp c11) ?_
          refine jx_icmp_le (tgt := 138) dX12_busiest_131 (by decide) (fun c12 => ?_) (fun c12 => ?_)
          · rw [if_pos c12] at hf
            obtain ⟨x13, hx13, hf⟩ := jl_inv hf
            refine jx_iinc (v := x13) (ls' := [(0, .ref (E.2.2.2 + 162)), (1, .int b1), (2, .int b2), (3, .int b3), (4, .int b4), (5, .int x13)]) dX12_busiest_138 rfl (by rw [hx13]; rfl) (by decide) rfl ?_
            refine jx_goto (tgt := 96) dX12_busiest_141 (by decide) ?_
            exact ih _ _ _ _ _ _ _ _ hf
          · rw [if_neg c12] at hf
            refine jx_iload dX12_busiest_134 rfl ?_
            refine jx_istore (ls' := [(0, .ref (E.2.2.2 + 162)), (1, .int b1), (2, .int b2), (3, .int b3), (4, .int b5), (5, .int b5)]) dX12_busiest_136 (by decide) rfl ?_
            obtain ⟨x14, hx14, hf⟩ := jl_inv hf
            refine jx_iinc (v := x14) (ls' := [(0, .ref (E.2.2.2 + 162)), (1, .int b1), (2, .int b2), (3, .int b3), (4, .int b5), (5, .int x14)]) dX12_busiest_138 rfl (by rw [hx14]; rfl) (by decide) rfl ?_
            refine jx_goto (tgt := 96) dX12_busiest_141 (by decide) ?_
            exact ih _ _ _ _ _ _ _ _ hf
def l_X12_busiest_50 : Nat → Int32 → Int32 → Int32 → Int32 → jw → Option (Int32 × jw)
  | 0, _, _, _, _, _ => none
  | n + 1, b1, b2, b3, b4, w => jg (jin 4 34700) ((if (18100 + (4 * (w.2.1 182 (Int32.toNatClampNeg 4)))) ≤ b4 then (l_X12_busiest_96 jfu b1 b2 b3 (-2) b1 w) else jg (jin b4 34700) (jg (jin (w.2.1 182 (Int32.toNatClampNeg b4)) 1000) (jg (jin (w.2.1 182 (Int32.toNatClampNeg b4)) 1000) (jl (jsetX w 187 (Int32.toNatClampNeg (w.2.1 182 (Int32.toNatClampNeg b4))) ((w.2.1 187 (Int32.toNatClampNeg (w.2.1 182 (Int32.toNatClampNeg b4)))) + 1)) fun w20 => jl (b4 + 4) fun x21 => (l_X12_busiest_50 n b1 b2 b3 x21 w20))))))
set_option maxRecDepth 20000 in
set_option maxHeartbeats 2000000 in
theorem sl_X12_busiest_50 {E : jE} (hE : jfull E) : ∀ (n : Nat) (b1 : Int32) (b2 : Int32) (b3 : Int32) (b4 : Int32) (w : jw) (v : Int32) (w' : jw), l_X12_busiest_50 n b1 b2 b3 b4 w = some (v, w') → jX E m_X12_busiest 3 50 [(0, .ref (E.2.2.2 + 162)), (1, .int b1), (2, .int b2), (3, .int b3), (4, .int b4)] [] w (some (.int v)) w' := by
  intro n
  induction n with
  | zero => intro b1 b2 b3 b4 w v w' hf; cases hf
  | succ n ih =>
    intro b1 b2 b3 b4 w v w' hf
    unfold l_X12_busiest_50 at hf
    refine jx_iload dX12_busiest_50 rfl ?_
    refine jx_sipush (v := 18100) dX12_busiest_52 (by decide) ?_
    refine jx_iconst (v := 4) dX12_busiest_55 (by decide) ?_
    refine jx_aload_n dX12_busiest_56 rfl ?_
    refine jx_getr dX12_busiest_57 fl_X12_77 (kj_162 hE) sr_162_34 ?_
    refine jx_iconst (v := 4) dX12_busiest_60 (by decide) ?_
    obtain ⟨c15, hf⟩ := jg_inv hf
    refine jx_iald dX12_busiest_61 (kj_182 hE) (jin_vp c15) ?_
    refine jx_imul dX12_busiest_62 ?_
    refine jx_iadd dX12_busiest_63 ?_
    refine jx_icmp_ge (tgt := 89) dX12_busiest_64 (by decide) (fun c16 => ?_) (fun c16 => ?_)
    · rw [if_pos c16] at hf
      refine jx_bipush (v := (-2)) dX12_busiest_89 (by decide) ?_
      refine jx_istore (ls' := [(0, .ref (E.2.2.2 + 162)), (1, .int b1), (2, .int b2), (3, .int b3), (4, .int (-2))]) dX12_busiest_91 (by decide) rfl ?_
      refine jx_iload_n dX12_busiest_93 rfl ?_
      refine jx_istore (ls' := [(0, .ref (E.2.2.2 + 162)), (1, .int b1), (2, .int b2), (3, .int b3), (4, .int (-2)), (5, .int b1)]) dX12_busiest_94 (by decide) rfl ?_
      exact sl_X12_busiest_96 hE jfu _ _ _ _ _ _ _ _ hf
    · rw [if_neg c16] at hf
      refine jx_aload_n dX12_busiest_67 rfl ?_
      refine jx_getr dX12_busiest_68 fl_X12_92 (kj_162 hE) sr_162_41 ?_
      refine jx_aload_n dX12_busiest_71 rfl ?_
      refine jx_getr dX12_busiest_72 fl_X12_77 (kj_162 hE) sr_162_34 ?_
      refine jx_iload dX12_busiest_75 rfl ?_
      obtain ⟨c17, hf⟩ := jg_inv hf
      refine jx_iald dX12_busiest_77 (kj_182 hE) (jin_vp c17) ?_
      refine jx_dup2 dX12_busiest_78 rfl rfl ?_
      obtain ⟨c18, hf⟩ := jg_inv hf
      refine jx_iald dX12_busiest_79 (kj_187 hE) (jin_vp c18) ?_
      refine jx_iconst (v := 1) dX12_busiest_80 (by decide) ?_
      refine jx_iadd dX12_busiest_81 ?_
      obtain ⟨c19, hf⟩ := jg_inv hf
      refine jx_iast dX12_busiest_82 (kj_187 hE) (jin_vp c19) ?_
      obtain ⟨w20, hw20, hf⟩ := jl_inv hf
      refine jx_nw hw20 ?_
      obtain ⟨x21, hx21, hf⟩ := jl_inv hf
      refine jx_iinc (v := x21) (ls' := [(0, .ref (E.2.2.2 + 162)), (1, .int b1), (2, .int b2), (3, .int b3), (4, .int x21)]) dX12_busiest_83 rfl (by rw [hx21]; rfl) (by decide) rfl ?_
      refine jx_goto (tgt := 50) dX12_busiest_86 (by decide) ?_
      exact ih _ _ _ _ _ _ _ hf
def l_X12_busiest_23 : Nat → Int32 → Int32 → Int32 → Int32 → jw → Option (Int32 × jw)
  | 0, _, _, _, _, _ => none
  | n + 1, b1, b2, b3, b4, w => (if 1000 ≤ b4 then (l_X12_busiest_50 jfu b1 b2 b3 18100 w) else jg (jin b4 1000) (jl (jsetX w 187 (Int32.toNatClampNeg b4) 0) fun w24 => jl (b4 + 1) fun x25 => (l_X12_busiest_23 n b1 b2 b3 x25 w24)))
set_option maxRecDepth 20000 in
set_option maxHeartbeats 2000000 in
theorem sl_X12_busiest_23 {E : jE} (hE : jfull E) : ∀ (n : Nat) (b1 : Int32) (b2 : Int32) (b3 : Int32) (b4 : Int32) (w : jw) (v : Int32) (w' : jw), l_X12_busiest_23 n b1 b2 b3 b4 w = some (v, w') → jX E m_X12_busiest 3 23 [(0, .ref (E.2.2.2 + 162)), (1, .int b1), (2, .int b2), (3, .int b3), (4, .int b4)] [] w (some (.int v)) w' := by
  intro n
  induction n with
  | zero => intro b1 b2 b3 b4 w v w' hf; cases hf
  | succ n ih =>
    intro b1 b2 b3 b4 w v w' hf
    unfold l_X12_busiest_23 at hf
    refine jx_iload dX12_busiest_23 rfl ?_
    refine jx_sipush (v := 1000) dX12_busiest_25 (by decide) ?_
    refine jx_icmp_ge (tgt := 45) dX12_busiest_28 (by decide) (fun c22 => ?_) (fun c22 => ?_)
    · rw [if_pos c22] at hf
      refine jx_sipush (v := 18100) dX12_busiest_45 (by decide) ?_
      refine jx_istore (ls' := [(0, .ref (E.2.2.2 + 162)), (1, .int b1), (2, .int b2), (3, .int b3), (4, .int 18100)]) dX12_busiest_48 (by decide) rfl ?_
      exact sl_X12_busiest_50 hE jfu _ _ _ _ _ _ _ hf
    · rw [if_neg c22] at hf
      refine jx_aload_n dX12_busiest_31 rfl ?_
      refine jx_getr dX12_busiest_32 fl_X12_92 (kj_162 hE) sr_162_41 ?_
      refine jx_iload dX12_busiest_35 rfl ?_
      refine jx_iconst (v := 0) dX12_busiest_37 (by decide) ?_
      obtain ⟨c23, hf⟩ := jg_inv hf
      refine jx_iast dX12_busiest_38 (kj_187 hE) (jin_vp c23) ?_
      obtain ⟨w24, hw24, hf⟩ := jl_inv hf
      refine jx_nw hw24 ?_
      obtain ⟨x25, hx25, hf⟩ := jl_inv hf
      refine jx_iinc (v := x25) (ls' := [(0, .ref (E.2.2.2 + 162)), (1, .int b1), (2, .int b2), (3, .int b3), (4, .int x25)]) dX12_busiest_39 rfl (by rw [hx25]; rfl) (by decide) rfl ?_
      refine jx_goto (tgt := 23) dX12_busiest_42 (by decide) ?_
      exact ih _ _ _ _ _ _ _ hf
def f_X12_busiest (a1 : Int32) (a2 : Int32) (a3 : Int32) (w : jw) : Option (Int32 × jw) := jbd2 (f_X12_isRange a1 a2 w) fun x27 w28 => (if (jb x27) = 0 then some ((-1), w28) else jbd2 (f_X12_in a3 0 1 w28) fun x31 w32 => (if (jb x31) = 0 then some ((-1), w32) else (l_X12_busiest_23 jfu a1 a2 a3 0 w32)))
set_option maxRecDepth 20000 in
set_option maxHeartbeats 2000000 in
theorem s_X12_busiest {E : jE} (hE : jfull E) {a1 : Int32} {a2 : Int32} {a3 : Int32} {w w' : jw} {v : Int32} (hf : f_X12_busiest a1 a2 a3 w = some (v, w')) : jC E m_X12_busiest 3 [.ref (E.2.2.2 + 162), .int a1, .int a2, .int a3] w (some (.int v)) w' := by
  refine jC_of (ls := [(0, .ref (E.2.2.2 + 162)), (1, .int a1), (2, .int a2), (3, .int a3)]) (by decide) rfl (fun _ => trivial) (Nat.le_of_ble_eq_true rfl) rfl ⟨.int, rfl, rfl⟩ ?_
  unfold f_X12_busiest at hf
  refine jx_aload_n dX12_busiest_0 rfl ?_
  refine jx_iload_n dX12_busiest_1 rfl ?_
  refine jx_iload_n dX12_busiest_2 rfl ?_
  obtain ⟨x27, w28, hq26, hf⟩ := jbd2_inv hf
  refine jx_cVi (a := 162) (As := [.int a1, .int a2]) (rest := []) dX12_busiest_3 ml_X12_340 mv_X12_isRange (s_X12_isRange hE hq26) rfl rfl (jc_162 hE) (by decide) (Nat.le_of_ble_eq_true rfl) ?_
  refine jx_if_eq (tgt := 18) dX12_busiest_6 (by decide) (fun c29 => ?_) (fun c29 => ?_)
  · rw [if_pos c29] at hf
    refine jx_iconst (v := (-1)) dX12_busiest_18 (by decide) ?_
    cases hf
    exact jx_iret dX12_busiest_19 rfl rfl
  · rw [if_neg c29] at hf
    refine jx_iload_n dX12_busiest_9 rfl ?_
    refine jx_iconst (v := 0) dX12_busiest_10 (by decide) ?_
    refine jx_iconst (v := 1) dX12_busiest_11 (by decide) ?_
    obtain ⟨x31, w32, hq30, hf⟩ := jbd2_inv hf
    refine jx_cSi (As := [.int a3, .int 0, .int 1]) (rest := []) dX12_busiest_12 ml_X12_324 ms_X12_in (s_X12_in hE hq30) rfl rfl rfl (by decide) (Nat.le_of_ble_eq_true rfl) ?_
    refine jx_if_ne (tgt := 20) dX12_busiest_15 (by decide) (fun c33 => ?_) (fun c33 => ?_)
    · rw [if_neg c33] at hf
      refine jx_iconst (v := 0) dX12_busiest_20 (by decide) ?_
      refine jx_istore (ls' := [(0, .ref (E.2.2.2 + 162)), (1, .int a1), (2, .int a2), (3, .int a3), (4, .int 0)]) dX12_busiest_21 (by decide) rfl ?_
      exact sl_X12_busiest_23 hE jfu _ _ _ _ _ _ _ hf
    · rw [if_pos c33] at hf
      refine jx_iconst (v := (-1)) dX12_busiest_18 (by decide) ?_
      cases hf
      exact jx_iret dX12_busiest_19 rfl rfl
def l_X12_peak_153 : Nat → Int32 → Int32 → Int32 → Int32 → Int32 → Int32 → Int32 → jw → Option (Int32 × jw)
  | 0, _, _, _, _, _, _, _, _ => none
  | n + 1, b1, b2, b3, b4, b5, b6, b7, w => jg (jin 0 34700) ((if (w.2.1 182 (Int32.toNatClampNeg 0)) < b7 then (if b3 = 0 then some (b4, w) else some (b5, w)) else jg (jin b7 7800) (jl (b6 + (w.2.1 189 (Int32.toNatClampNeg b7)) : Int32) fun x5 => (if b5 < x5 then jl (b7 + 1) fun x7 => (l_X12_peak_153 n b1 b2 b3 b7 x5 x5 x7 w) else jl (b7 + 1) fun x8 => (l_X12_peak_153 n b1 b2 b3 b4 b5 x5 x8 w)))))
set_option maxRecDepth 20000 in
set_option maxHeartbeats 2000000 in
theorem sl_X12_peak_153 {E : jE} (hE : jfull E) : ∀ (n : Nat) (b1 : Int32) (b2 : Int32) (b3 : Int32) (b4 : Int32) (b5 : Int32) (b6 : Int32) (b7 : Int32) (w : jw) (v : Int32) (w' : jw), l_X12_peak_153 n b1 b2 b3 b4 b5 b6 b7 w = some (v, w') → jX E m_X12_peak 3 153 [(0, .ref (E.2.2.2 + 162)), (1, .int b1), (2, .int b2), (3, .int b3), (4, .int b4), (5, .int b5), (6, .int b6), (7, .int b7)] [] w (some (.int v)) w' := by
  intro n
  induction n with
  | zero => intro b1 b2 b3 b4 b5 b6 b7 w v w' hf; cases hf
  | succ n ih =>
    intro b1 b2 b3 b4 b5 b6 b7 w v w' hf
    unfold l_X12_peak_153 at hf
    refine jx_iload dX12_peak_153 rfl ?_
    refine jx_aload_n dX12_peak_155 rfl ?_
    refine jx_getr dX12_peak_156 fl_X12_77 (kj_162 hE) sr_162_34 ?_
    refine jx_iconst (v := 0) dX12_peak_159 (by decide) ?_
    obtain ⟨c1, hf⟩ := jg_inv hf
    refine jx_iald dX12_peak_160 (kj_182 hE) (jin_vp c1) ?_
    refine jx_icmp_gt (tgt := 200) dX12_peak_161 (by decide) (fun c2 => ?_) (fun c2 => ?_)
    · rw [if_pos c2] at hf
      refine jx_iload_n dX12_peak_200 rfl ?_
      refine jx_if_ne (tgt := 209) dX12_peak_201 (by decide) (fun c3 => ?_) (fun c3 => ?_)
      · rw [if_neg c3] at hf
        refine jx_iload dX12_peak_209 rfl ?_
        cases hf
        exact jx_iret dX12_peak_211 rfl rfl
      · rw [if_pos c3] at hf
        refine jx_iload dX12_peak_204 rfl ?_
        refine jx_goto (tgt := 211) dX12_peak_206 (by decide) ?_
        cases hf
        exact jx_iret dX12_peak_211 rfl rfl
    · rw [if_neg c2] at hf
      refine jx_iload dX12_peak_164 rfl ?_
      refine jx_aload_n dX12_peak_166 rfl ?_
      refine jx_getr dX12_peak_167 fl_X12_98 (kj_162 hE) sr_162_43 ?_
      refine jx_iload dX12_peak_170 rfl ?_
      obtain ⟨c4, hf⟩ := jg_inv hf
      refine jx_iald dX12_peak_172 (kj_189 hE) (jin_vp c4) ?_
      refine jx_iadd dX12_peak_173 ?_
      obtain ⟨x5, hx5, hf⟩ := jl_inv hf
      refine jx_nm hx5 ?_
      refine jx_istore (ls' := [(0, .ref (E.2.2.2 + 162)), (1, .int b1), (2, .int b2), (3, .int b3), (4, .int b4), (5, .int b5), (6, .int x5), (7, .int b7)]) dX12_peak_174 (by decide) rfl ?_
      refine jx_iload dX12_peak_176 rfl ?_
      refine jx_iload dX12_peak_178 rfl ?_
      refine jx_icmp_gt (tgt := 186) dX12_peak_180 (by decide) (fun c6 => ?_) (fun c6 => ?_)
      · rw [if_pos c6] at hf
        refine jx_iload dX12_peak_186 rfl ?_
        refine jx_istore (ls' := [(0, .ref (E.2.2.2 + 162)), (1, .int b1), (2, .int b2), (3, .int b3), (4, .int b7), (5, .int b5), (6, .int x5), (7, .int b7)]) dX12_peak_188 (by decide) rfl ?_
        refine jx_iload dX12_peak_190 rfl ?_
        refine jx_istore (ls' := [(0, .ref (E.2.2.2 + 162)), (1, .int b1), (2, .int b2), (3, .int b3), (4, .int b7), (5, .int x5), (6, .int x5), (7, .int b7)]) dX12_peak_192 (by decide) rfl ?_
        obtain ⟨x7, hx7, hf⟩ := jl_inv hf
        refine jx_iinc (v := x7) (ls' := [(0, .ref (E.2.2.2 + 162)), (1, .int b1), (2, .int b2), (3, .int b3), (4, .int b7), (5, .int x5), (6, .int x5), (7, .int x7)]) dX12_peak_194 rfl (by rw [hx7]; rfl) (by decide) rfl ?_
        refine jx_goto (tgt := 153) dX12_peak_197 (by decide) ?_
        exact ih _ _ _ _ _ _ _ _ _ _ hf
      · rw [if_neg c6] at hf
        refine jx_goto (tgt := 194) dX12_peak_183 (by decide) ?_
        obtain ⟨x8, hx8, hf⟩ := jl_inv hf
        refine jx_iinc (v := x8) (ls' := [(0, .ref (E.2.2.2 + 162)), (1, .int b1), (2, .int b2), (3, .int b3), (4, .int b4), (5, .int b5), (6, .int x5), (7, .int x8)]) dX12_peak_194 rfl (by rw [hx8]; rfl) (by decide) rfl ?_
        refine jx_goto (tgt := 153) dX12_peak_197 (by decide) ?_
        exact ih _ _ _ _ _ _ _ _ _ _ hf
def l_X12_peak_59 : Nat → Int32 → Int32 → Int32 → Int32 → Int32 → Int32 → Int32 → jw → Option (Int32 × jw)
  | 0, _, _, _, _, _, _, _, _ => none
  | n + 1, b1, b2, b3, b4, b5, b6, b7, w => jg (jin 4 34700) ((if (18100 + (4 * (w.2.1 182 (Int32.toNatClampNeg 4)))) ≤ b7 then (l_X12_peak_153 jfu b1 b2 b3 b4 b5 b6 0 w) else jg (jin b7 34700) (jbd2 (f_X12_in (w.2.1 182 (Int32.toNatClampNeg b7)) b1 b2 w) fun x13 w14 => (if (jb x13) = 0 then jl (b7 + 4) fun x28 => (l_X12_peak_59 n b1 b2 b3 b4 b5 b6 x28 w14) else jg (jin (b7 + 1) 34700) (jg (jin (w14.2.1 182 (Int32.toNatClampNeg (b7 + 1))) 7800) (jg (jin (w14.2.1 182 (Int32.toNatClampNeg (b7 + 1))) 7800) (jl (jsetX w14 189 (Int32.toNatClampNeg (w14.2.1 182 (Int32.toNatClampNeg (b7 + 1)))) ((w14.2.1 189 (Int32.toNatClampNeg (w14.2.1 182 (Int32.toNatClampNeg (b7 + 1))))) + 1)) fun w19 => jg (jin (b7 + 2) 34700) ((if (w19.2.1 182 (Int32.toNatClampNeg (b7 + 2))) = (-2) then jl (b7 + 4) fun x22 => (l_X12_peak_59 n b1 b2 b3 b4 b5 b6 x22 w19) else jg (jin (b7 + 2) 34700) (jg (jin (w19.2.1 182 (Int32.toNatClampNeg (b7 + 2))) 7800) (jg (jin (w19.2.1 182 (Int32.toNatClampNeg (b7 + 2))) 7800) (jl (jsetX w19 189 (Int32.toNatClampNeg (w19.2.1 182 (Int32.toNatClampNeg (b7 + 2)))) ((w19.2.1 189 (Int32.toNatClampNeg (w19.2.1 182 (Int32.toNatClampNeg (b7 + 2))))) - 1)) fun w26 => jl (b7 + 4) fun x27 => (l_X12_peak_59 n b1 b2 b3 b4 b5 b6 x27 w26)))))))))))))
set_option maxRecDepth 20000 in
set_option maxHeartbeats 2000000 in
theorem sl_X12_peak_59 {E : jE} (hE : jfull E) : ∀ (n : Nat) (b1 : Int32) (b2 : Int32) (b3 : Int32) (b4 : Int32) (b5 : Int32) (b6 : Int32) (b7 : Int32) (w : jw) (v : Int32) (w' : jw), l_X12_peak_59 n b1 b2 b3 b4 b5 b6 b7 w = some (v, w') → jX E m_X12_peak 3 59 [(0, .ref (E.2.2.2 + 162)), (1, .int b1), (2, .int b2), (3, .int b3), (4, .int b4), (5, .int b5), (6, .int b6), (7, .int b7)] [] w (some (.int v)) w' := by
  intro n
  induction n with
  | zero => intro b1 b2 b3 b4 b5 b6 b7 w v w' hf; cases hf
  | succ n ih =>
    intro b1 b2 b3 b4 b5 b6 b7 w v w' hf
    unfold l_X12_peak_59 at hf
    refine jx_iload dX12_peak_59 rfl ?_
    refine jx_sipush (v := 18100) dX12_peak_61 (by decide) ?_
    refine jx_iconst (v := 4) dX12_peak_64 (by decide) ?_
    refine jx_aload_n dX12_peak_65 rfl ?_
    refine jx_getr dX12_peak_66 fl_X12_77 (kj_162 hE) sr_162_34 ?_
    refine jx_iconst (v := 4) dX12_peak_69 (by decide) ?_
    obtain ⟨c9, hf⟩ := jg_inv hf
    refine jx_iald dX12_peak_70 (kj_182 hE) (jin_vp c9) ?_
    refine jx_imul dX12_peak_71 ?_
    refine jx_iadd dX12_peak_72 ?_
    refine jx_icmp_ge (tgt := 150) dX12_peak_73 (by decide) (fun c10 => ?_) (fun c10 => ?_)
    · rw [if_pos c10] at hf
      refine jx_iconst (v := 0) dX12_peak_150 (by decide) ?_
      refine jx_istore (ls' := [(0, .ref (E.2.2.2 + 162)), (1, .int b1), (2, .int b2), (3, .int b3), (4, .int b4), (5, .int b5), (6, .int b6), (7, .int 0)]) dX12_peak_151 (by decide) rfl ?_
      exact sl_X12_peak_153 hE jfu _ _ _ _ _ _ _ _ _ _ hf
    · rw [if_neg c10] at hf
      refine jx_aload_n dX12_peak_76 rfl ?_
      refine jx_getr dX12_peak_77 fl_X12_77 (kj_162 hE) sr_162_34 ?_
      refine jx_iload dX12_peak_80 rfl ?_
      obtain ⟨c11, hf⟩ := jg_inv hf
      refine jx_iald dX12_peak_82 (kj_182 hE) (jin_vp c11) ?_
      refine jx_iload_n dX12_peak_83 rfl ?_
      refine jx_iload_n dX12_peak_84 rfl ?_
      obtain ⟨x13, w14, hq12, hf⟩ := jbd2_inv hf
      refine jx_cSi (As := [.int (w.2.1 182 (Int32.toNatClampNeg b7)), .int b1, .int b2]) (rest := []) dX12_peak_85 ml_X12_324 ms_X12_in (s_X12_in hE hq12) rfl rfl rfl (by decide) (Nat.le_of_ble_eq_true rfl) ?_
      refine jx_if_ne (tgt := 94) dX12_peak_88 (by decide) (fun c15 => ?_) (fun c15 => ?_)
      · rw [if_neg c15] at hf
        refine jx_aload_n dX12_peak_94 rfl ?_
        refine jx_getr dX12_peak_95 fl_X12_98 (kj_162 hE) sr_162_43 ?_
        refine jx_aload_n dX12_peak_98 rfl ?_
        refine jx_getr dX12_peak_99 fl_X12_77 (kj_162 hE) sr_162_34 ?_
        refine jx_iload dX12_peak_102 rfl ?_
        refine jx_iconst (v := 1) dX12_peak_104 (by decide) ?_
        refine jx_iadd dX12_peak_105 ?_
        obtain ⟨c16, hf⟩ := jg_inv hf
        refine jx_iald dX12_peak_106 (kj_182 hE) (jin_vp c16) ?_
        refine jx_dup2 dX12_peak_107 rfl rfl ?_
        obtain ⟨c17, hf⟩ := jg_inv hf
        refine jx_iald dX12_peak_108 (kj_189 hE) (jin_vp c17) ?_
        refine jx_iconst (v := 1) dX12_peak_109 (by decide) ?_
        refine jx_iadd dX12_peak_110 ?_
        obtain ⟨c18, hf⟩ := jg_inv hf
        refine jx_iast dX12_peak_111 (kj_189 hE) (jin_vp c18) ?_
        obtain ⟨w19, hw19, hf⟩ := jl_inv hf
        refine jx_nw hw19 ?_
        refine jx_aload_n dX12_peak_112 rfl ?_
        refine jx_getr dX12_peak_113 fl_X12_77 (kj_162 hE) sr_162_34 ?_
        refine jx_iload dX12_peak_116 rfl ?_
        refine jx_iconst (v := 2) dX12_peak_118 (by decide) ?_
        refine jx_iadd dX12_peak_119 ?_
        obtain ⟨c20, hf⟩ := jg_inv hf
        refine jx_iald dX12_peak_120 (kj_182 hE) (jin_vp c20) ?_
        refine jx_bipush (v := (-2)) dX12_peak_121 (by decide) ?_
        refine jx_icmp_eq (tgt := 144) dX12_peak_123 (by decide) (fun c21 => ?_) (fun c21 => ?_)
        · rw [if_pos c21] at hf
          obtain ⟨x22, hx22, hf⟩ := jl_inv hf
          refine jx_iinc (v := x22) (ls' := [(0, .ref (E.2.2.2 + 162)), (1, .int b1), (2, .int b2), (3, .int b3), (4, .int b4), (5, .int b5), (6, .int b6), (7, .int x22)]) dX12_peak_144 rfl (by rw [hx22]; rfl) (by decide) rfl ?_
          refine jx_goto (tgt := 59) dX12_peak_147 (by decide) ?_
          exact ih _ _ _ _ _ _ _ _ _ _ hf
        · rw [if_neg c21] at hf
          refine jx_aload_n dX12_peak_126 rfl ?_
          refine jx_getr dX12_peak_127 fl_X12_98 (kj_162 hE) sr_162_43 ?_
          refine jx_aload_n dX12_peak_130 rfl ?_
          refine jx_getr dX12_peak_131 fl_X12_77 (kj_162 hE) sr_162_34 ?_
          refine jx_iload dX12_peak_134 rfl ?_
          refine jx_iconst (v := 2) dX12_peak_136 (by decide) ?_
          refine jx_iadd dX12_peak_137 ?_
          obtain ⟨c23, hf⟩ := jg_inv hf
          refine jx_iald dX12_peak_138 (kj_182 hE) (jin_vp c23) ?_
          refine jx_dup2 dX12_peak_139 rfl rfl ?_
          obtain ⟨c24, hf⟩ := jg_inv hf
          refine jx_iald dX12_peak_140 (kj_189 hE) (jin_vp c24) ?_
          refine jx_iconst (v := 1) dX12_peak_141 (by decide) ?_
          refine jx_isub dX12_peak_142 ?_
          obtain ⟨c25, hf⟩ := jg_inv hf
          refine jx_iast dX12_peak_143 (kj_189 hE) (jin_vp c25) ?_
          obtain ⟨w26, hw26, hf⟩ := jl_inv hf
          refine jx_nw hw26 ?_
          obtain ⟨x27, hx27, hf⟩ := jl_inv hf
          refine jx_iinc (v := x27) (ls' := [(0, .ref (E.2.2.2 + 162)), (1, .int b1), (2, .int b2), (3, .int b3), (4, .int b4), (5, .int b5), (6, .int b6), (7, .int x27)]) dX12_peak_144 rfl (by rw [hx27]; rfl) (by decide) rfl ?_
          refine jx_goto (tgt := 59) dX12_peak_147 (by decide) ?_
          exact ih _ _ _ _ _ _ _ _ _ _ hf
      · rw [if_pos c15] at hf
        refine jx_goto (tgt := 144) dX12_peak_91 (by decide) ?_
        obtain ⟨x28, hx28, hf⟩ := jl_inv hf
        refine jx_iinc (v := x28) (ls' := [(0, .ref (E.2.2.2 + 162)), (1, .int b1), (2, .int b2), (3, .int b3), (4, .int b4), (5, .int b5), (6, .int b6), (7, .int x28)]) dX12_peak_144 rfl (by rw [hx28]; rfl) (by decide) rfl ?_
        refine jx_goto (tgt := 59) dX12_peak_147 (by decide) ?_
        exact ih _ _ _ _ _ _ _ _ _ _ hf
def l_X12_peak_32 : Nat → Int32 → Int32 → Int32 → Int32 → Int32 → Int32 → Int32 → jw → Option (Int32 × jw)
  | 0, _, _, _, _, _, _, _, _ => none
  | n + 1, b1, b2, b3, b4, b5, b6, b7, w => (if 7800 ≤ b7 then (l_X12_peak_59 jfu b1 b2 b3 b4 b5 b6 18100 w) else jg (jin b7 7800) (jl (jsetX w 189 (Int32.toNatClampNeg b7) 0) fun w31 => jl (b7 + 1) fun x32 => (l_X12_peak_32 n b1 b2 b3 b4 b5 b6 x32 w31)))
set_option maxRecDepth 20000 in
set_option maxHeartbeats 2000000 in
theorem sl_X12_peak_32 {E : jE} (hE : jfull E) : ∀ (n : Nat) (b1 : Int32) (b2 : Int32) (b3 : Int32) (b4 : Int32) (b5 : Int32) (b6 : Int32) (b7 : Int32) (w : jw) (v : Int32) (w' : jw), l_X12_peak_32 n b1 b2 b3 b4 b5 b6 b7 w = some (v, w') → jX E m_X12_peak 3 32 [(0, .ref (E.2.2.2 + 162)), (1, .int b1), (2, .int b2), (3, .int b3), (4, .int b4), (5, .int b5), (6, .int b6), (7, .int b7)] [] w (some (.int v)) w' := by
  intro n
  induction n with
  | zero => intro b1 b2 b3 b4 b5 b6 b7 w v w' hf; cases hf
  | succ n ih =>
    intro b1 b2 b3 b4 b5 b6 b7 w v w' hf
    unfold l_X12_peak_32 at hf
    refine jx_iload dX12_peak_32 rfl ?_
    refine jx_sipush (v := 7800) dX12_peak_34 (by decide) ?_
    refine jx_icmp_ge (tgt := 54) dX12_peak_37 (by decide) (fun c29 => ?_) (fun c29 => ?_)
    · rw [if_pos c29] at hf
      refine jx_sipush (v := 18100) dX12_peak_54 (by decide) ?_
      refine jx_istore (ls' := [(0, .ref (E.2.2.2 + 162)), (1, .int b1), (2, .int b2), (3, .int b3), (4, .int b4), (5, .int b5), (6, .int b6), (7, .int 18100)]) dX12_peak_57 (by decide) rfl ?_
      exact sl_X12_peak_59 hE jfu _ _ _ _ _ _ _ _ _ _ hf
    · rw [if_neg c29] at hf
      refine jx_aload_n dX12_peak_40 rfl ?_
      refine jx_getr dX12_peak_41 fl_X12_98 (kj_162 hE) sr_162_43 ?_
      refine jx_iload dX12_peak_44 rfl ?_
      refine jx_iconst (v := 0) dX12_peak_46 (by decide) ?_
      obtain ⟨c30, hf⟩ := jg_inv hf
      refine jx_iast dX12_peak_47 (kj_189 hE) (jin_vp c30) ?_
      obtain ⟨w31, hw31, hf⟩ := jl_inv hf
      refine jx_nw hw31 ?_
      obtain ⟨x32, hx32, hf⟩ := jl_inv hf
      refine jx_iinc (v := x32) (ls' := [(0, .ref (E.2.2.2 + 162)), (1, .int b1), (2, .int b2), (3, .int b3), (4, .int b4), (5, .int b5), (6, .int b6), (7, .int x32)]) dX12_peak_48 rfl (by rw [hx32]; rfl) (by decide) rfl ?_
      refine jx_goto (tgt := 32) dX12_peak_51 (by decide) ?_
      exact ih _ _ _ _ _ _ _ _ _ _ hf
def f_X12_peak (a1 : Int32) (a2 : Int32) (a3 : Int32) (w : jw) : Option (Int32 × jw) := jbd2 (f_X12_isRange a1 a2 w) fun x34 w35 => (if (jb x34) = 0 then some ((-1), w35) else jbd2 (f_X12_in a3 0 1 w35) fun x38 w39 => (if (jb x38) = 0 then some ((-1), w39) else (l_X12_peak_32 jfu a1 a2 a3 0 0 0 0 w39)))
set_option maxRecDepth 20000 in
set_option maxHeartbeats 2000000 in
theorem s_X12_peak {E : jE} (hE : jfull E) {a1 : Int32} {a2 : Int32} {a3 : Int32} {w w' : jw} {v : Int32} (hf : f_X12_peak a1 a2 a3 w = some (v, w')) : jC E m_X12_peak 3 [.ref (E.2.2.2 + 162), .int a1, .int a2, .int a3] w (some (.int v)) w' := by
  refine jC_of (ls := [(0, .ref (E.2.2.2 + 162)), (1, .int a1), (2, .int a2), (3, .int a3)]) (by decide) rfl (fun _ => trivial) (Nat.le_of_ble_eq_true rfl) rfl ⟨.int, rfl, rfl⟩ ?_
  unfold f_X12_peak at hf
  refine jx_aload_n dX12_peak_0 rfl ?_
  refine jx_iload_n dX12_peak_1 rfl ?_
  refine jx_iload_n dX12_peak_2 rfl ?_
  obtain ⟨x34, w35, hq33, hf⟩ := jbd2_inv hf
  refine jx_cVi (a := 162) (As := [.int a1, .int a2]) (rest := []) dX12_peak_3 ml_X12_340 mv_X12_isRange (s_X12_isRange hE hq33) rfl rfl (jc_162 hE) (by decide) (Nat.le_of_ble_eq_true rfl) ?_
  refine jx_if_eq (tgt := 18) dX12_peak_6 (by decide) (fun c36 => ?_) (fun c36 => ?_)
  · rw [if_pos c36] at hf
    refine jx_iconst (v := (-1)) dX12_peak_18 (by decide) ?_
    cases hf
    exact jx_iret dX12_peak_19 rfl rfl
  · rw [if_neg c36] at hf
    refine jx_iload_n dX12_peak_9 rfl ?_
    refine jx_iconst (v := 0) dX12_peak_10 (by decide) ?_
    refine jx_iconst (v := 1) dX12_peak_11 (by decide) ?_
    obtain ⟨x38, w39, hq37, hf⟩ := jbd2_inv hf
    refine jx_cSi (As := [.int a3, .int 0, .int 1]) (rest := []) dX12_peak_12 ml_X12_324 ms_X12_in (s_X12_in hE hq37) rfl rfl rfl (by decide) (Nat.le_of_ble_eq_true rfl) ?_
    refine jx_if_ne (tgt := 20) dX12_peak_15 (by decide) (fun c40 => ?_) (fun c40 => ?_)
    · rw [if_neg c40] at hf
      refine jx_iconst (v := 0) dX12_peak_20 (by decide) ?_
      refine jx_istore (ls' := [(0, .ref (E.2.2.2 + 162)), (1, .int a1), (2, .int a2), (3, .int a3), (4, .int 0)]) dX12_peak_21 (by decide) rfl ?_
      refine jx_iconst (v := 0) dX12_peak_23 (by decide) ?_
      refine jx_istore (ls' := [(0, .ref (E.2.2.2 + 162)), (1, .int a1), (2, .int a2), (3, .int a3), (4, .int 0), (5, .int 0)]) dX12_peak_24 (by decide) rfl ?_
      refine jx_iconst (v := 0) dX12_peak_26 (by decide) ?_
      refine jx_istore (ls' := [(0, .ref (E.2.2.2 + 162)), (1, .int a1), (2, .int a2), (3, .int a3), (4, .int 0), (5, .int 0), (6, .int 0)]) dX12_peak_27 (by decide) rfl ?_
      refine jx_iconst (v := 0) dX12_peak_29 (by decide) ?_
      refine jx_istore (ls' := [(0, .ref (E.2.2.2 + 162)), (1, .int a1), (2, .int a2), (3, .int a3), (4, .int 0), (5, .int 0), (6, .int 0), (7, .int 0)]) dX12_peak_30 (by decide) rfl ?_
      exact sl_X12_peak_32 hE jfu _ _ _ _ _ _ _ _ _ _ hf
    · rw [if_pos c40] at hf
      refine jx_iconst (v := (-1)) dX12_peak_18 (by decide) ?_
      cases hf
      exact jx_iret dX12_peak_19 rfl rfl
def l_X12_gap : Nat → Int32 → Int32 → Int32 → Int32 → Int32 → Int32 → jw → Option (Int32 × jw)
  | 0, _, _, _, _, _, _, _ => none
  | n + 1, b1, b2, b3, b4, b5, b6, w => (if 1000 ≤ b6 then (if b2 = 0 then some (b4, w) else some (b5, w)) else jg (jin b6 1000) ((if 0 ≤ (w.2.1 187 (Int32.toNatClampNeg b6)) then (if b3 < 0 then jl (b6 + 1) fun x6 => (l_X12_gap n b1 b2 b6 b4 b5 x6 w) else (if (b6 - b3) ≤ b5 then jl (b6 + 1) fun x8 => (l_X12_gap n b1 b2 b6 b4 b5 x8 w) else jl (b6 - b3 : Int32) fun x9 => jl (b6 + 1) fun x10 => (l_X12_gap n b1 b2 b6 b3 x9 x10 w))) else jl (b6 + 1) fun x11 => (l_X12_gap n b1 b2 b3 b4 b5 x11 w))))
set_option maxRecDepth 20000 in
set_option maxHeartbeats 2000000 in
theorem sl_X12_gap {E : jE} (hE : jfull E) : ∀ (n : Nat) (b1 : Int32) (b2 : Int32) (b3 : Int32) (b4 : Int32) (b5 : Int32) (b6 : Int32) (w : jw) (v : Int32) (w' : jw), l_X12_gap n b1 b2 b3 b4 b5 b6 w = some (v, w') → jX E m_X12_gap 2 37 [(0, .ref (E.2.2.2 + 162)), (1, .int b1), (2, .int b2), (3, .int b3), (4, .int b4), (5, .int b5), (6, .int b6)] [] w (some (.int v)) w' := by
  intro n
  induction n with
  | zero => intro b1 b2 b3 b4 b5 b6 w v w' hf; cases hf
  | succ n ih =>
    intro b1 b2 b3 b4 b5 b6 w v w' hf
    unfold l_X12_gap at hf
    refine jx_iload dX12_gap_37 rfl ?_
    refine jx_sipush (v := 1000) dX12_gap_39 (by decide) ?_
    refine jx_icmp_ge (tgt := 89) dX12_gap_42 (by decide) (fun c1 => ?_) (fun c1 => ?_)
    · rw [if_pos c1] at hf
      refine jx_iload_n dX12_gap_89 rfl ?_
      refine jx_if_ne (tgt := 98) dX12_gap_90 (by decide) (fun c2 => ?_) (fun c2 => ?_)
      · rw [if_neg c2] at hf
        refine jx_iload dX12_gap_98 rfl ?_
        cases hf
        exact jx_iret dX12_gap_100 rfl rfl
      · rw [if_pos c2] at hf
        refine jx_iload dX12_gap_93 rfl ?_
        refine jx_goto (tgt := 100) dX12_gap_95 (by decide) ?_
        cases hf
        exact jx_iret dX12_gap_100 rfl rfl
    · rw [if_neg c1] at hf
      refine jx_aload_n dX12_gap_45 rfl ?_
      refine jx_getr dX12_gap_46 fl_X12_92 (kj_162 hE) sr_162_41 ?_
      refine jx_iload dX12_gap_49 rfl ?_
      obtain ⟨c3, hf⟩ := jg_inv hf
      refine jx_iald dX12_gap_51 (kj_187 hE) (jin_vp c3) ?_
      refine jx_if_ge (tgt := 58) dX12_gap_52 (by decide) (fun c4 => ?_) (fun c4 => ?_)
      · rw [if_pos c4] at hf
        refine jx_iload_n dX12_gap_58 rfl ?_
        refine jx_if_lt (tgt := 80) dX12_gap_59 (by decide) (fun c5 => ?_) (fun c5 => ?_)
        · rw [if_pos c5] at hf
          refine jx_iload dX12_gap_80 rfl ?_
          refine jx_istore_n (ls' := [(0, .ref (E.2.2.2 + 162)), (1, .int b1), (2, .int b2), (3, .int b6), (4, .int b4), (5, .int b5), (6, .int b6)]) dX12_gap_82 (by decide) rfl ?_
          obtain ⟨x6, hx6, hf⟩ := jl_inv hf
          refine jx_iinc (v := x6) (ls' := [(0, .ref (E.2.2.2 + 162)), (1, .int b1), (2, .int b2), (3, .int b6), (4, .int b4), (5, .int b5), (6, .int x6)]) dX12_gap_83 rfl (by rw [hx6]; rfl) (by decide) rfl ?_
          refine jx_goto (tgt := 37) dX12_gap_86 (by decide) ?_
          exact ih _ _ _ _ _ _ _ _ _ hf
        · rw [if_neg c5] at hf
          refine jx_iload dX12_gap_62 rfl ?_
          refine jx_iload_n dX12_gap_64 rfl ?_
          refine jx_isub dX12_gap_65 ?_
          refine jx_iload dX12_gap_66 rfl ?_
          refine jx_icmp_le (tgt := 80) dX12_gap_68 (by decide) (fun c7 => ?_) (fun c7 => ?_)
          · rw [if_pos c7] at hf
            refine jx_iload dX12_gap_80 rfl ?_
            refine jx_istore_n (ls' := [(0, .ref (E.2.2.2 + 162)), (1, .int b1), (2, .int b2), (3, .int b6), (4, .int b4), (5, .int b5), (6, .int b6)]) dX12_gap_82 (by decide) rfl ?_
            obtain ⟨x8, hx8, hf⟩ := jl_inv hf
            refine jx_iinc (v := x8) (ls' := [(0, .ref (E.2.2.2 + 162)), (1, .int b1), (2, .int b2), (3, .int b6), (4, .int b4), (5, .int b5), (6, .int x8)]) dX12_gap_83 rfl (by rw [hx8]; rfl) (by decide) rfl ?_
            refine jx_goto (tgt := 37) dX12_gap_86 (by decide) ?_
            exact ih _ _ _ _ _ _ _ _ _ hf
          · rw [if_neg c7] at hf
            refine jx_iload_n dX12_gap_71 rfl ?_
            refine jx_istore (ls' := [(0, .ref (E.2.2.2 + 162)), (1, .int b1), (2, .int b2), (3, .int b3), (4, .int b3), (5, .int b5), (6, .int b6)]) dX12_gap_72 (by decide) rfl ?_
            refine jx_iload dX12_gap_74 rfl ?_
            refine jx_iload_n dX12_gap_76 rfl ?_
            refine jx_isub dX12_gap_77 ?_
            obtain ⟨x9, hx9, hf⟩ := jl_inv hf
            refine jx_nm hx9 ?_
            refine jx_istore (ls' := [(0, .ref (E.2.2.2 + 162)), (1, .int b1), (2, .int b2), (3, .int b3), (4, .int b3), (5, .int x9), (6, .int b6)]) dX12_gap_78 (by decide) rfl ?_
            refine jx_iload dX12_gap_80 rfl ?_
            refine jx_istore_n (ls' := [(0, .ref (E.2.2.2 + 162)), (1, .int b1), (2, .int b2), (3, .int b6), (4, .int b3), (5, .int x9), (6, .int b6)]) dX12_gap_82 (by decide) rfl ?_
            obtain ⟨x10, hx10, hf⟩ := jl_inv hf
            refine jx_iinc (v := x10) (ls' := [(0, .ref (E.2.2.2 + 162)), (1, .int b1), (2, .int b2), (3, .int b6), (4, .int b3), (5, .int x9), (6, .int x10)]) dX12_gap_83 rfl (by rw [hx10]; rfl) (by decide) rfl ?_
            refine jx_goto (tgt := 37) dX12_gap_86 (by decide) ?_
            exact ih _ _ _ _ _ _ _ _ _ hf
      · rw [if_neg c4] at hf
        refine jx_goto (tgt := 83) dX12_gap_55 (by decide) ?_
        obtain ⟨x11, hx11, hf⟩ := jl_inv hf
        refine jx_iinc (v := x11) (ls' := [(0, .ref (E.2.2.2 + 162)), (1, .int b1), (2, .int b2), (3, .int b3), (4, .int b4), (5, .int b5), (6, .int x11)]) dX12_gap_83 rfl (by rw [hx11]; rfl) (by decide) rfl ?_
        refine jx_goto (tgt := 37) dX12_gap_86 (by decide) ?_
        exact ih _ _ _ _ _ _ _ _ _ hf
def f_X12_gap (a1 : Int32) (a2 : Int32) (w : jw) : Option (Int32 × jw) := jbd2 (f_X12_isTime a1 w) fun x13 w14 => (if (jb x13) = 0 then some ((-1), w14) else jbd2 (f_X12_in a2 0 1 w14) fun x17 w18 => (if (jb x17) = 0 then some ((-1), w18) else jbd (f_X12_fillsThen a1 w18) fun q20 => (l_X12_gap jfu a1 a2 (-1) (-2) (-2) 0 q20)))
set_option maxRecDepth 20000 in
set_option maxHeartbeats 2000000 in
theorem s_X12_gap {E : jE} (hE : jfull E) {a1 : Int32} {a2 : Int32} {w w' : jw} {v : Int32} (hf : f_X12_gap a1 a2 w = some (v, w')) : jC E m_X12_gap 2 [.ref (E.2.2.2 + 162), .int a1, .int a2] w (some (.int v)) w' := by
  refine jC_of (ls := [(0, .ref (E.2.2.2 + 162)), (1, .int a1), (2, .int a2)]) (by decide) rfl (fun _ => trivial) (Nat.le_of_ble_eq_true rfl) rfl ⟨.int, rfl, rfl⟩ ?_
  unfold f_X12_gap at hf
  refine jx_aload_n dX12_gap_0 rfl ?_
  refine jx_iload_n dX12_gap_1 rfl ?_
  obtain ⟨x13, w14, hq12, hf⟩ := jbd2_inv hf
  refine jx_cVi (a := 162) (As := [.int a1]) (rest := []) dX12_gap_2 ml_X12_334 mv_X12_isTime (s_X12_isTime hE hq12) rfl rfl (jc_162 hE) (by decide) (Nat.le_of_ble_eq_true rfl) ?_
  refine jx_if_eq (tgt := 17) dX12_gap_5 (by decide) (fun c15 => ?_) (fun c15 => ?_)
  · rw [if_pos c15] at hf
    refine jx_iconst (v := (-1)) dX12_gap_17 (by decide) ?_
    cases hf
    exact jx_iret dX12_gap_18 rfl rfl
  · rw [if_neg c15] at hf
    refine jx_iload_n dX12_gap_8 rfl ?_
    refine jx_iconst (v := 0) dX12_gap_9 (by decide) ?_
    refine jx_iconst (v := 1) dX12_gap_10 (by decide) ?_
    obtain ⟨x17, w18, hq16, hf⟩ := jbd2_inv hf
    refine jx_cSi (As := [.int a2, .int 0, .int 1]) (rest := []) dX12_gap_11 ml_X12_324 ms_X12_in (s_X12_in hE hq16) rfl rfl rfl (by decide) (Nat.le_of_ble_eq_true rfl) ?_
    refine jx_if_ne (tgt := 19) dX12_gap_14 (by decide) (fun c19 => ?_) (fun c19 => ?_)
    · rw [if_neg c19] at hf
      refine jx_aload_n dX12_gap_19 rfl ?_
      refine jx_iload_n dX12_gap_20 rfl ?_
      obtain ⟨q20, hq20, hf⟩ := jbd_inv hf
      refine jx_cVv (a := 162) (As := [.int a1]) (rest := []) dX12_gap_21 ml_X12_343 mv_X12_fillsThen (s_X12_fillsThen hE hq20) rfl rfl (jc_162 hE) (by decide) (Nat.le_of_ble_eq_true rfl) ?_
      refine jx_iconst (v := (-1)) dX12_gap_24 (by decide) ?_
      refine jx_istore_n (ls' := [(0, .ref (E.2.2.2 + 162)), (1, .int a1), (2, .int a2), (3, .int (-1))]) dX12_gap_25 (by decide) rfl ?_
      refine jx_bipush (v := (-2)) dX12_gap_26 (by decide) ?_
      refine jx_istore (ls' := [(0, .ref (E.2.2.2 + 162)), (1, .int a1), (2, .int a2), (3, .int (-1)), (4, .int (-2))]) dX12_gap_28 (by decide) rfl ?_
      refine jx_bipush (v := (-2)) dX12_gap_30 (by decide) ?_
      refine jx_istore (ls' := [(0, .ref (E.2.2.2 + 162)), (1, .int a1), (2, .int a2), (3, .int (-1)), (4, .int (-2)), (5, .int (-2))]) dX12_gap_32 (by decide) rfl ?_
      refine jx_iconst (v := 0) dX12_gap_34 (by decide) ?_
      refine jx_istore (ls' := [(0, .ref (E.2.2.2 + 162)), (1, .int a1), (2, .int a2), (3, .int (-1)), (4, .int (-2)), (5, .int (-2)), (6, .int 0)]) dX12_gap_35 (by decide) rfl ?_
      exact sl_X12_gap hE jfu _ _ _ _ _ _ _ _ _ hf
    · rw [if_pos c19] at hf
      refine jx_iconst (v := (-1)) dX12_gap_17 (by decide) ?_
      cases hf
      exact jx_iret dX12_gap_18 rfl rfl
def l_X12_rootAt : Nat → Int32 → Int32 → jw → Option (Int32 × jw)
  | 0, _, _, _ => none
  | n + 1, b1, b2, w => jg (jin (10 + b2) 34700) ((if (w.2.1 182 (Int32.toNatClampNeg (10 + b2))) ≤ b1 then jg (jin (710 + b2) 34700) (some (w.2.1 182 (Int32.toNatClampNeg (710 + b2)), w)) else jl (b2 + (-1)) fun x4 => (l_X12_rootAt n b1 x4 w)))
set_option maxRecDepth 20000 in
set_option maxHeartbeats 2000000 in
theorem sl_X12_rootAt {E : jE} (hE : jfull E) : ∀ (n : Nat) (b1 : Int32) (b2 : Int32) (w : jw) (v : Int32) (w' : jw), l_X12_rootAt n b1 b2 w = some (v, w') → jX E m_X12_rootAt 0 9 [(0, .ref (E.2.2.2 + 162)), (1, .int b1), (2, .int b2)] [] w (some (.int v)) w' := by
  intro n
  induction n with
  | zero => intro b1 b2 w v w' hf; cases hf
  | succ n ih =>
    intro b1 b2 w v w' hf
    unfold l_X12_rootAt at hf
    refine jx_aload_n dX12_rootAt_9 rfl ?_
    refine jx_getr dX12_rootAt_10 fl_X12_77 (kj_162 hE) sr_162_34 ?_
    refine jx_bipush (v := 10) dX12_rootAt_13 (by decide) ?_
    refine jx_iload_n dX12_rootAt_15 rfl ?_
    refine jx_iadd dX12_rootAt_16 ?_
    obtain ⟨c1, hf⟩ := jg_inv hf
    refine jx_iald dX12_rootAt_17 (kj_182 hE) (jin_vp c1) ?_
    refine jx_iload_n dX12_rootAt_18 rfl ?_
    refine jx_icmp_le (tgt := 28) dX12_rootAt_19 (by decide) (fun c2 => ?_) (fun c2 => ?_)
    · rw [if_pos c2] at hf
      refine jx_aload_n dX12_rootAt_28 rfl ?_
      refine jx_getr dX12_rootAt_29 fl_X12_77 (kj_162 hE) sr_162_34 ?_
      refine jx_sipush (v := 710) dX12_rootAt_32 (by decide) ?_
      refine jx_iload_n dX12_rootAt_35 rfl ?_
      refine jx_iadd dX12_rootAt_36 ?_
      obtain ⟨c3, hf⟩ := jg_inv hf
      refine jx_iald dX12_rootAt_37 (kj_182 hE) (jin_vp c3) ?_
      cases hf
      exact jx_iret dX12_rootAt_38 rfl rfl
    · rw [if_neg c2] at hf
      obtain ⟨x4, hx4, hf⟩ := jl_inv hf
      refine jx_iinc (v := x4) (ls' := [(0, .ref (E.2.2.2 + 162)), (1, .int b1), (2, .int x4)]) dX12_rootAt_22 rfl (by rw [hx4]; rfl) (by decide) rfl ?_
      refine jx_goto (tgt := 9) dX12_rootAt_25 (by decide) ?_
      exact ih _ _ _ _ _ hf
def f_X12_rootAt (a1 : Int32) (w : jw) : Option (Int32 × jw) := jg (jin 2 34700) (jl ((w.2.1 182 (Int32.toNatClampNeg 2)) - 1 : Int32) fun x6 => (l_X12_rootAt jfu a1 x6 w))
set_option maxRecDepth 20000 in
set_option maxHeartbeats 2000000 in
theorem s_X12_rootAt {E : jE} (hE : jfull E) {a1 : Int32} {w w' : jw} {v : Int32} (hf : f_X12_rootAt a1 w = some (v, w')) : jC E m_X12_rootAt 0 [.ref (E.2.2.2 + 162), .int a1] w (some (.int v)) w' := by
  refine jC_of (ls := [(0, .ref (E.2.2.2 + 162)), (1, .int a1)]) (by decide) rfl (fun _ => trivial) (Nat.le_of_ble_eq_true rfl) rfl ⟨.int, rfl, rfl⟩ ?_
  unfold f_X12_rootAt at hf
  refine jx_aload_n dX12_rootAt_0 rfl ?_
  refine jx_getr dX12_rootAt_1 fl_X12_77 (kj_162 hE) sr_162_34 ?_
  refine jx_iconst (v := 2) dX12_rootAt_4 (by decide) ?_
  obtain ⟨c5, hf⟩ := jg_inv hf
  refine jx_iald dX12_rootAt_5 (kj_182 hE) (jin_vp c5) ?_
  refine jx_iconst (v := 1) dX12_rootAt_6 (by decide) ?_
  refine jx_isub dX12_rootAt_7 ?_
  obtain ⟨x6, hx6, hf⟩ := jl_inv hf
  refine jx_nm hx6 ?_
  refine jx_istore_n (ls' := [(0, .ref (E.2.2.2 + 162)), (1, .int a1), (2, .int x6)]) dX12_rootAt_8 (by decide) rfl ?_
  exact sl_X12_rootAt hE jfu _ _ _ _ _ hf
def f_X12_entryThen (a1 : Int32) (a2 : Int32) (w : jw) : Option (Bool × jw) := jg (jin (a1 + 1) 34700) (jg (jin (a1 + 2) 34700) (jbd2 (f_X12_livesThen (w.2.1 182 (Int32.toNatClampNeg (a1 + 1))) (w.2.1 182 (Int32.toNatClampNeg (a1 + 2))) a2 w) fun x4 w5 => some (x4, w5)))
set_option maxRecDepth 20000 in
set_option maxHeartbeats 2000000 in
theorem s_X12_entryThen {E : jE} (hE : jfull E) {a1 : Int32} {a2 : Int32} {w w' : jw} {v : Bool} (hf : f_X12_entryThen a1 a2 w = some (v, w')) : jC E m_X12_entryThen 1 [.ref (E.2.2.2 + 162), .int a1, .int a2] w (some (.int (jb v))) w' := by
  refine jC_of (ls := [(0, .ref (E.2.2.2 + 162)), (1, .int a1), (2, .int a2)]) (by decide) rfl (fun _ => trivial) (Nat.le_of_ble_eq_true rfl) rfl jb_ans ?_
  unfold f_X12_entryThen at hf
  refine jx_aload_n dX12_entryThen_0 rfl ?_
  refine jx_aload_n dX12_entryThen_1 rfl ?_
  refine jx_getr dX12_entryThen_2 fl_X12_77 (kj_162 hE) sr_162_34 ?_
  refine jx_iload_n dX12_entryThen_5 rfl ?_
  refine jx_iconst (v := 1) dX12_entryThen_6 (by decide) ?_
  refine jx_iadd dX12_entryThen_7 ?_
  obtain ⟨c1, hf⟩ := jg_inv hf
  refine jx_iald dX12_entryThen_8 (kj_182 hE) (jin_vp c1) ?_
  refine jx_aload_n dX12_entryThen_9 rfl ?_
  refine jx_getr dX12_entryThen_10 fl_X12_77 (kj_162 hE) sr_162_34 ?_
  refine jx_iload_n dX12_entryThen_13 rfl ?_
  refine jx_iconst (v := 2) dX12_entryThen_14 (by decide) ?_
  refine jx_iadd dX12_entryThen_15 ?_
  obtain ⟨c2, hf⟩ := jg_inv hf
  refine jx_iald dX12_entryThen_16 (kj_182 hE) (jin_vp c2) ?_
  refine jx_iload_n dX12_entryThen_17 rfl ?_
  obtain ⟨x4, w5, hq3, hf⟩ := jbd2_inv hf
  refine jx_cVi (a := 162) (As := [.int (w.2.1 182 (Int32.toNatClampNeg (a1 + 1))), .int (w.2.1 182 (Int32.toNatClampNeg (a1 + 2))), .int a2]) (rest := []) dX12_entryThen_18 ml_X12_331 mv_X12_livesThen (s_X12_livesThen hE hq3) rfl rfl (jc_162 hE) (by decide) (Nat.le_of_ble_eq_true rfl) ?_
  cases hf
  exact jx_iret dX12_entryThen_21 rfl rfl
def l_X12_childThen : Nat → Int32 → Int32 → Int32 → Int32 → Int32 → jw → Option (Int32 × jw)
  | 0, _, _, _, _, _, _ => none
  | n + 1, b1, b2, b3, b4, b5, w => jbd2 (f_X12_entriesOf b1 w) fun x2 w3 => (if x2 ≤ b5 then jg (jin (b4 + 3) 34700) (some (w3.2.1 182 (Int32.toNatClampNeg (b4 + 3)), w3)) else jbd2 (f_X12_entryAt b1 b5 w3) fun x7 w8 => jbd2 (f_X12_entryThen x7 b3 w8) fun x10 w11 => (if (jb x10) = 0 then jl (b5 + 1) fun x13 => (l_X12_childThen n b1 b2 b3 b4 x13 w11) else jg (jin x7 34700) ((if b2 < (w11.2.1 182 (Int32.toNatClampNeg x7)) then jl (b5 + 1) fun x16 => (l_X12_childThen n b1 b2 b3 b4 x16 w11) else (if b4 < 0 then jl (b5 + 1) fun x18 => (l_X12_childThen n b1 b2 b3 x7 x18 w11) else jg (jin x7 34700) (jg (jin b4 34700) ((if (w11.2.1 182 (Int32.toNatClampNeg x7)) ≤ (w11.2.1 182 (Int32.toNatClampNeg b4)) then jl (b5 + 1) fun x22 => (l_X12_childThen n b1 b2 b3 b4 x22 w11) else jl (b5 + 1) fun x23 => (l_X12_childThen n b1 b2 b3 x7 x23 w11)))))))))
set_option maxRecDepth 20000 in
set_option maxHeartbeats 2000000 in
theorem sl_X12_childThen {E : jE} (hE : jfull E) : ∀ (n : Nat) (b1 : Int32) (b2 : Int32) (b3 : Int32) (b4 : Int32) (b5 : Int32) (w : jw) (v : Int32) (w' : jw), l_X12_childThen n b1 b2 b3 b4 b5 w = some (v, w') → jX E m_X12_childThen 2 6 [(0, .ref (E.2.2.2 + 162)), (1, .int b1), (2, .int b2), (3, .int b3), (4, .int b4), (5, .int b5)] [] w (some (.int v)) w' := by
  intro n
  induction n with
  | zero => intro b1 b2 b3 b4 b5 w v w' hf; cases hf
  | succ n ih =>
    intro b1 b2 b3 b4 b5 w v w' hf
    unfold l_X12_childThen at hf
    refine jx_iload dX12_childThen_6 rfl ?_
    refine jx_aload_n dX12_childThen_8 rfl ?_
    refine jx_iload_n dX12_childThen_9 rfl ?_
    obtain ⟨x2, w3, hq1, hf⟩ := jbd2_inv hf
    refine jx_cVi (a := 162) (As := [.int b1]) (rest := [.int b5]) dX12_childThen_10 ml_X12_249 mv_X12_entriesOf (s_X12_entriesOf hE hq1) rfl rfl (jc_162 hE) (by decide) (Nat.le_of_ble_eq_true rfl) ?_
    refine jx_icmp_ge (tgt := 77) dX12_childThen_13 (by decide) (fun c4 => ?_) (fun c4 => ?_)
    · rw [if_pos c4] at hf
      refine jx_aload_n dX12_childThen_77 rfl ?_
      refine jx_getr dX12_childThen_78 fl_X12_77 (kj_162 hE) sr_162_34 ?_
      refine jx_iload dX12_childThen_81 rfl ?_
      refine jx_iconst (v := 3) dX12_childThen_83 (by decide) ?_
      refine jx_iadd dX12_childThen_84 ?_
      obtain ⟨c5, hf⟩ := jg_inv hf
      refine jx_iald dX12_childThen_85 (kj_182 hE) (jin_vp c5) ?_
      cases hf
      exact jx_iret dX12_childThen_86 rfl rfl
    · rw [if_neg c4] at hf
      refine jx_iload_n dX12_childThen_16 rfl ?_
      refine jx_iload dX12_childThen_17 rfl ?_
      obtain ⟨x7, w8, hq6, hf⟩ := jbd2_inv hf
      refine jx_cSi (As := [.int b1, .int b5]) (rest := []) dX12_childThen_19 ml_X12_252 ms_X12_entryAt (s_X12_entryAt hE hq6) rfl rfl rfl (by decide) (Nat.le_of_ble_eq_true rfl) ?_
      refine jx_istore (ls' := [(0, .ref (E.2.2.2 + 162)), (1, .int b1), (2, .int b2), (3, .int b3), (4, .int b4), (5, .int b5), (6, .int x7)]) dX12_childThen_22 (by decide) rfl ?_
      refine jx_aload_n dX12_childThen_24 rfl ?_
      refine jx_iload dX12_childThen_25 rfl ?_
      refine jx_iload_n dX12_childThen_27 rfl ?_
      obtain ⟨x10, w11, hq9, hf⟩ := jbd2_inv hf
      refine jx_cVi (a := 162) (As := [.int x7, .int b3]) (rest := []) dX12_childThen_28 ml_X12_352 mv_X12_entryThen (s_X12_entryThen hE hq9) rfl rfl (jc_162 hE) (by decide) (Nat.le_of_ble_eq_true rfl) ?_
      refine jx_if_eq (tgt := 71) dX12_childThen_31 (by decide) (fun c12 => ?_) (fun c12 => ?_)
      · rw [if_pos c12] at hf
        obtain ⟨x13, hx13, hf⟩ := jl_inv hf
        refine jx_iinc (v := x13) (ls' := [(0, .ref (E.2.2.2 + 162)), (1, .int b1), (2, .int b2), (3, .int b3), (4, .int b4), (5, .int x13), (6, .int x7)]) dX12_childThen_71 rfl (by rw [hx13]; rfl) (by decide) rfl ?_
        refine jx_goto (tgt := 6) dX12_childThen_74 (by decide) ?_
        refine jx_pick [0, 1, 2, 3, 4, 5] rfl ?_
        exact ih _ _ _ _ _ _ _ _ hf
      · rw [if_neg c12] at hf
        refine jx_aload_n dX12_childThen_34 rfl ?_
        refine jx_getr dX12_childThen_35 fl_X12_77 (kj_162 hE) sr_162_34 ?_
        refine jx_iload dX12_childThen_38 rfl ?_
        obtain ⟨c14, hf⟩ := jg_inv hf
        refine jx_iald dX12_childThen_40 (kj_182 hE) (jin_vp c14) ?_
        refine jx_iload_n dX12_childThen_41 rfl ?_
        refine jx_icmp_gt (tgt := 71) dX12_childThen_42 (by decide) (fun c15 => ?_) (fun c15 => ?_)
        · rw [if_pos c15] at hf
          obtain ⟨x16, hx16, hf⟩ := jl_inv hf
          refine jx_iinc (v := x16) (ls' := [(0, .ref (E.2.2.2 + 162)), (1, .int b1), (2, .int b2), (3, .int b3), (4, .int b4), (5, .int x16), (6, .int x7)]) dX12_childThen_71 rfl (by rw [hx16]; rfl) (by decide) rfl ?_
          refine jx_goto (tgt := 6) dX12_childThen_74 (by decide) ?_
          refine jx_pick [0, 1, 2, 3, 4, 5] rfl ?_
          exact ih _ _ _ _ _ _ _ _ hf
        · rw [if_neg c15] at hf
          refine jx_iload dX12_childThen_45 rfl ?_
          refine jx_if_lt (tgt := 67) dX12_childThen_47 (by decide) (fun c17 => ?_) (fun c17 => ?_)
          · rw [if_pos c17] at hf
            refine jx_iload dX12_childThen_67 rfl ?_
            refine jx_istore (ls' := [(0, .ref (E.2.2.2 + 162)), (1, .int b1), (2, .int b2), (3, .int b3), (4, .int x7), (5, .int b5), (6, .int x7)]) dX12_childThen_69 (by decide) rfl ?_
            obtain ⟨x18, hx18, hf⟩ := jl_inv hf
            refine jx_iinc (v := x18) (ls' := [(0, .ref (E.2.2.2 + 162)), (1, .int b1), (2, .int b2), (3, .int b3), (4, .int x7), (5, .int x18), (6, .int x7)]) dX12_childThen_71 rfl (by rw [hx18]; rfl) (by decide) rfl ?_
            refine jx_goto (tgt := 6) dX12_childThen_74 (by decide) ?_
            refine jx_pick [0, 1, 2, 3, 4, 5] rfl ?_
            exact ih _ _ _ _ _ _ _ _ hf
          · rw [if_neg c17] at hf
            refine jx_aload_n dX12_childThen_50 rfl ?_
            refine jx_getr dX12_childThen_51 fl_X12_77 (kj_162 hE) sr_162_34 ?_
            refine jx_iload dX12_childThen_54 rfl ?_
            obtain ⟨c19, hf⟩ := jg_inv hf
            refine jx_iald dX12_childThen_56 (kj_182 hE) (jin_vp c19) ?_
            refine jx_aload_n dX12_childThen_57 rfl ?_
            refine jx_getr dX12_childThen_58 fl_X12_77 (kj_162 hE) sr_162_34 ?_
            refine jx_iload dX12_childThen_61 rfl ?_
            obtain ⟨c20, hf⟩ := jg_inv hf
            refine jx_iald dX12_childThen_63 (kj_182 hE) (jin_vp c20) ?_
            refine jx_icmp_le (tgt := 71) dX12_childThen_64 (by decide) (fun c21 => ?_) (fun c21 => ?_)
            · rw [if_pos c21] at hf
              obtain ⟨x22, hx22, hf⟩ := jl_inv hf
              refine jx_iinc (v := x22) (ls' := [(0, .ref (E.2.2.2 + 162)), (1, .int b1), (2, .int b2), (3, .int b3), (4, .int b4), (5, .int x22), (6, .int x7)]) dX12_childThen_71 rfl (by rw [hx22]; rfl) (by decide) rfl ?_
              refine jx_goto (tgt := 6) dX12_childThen_74 (by decide) ?_
              refine jx_pick [0, 1, 2, 3, 4, 5] rfl ?_
              exact ih _ _ _ _ _ _ _ _ hf
            · rw [if_neg c21] at hf
              refine jx_iload dX12_childThen_67 rfl ?_
              refine jx_istore (ls' := [(0, .ref (E.2.2.2 + 162)), (1, .int b1), (2, .int b2), (3, .int b3), (4, .int x7), (5, .int b5), (6, .int x7)]) dX12_childThen_69 (by decide) rfl ?_
              obtain ⟨x23, hx23, hf⟩ := jl_inv hf
              refine jx_iinc (v := x23) (ls' := [(0, .ref (E.2.2.2 + 162)), (1, .int b1), (2, .int b2), (3, .int b3), (4, .int x7), (5, .int x23), (6, .int x7)]) dX12_childThen_71 rfl (by rw [hx23]; rfl) (by decide) rfl ?_
              refine jx_goto (tgt := 6) dX12_childThen_74 (by decide) ?_
              refine jx_pick [0, 1, 2, 3, 4, 5] rfl ?_
              exact ih _ _ _ _ _ _ _ _ hf
def f_X12_childThen (a1 : Int32) (a2 : Int32) (a3 : Int32) (w : jw) : Option (Int32 × jw) := (l_X12_childThen jfu a1 a2 a3 (-1) 0 w)
set_option maxRecDepth 20000 in
set_option maxHeartbeats 2000000 in
theorem s_X12_childThen {E : jE} (hE : jfull E) {a1 : Int32} {a2 : Int32} {a3 : Int32} {w w' : jw} {v : Int32} (hf : f_X12_childThen a1 a2 a3 w = some (v, w')) : jC E m_X12_childThen 2 [.ref (E.2.2.2 + 162), .int a1, .int a2, .int a3] w (some (.int v)) w' := by
  refine jC_of (ls := [(0, .ref (E.2.2.2 + 162)), (1, .int a1), (2, .int a2), (3, .int a3)]) (by decide) rfl (fun _ => trivial) (Nat.le_of_ble_eq_true rfl) rfl ⟨.int, rfl, rfl⟩ ?_
  unfold f_X12_childThen at hf
  refine jx_iconst (v := (-1)) dX12_childThen_0 (by decide) ?_
  refine jx_istore (ls' := [(0, .ref (E.2.2.2 + 162)), (1, .int a1), (2, .int a2), (3, .int a3), (4, .int (-1))]) dX12_childThen_1 (by decide) rfl ?_
  refine jx_iconst (v := 0) dX12_childThen_3 (by decide) ?_
  refine jx_istore (ls' := [(0, .ref (E.2.2.2 + 162)), (1, .int a1), (2, .int a2), (3, .int a3), (4, .int (-1)), (5, .int 0)]) dX12_childThen_4 (by decide) rfl ?_
  exact sl_X12_childThen hE jfu _ _ _ _ _ _ _ _ hf
def l_X12_goesDownThen : Nat → Int32 → Int32 → Int32 → jw → Option (jw)
  | 0, _, _, _, _ => none
  | n + 1, b1, b2, b3, w => jbd2 (f_X12_isLeaf b3 w) fun x2 w3 => (if (jb x2) = 0 then jbd2 (f_X12_childThen b3 b1 b2 w3) fun x6 w7 => jg (jin (w7.1 162 36) 40) (jl (jsetX w7 183 (Int32.toNatClampNeg (w7.1 162 36)) x6) fun w9 => jl (jsetI w9 162 36 ((w9.1 162 36) + 1)) fun w10 => (l_X12_goesDownThen n b1 b2 x6 w10)) else some w3)
set_option maxRecDepth 20000 in
set_option maxHeartbeats 2000000 in
theorem sl_X12_goesDownThen {E : jE} (hE : jfull E) : ∀ (n : Nat) (b1 : Int32) (b2 : Int32) (b3 : Int32) (w : jw) (w' : jw), l_X12_goesDownThen n b1 b2 b3 w = some w' → jX E m_X12_goesDownThen 3 18 [(0, .ref (E.2.2.2 + 162)), (1, .int b1), (2, .int b2), (3, .int b3)] [] w none w' := by
  intro n
  induction n with
  | zero => intro b1 b2 b3 w w' hf; cases hf
  | succ n ih =>
    intro b1 b2 b3 w w' hf
    unfold l_X12_goesDownThen at hf
    refine jx_aload_n dX12_goesDownThen_18 rfl ?_
    refine jx_iload_n dX12_goesDownThen_19 rfl ?_
    obtain ⟨x2, w3, hq1, hf⟩ := jbd2_inv hf
    refine jx_cVi (a := 162) (As := [.int b3]) (rest := []) dX12_goesDownThen_20 ml_X12_265 mv_X12_isLeaf (s_X12_isLeaf hE hq1) rfl rfl (jc_162 hE) (by decide) (Nat.le_of_ble_eq_true rfl) ?_
    refine jx_if_ne (tgt := 57) dX12_goesDownThen_23 (by decide) (fun c4 => ?_) (fun c4 => ?_)
    · rw [if_neg c4] at hf
      cases hf
      exact jx_vret dX12_goesDownThen_57 rfl rfl
    · rw [if_pos c4] at hf
      refine jx_aload_n dX12_goesDownThen_26 rfl ?_
      refine jx_iload_n dX12_goesDownThen_27 rfl ?_
      refine jx_iload_n dX12_goesDownThen_28 rfl ?_
      refine jx_iload_n dX12_goesDownThen_29 rfl ?_
      obtain ⟨x6, w7, hq5, hf⟩ := jbd2_inv hf
      refine jx_cVi (a := 162) (As := [.int b3, .int b1, .int b2]) (rest := []) dX12_goesDownThen_30 ml_X12_358 mv_X12_childThen (s_X12_childThen hE hq5) rfl rfl (jc_162 hE) (by decide) (Nat.le_of_ble_eq_true rfl) ?_
      refine jx_istore_n (ls' := [(0, .ref (E.2.2.2 + 162)), (1, .int b1), (2, .int b2), (3, .int x6)]) dX12_goesDownThen_33 (by decide) rfl ?_
      refine jx_aload_n dX12_goesDownThen_34 rfl ?_
      refine jx_getr dX12_goesDownThen_35 fl_X12_80 (kj_162 hE) sr_162_35 ?_
      refine jx_aload_n dX12_goesDownThen_38 rfl ?_
      refine jx_geti dX12_goesDownThen_39 fl_X12_262 (kj_162 hE) sr_162_36 ?_
      refine jx_iload_n dX12_goesDownThen_42 rfl ?_
      obtain ⟨c8, hf⟩ := jg_inv hf
      refine jx_iast dX12_goesDownThen_43 (kj_183 hE) (jin_vp c8) ?_
      obtain ⟨w9, hw9, hf⟩ := jl_inv hf
      refine jx_nw hw9 ?_
      refine jx_aload_n dX12_goesDownThen_44 rfl ?_
      refine jx_dup dX12_goesDownThen_45 rfl ?_
      refine jx_geti dX12_goesDownThen_46 fl_X12_262 (kj_162 hE) sr_162_36 ?_
      refine jx_iconst (v := 1) dX12_goesDownThen_49 (by decide) ?_
      refine jx_iadd dX12_goesDownThen_50 ?_
      refine jx_puti dX12_goesDownThen_51 fp_X12_262 (kj_162 hE) sr_162_36 rfl rfl ?_
      obtain ⟨w10, hw10, hf⟩ := jl_inv hf
      refine jx_nw hw10 ?_
      refine jx_goto (tgt := 18) dX12_goesDownThen_54 (by decide) ?_
      exact ih _ _ _ _ _ hf
def f_X12_goesDownThen (a1 : Int32) (a2 : Int32) (w : jw) : Option (jw) := jbd2 (f_X12_rootAt a2 w) fun x12 w13 => jg (jin 0 40) (jl (jsetX w13 183 (Int32.toNatClampNeg 0) x12) fun w15 => jl (jsetI w15 162 36 1) fun w16 => (l_X12_goesDownThen jfu a1 a2 x12 w16))
set_option maxRecDepth 20000 in
set_option maxHeartbeats 2000000 in
theorem s_X12_goesDownThen {E : jE} (hE : jfull E) {a1 : Int32} {a2 : Int32} {w w' : jw} (hf : f_X12_goesDownThen a1 a2 w = some w') : jC E m_X12_goesDownThen 3 [.ref (E.2.2.2 + 162), .int a1, .int a2] w none w' := by
  refine jC_of (ls := [(0, .ref (E.2.2.2 + 162)), (1, .int a1), (2, .int a2)]) (by decide) rfl (fun _ => trivial) (Nat.le_of_ble_eq_true rfl) rfl rfl ?_
  unfold f_X12_goesDownThen at hf
  refine jx_aload_n dX12_goesDownThen_0 rfl ?_
  refine jx_iload_n dX12_goesDownThen_1 rfl ?_
  obtain ⟨x12, w13, hq11, hf⟩ := jbd2_inv hf
  refine jx_cVi (a := 162) (As := [.int a2]) (rest := []) dX12_goesDownThen_2 ml_X12_355 mv_X12_rootAt (s_X12_rootAt hE hq11) rfl rfl (jc_162 hE) (by decide) (Nat.le_of_ble_eq_true rfl) ?_
  refine jx_istore_n (ls' := [(0, .ref (E.2.2.2 + 162)), (1, .int a1), (2, .int a2), (3, .int x12)]) dX12_goesDownThen_5 (by decide) rfl ?_
  refine jx_aload_n dX12_goesDownThen_6 rfl ?_
  refine jx_getr dX12_goesDownThen_7 fl_X12_80 (kj_162 hE) sr_162_35 ?_
  refine jx_iconst (v := 0) dX12_goesDownThen_10 (by decide) ?_
  refine jx_iload_n dX12_goesDownThen_11 rfl ?_
  obtain ⟨c14, hf⟩ := jg_inv hf
  refine jx_iast dX12_goesDownThen_12 (kj_183 hE) (jin_vp c14) ?_
  obtain ⟨w15, hw15, hf⟩ := jl_inv hf
  refine jx_nw hw15 ?_
  refine jx_aload_n dX12_goesDownThen_13 rfl ?_
  refine jx_iconst (v := 1) dX12_goesDownThen_14 (by decide) ?_
  refine jx_puti dX12_goesDownThen_15 fp_X12_262 (kj_162 hE) sr_162_36 rfl rfl ?_
  obtain ⟨w16, hw16, hf⟩ := jl_inv hf
  refine jx_nw hw16 ?_
  exact sl_X12_goesDownThen hE jfu _ _ _ _ _ hf
def f_X12_root (a1 : Int32) (w : jw) : Option (Int32 × jw) := jbd2 (f_X12_isTime a1 w) fun x2 w3 => (if (jb x2) = 0 then some ((-1), w3) else jbd2 (f_X12_rootAt a1 w3) fun x6 w7 => some (x6, w7))
set_option maxRecDepth 20000 in
set_option maxHeartbeats 2000000 in
theorem s_X12_root {E : jE} (hE : jfull E) {a1 : Int32} {w w' : jw} {v : Int32} (hf : f_X12_root a1 w = some (v, w')) : jC E m_X12_root 2 [.ref (E.2.2.2 + 162), .int a1] w (some (.int v)) w' := by
  refine jC_of (ls := [(0, .ref (E.2.2.2 + 162)), (1, .int a1)]) (by decide) rfl (fun _ => trivial) (Nat.le_of_ble_eq_true rfl) rfl ⟨.int, rfl, rfl⟩ ?_
  unfold f_X12_root at hf
  refine jx_aload_n dX12_root_0 rfl ?_
  refine jx_iload_n dX12_root_1 rfl ?_
  obtain ⟨x2, w3, hq1, hf⟩ := jbd2_inv hf
  refine jx_cVi (a := 162) (As := [.int a1]) (rest := []) dX12_root_2 ml_X12_334 mv_X12_isTime (s_X12_isTime hE hq1) rfl rfl (jc_162 hE) (by decide) (Nat.le_of_ble_eq_true rfl) ?_
  refine jx_if_eq (tgt := 16) dX12_root_5 (by decide) (fun c4 => ?_) (fun c4 => ?_)
  · rw [if_pos c4] at hf
    refine jx_iconst (v := (-1)) dX12_root_16 (by decide) ?_
    cases hf
    exact jx_iret dX12_root_17 rfl rfl
  · rw [if_neg c4] at hf
    refine jx_aload_n dX12_root_8 rfl ?_
    refine jx_iload_n dX12_root_9 rfl ?_
    obtain ⟨x6, w7, hq5, hf⟩ := jbd2_inv hf
    refine jx_cVi (a := 162) (As := [.int a1]) (rest := []) dX12_root_10 ml_X12_355 mv_X12_rootAt (s_X12_rootAt hE hq5) rfl rfl (jc_162 hE) (by decide) (Nat.le_of_ble_eq_true rfl) ?_
    refine jx_goto (tgt := 17) dX12_root_13 (by decide) ?_
    cases hf
    exact jx_iret dX12_root_17 rfl rfl
def f_X12_deep (a1 : Int32) (w : jw) : Option (Int32 × jw) := jbd2 (f_X12_isTime a1 w) fun x2 w3 => (if (jb x2) = 0 then some ((-1), w3) else jbd (f_X12_goesDownThen 0 a1 w3) fun q5 => some (q5.1 162 36, q5))
set_option maxRecDepth 20000 in
set_option maxHeartbeats 2000000 in
theorem s_X12_deep {E : jE} (hE : jfull E) {a1 : Int32} {w w' : jw} {v : Int32} (hf : f_X12_deep a1 w = some (v, w')) : jC E m_X12_deep 4 [.ref (E.2.2.2 + 162), .int a1] w (some (.int v)) w' := by
  refine jC_of (ls := [(0, .ref (E.2.2.2 + 162)), (1, .int a1)]) (by decide) rfl (fun _ => trivial) (Nat.le_of_ble_eq_true rfl) rfl ⟨.int, rfl, rfl⟩ ?_
  unfold f_X12_deep at hf
  refine jx_aload_n dX12_deep_0 rfl ?_
  refine jx_iload_n dX12_deep_1 rfl ?_
  obtain ⟨x2, w3, hq1, hf⟩ := jbd2_inv hf
  refine jx_cVi (a := 162) (As := [.int a1]) (rest := []) dX12_deep_2 ml_X12_334 mv_X12_isTime (s_X12_isTime hE hq1) rfl rfl (jc_162 hE) (by decide) (Nat.le_of_ble_eq_true rfl) ?_
  refine jx_if_ne (tgt := 10) dX12_deep_5 (by decide) (fun c4 => ?_) (fun c4 => ?_)
  · rw [if_neg c4] at hf
    refine jx_aload_n dX12_deep_10 rfl ?_
    refine jx_iconst (v := 0) dX12_deep_11 (by decide) ?_
    refine jx_iload_n dX12_deep_12 rfl ?_
    obtain ⟨q5, hq5, hf⟩ := jbd_inv hf
    refine jx_cVv (a := 162) (As := [.int 0, .int a1]) (rest := []) dX12_deep_13 ml_X12_361 mv_X12_goesDownThen (s_X12_goesDownThen hE hq5) rfl rfl (jc_162 hE) (by decide) (Nat.le_of_ble_eq_true rfl) ?_
    refine jx_aload_n dX12_deep_16 rfl ?_
    refine jx_geti dX12_deep_17 fl_X12_262 (kj_162 hE) sr_162_36 ?_
    cases hf
    exact jx_iret dX12_deep_20 rfl rfl
  · rw [if_pos c4] at hf
    refine jx_iconst (v := (-1)) dX12_deep_8 (by decide) ?_
    cases hf
    exact jx_iret dX12_deep_9 rfl rfl
def f_X12_leaf (a1 : Int32) (a2 : Int32) (w : jw) : Option (Int32 × jw) := jbd2 (f_X12_isKey a1 w) fun x2 w3 => (if (jb x2) = 0 then some ((-1), w3) else jbd2 (f_X12_isTime a2 w3) fun x6 w7 => (if (jb x6) = 0 then some ((-1), w7) else jbd (f_X12_goesDownThen a1 a2 w7) fun q9 => jg (jin ((q9.1 162 36) - 1) 40) (some (q9.2.1 183 (Int32.toNatClampNeg ((q9.1 162 36) - 1)), q9))))
set_option maxRecDepth 20000 in
set_option maxHeartbeats 2000000 in
theorem s_X12_leaf {E : jE} (hE : jfull E) {a1 : Int32} {a2 : Int32} {w w' : jw} {v : Int32} (hf : f_X12_leaf a1 a2 w = some (v, w')) : jC E m_X12_leaf 4 [.ref (E.2.2.2 + 162), .int a1, .int a2] w (some (.int v)) w' := by
  refine jC_of (ls := [(0, .ref (E.2.2.2 + 162)), (1, .int a1), (2, .int a2)]) (by decide) rfl (fun _ => trivial) (Nat.le_of_ble_eq_true rfl) rfl ⟨.int, rfl, rfl⟩ ?_
  unfold f_X12_leaf at hf
  refine jx_iload_n dX12_leaf_0 rfl ?_
  obtain ⟨x2, w3, hq1, hf⟩ := jbd2_inv hf
  refine jx_cSi (As := [.int a1]) (rest := []) dX12_leaf_1 ml_X12_328 ms_X12_isKey (s_X12_isKey hE hq1) rfl rfl rfl (by decide) (Nat.le_of_ble_eq_true rfl) ?_
  refine jx_if_eq (tgt := 15) dX12_leaf_4 (by decide) (fun c4 => ?_) (fun c4 => ?_)
  · rw [if_pos c4] at hf
    refine jx_iconst (v := (-1)) dX12_leaf_15 (by decide) ?_
    cases hf
    exact jx_iret dX12_leaf_16 rfl rfl
  · rw [if_neg c4] at hf
    refine jx_aload_n dX12_leaf_7 rfl ?_
    refine jx_iload_n dX12_leaf_8 rfl ?_
    obtain ⟨x6, w7, hq5, hf⟩ := jbd2_inv hf
    refine jx_cVi (a := 162) (As := [.int a2]) (rest := []) dX12_leaf_9 ml_X12_334 mv_X12_isTime (s_X12_isTime hE hq5) rfl rfl (jc_162 hE) (by decide) (Nat.le_of_ble_eq_true rfl) ?_
    refine jx_if_ne (tgt := 17) dX12_leaf_12 (by decide) (fun c8 => ?_) (fun c8 => ?_)
    · rw [if_neg c8] at hf
      refine jx_aload_n dX12_leaf_17 rfl ?_
      refine jx_iload_n dX12_leaf_18 rfl ?_
      refine jx_iload_n dX12_leaf_19 rfl ?_
      obtain ⟨q9, hq9, hf⟩ := jbd_inv hf
      refine jx_cVv (a := 162) (As := [.int a1, .int a2]) (rest := []) dX12_leaf_20 ml_X12_361 mv_X12_goesDownThen (s_X12_goesDownThen hE hq9) rfl rfl (jc_162 hE) (by decide) (Nat.le_of_ble_eq_true rfl) ?_
      refine jx_aload_n dX12_leaf_23 rfl ?_
      refine jx_getr dX12_leaf_24 fl_X12_80 (kj_162 hE) sr_162_35 ?_
      refine jx_aload_n dX12_leaf_27 rfl ?_
      refine jx_geti dX12_leaf_28 fl_X12_262 (kj_162 hE) sr_162_36 ?_
      refine jx_iconst (v := 1) dX12_leaf_31 (by decide) ?_
      refine jx_isub dX12_leaf_32 ?_
      obtain ⟨c10, hf⟩ := jg_inv hf
      refine jx_iald dX12_leaf_33 (kj_183 hE) (jin_vp c10) ?_
      cases hf
      exact jx_iret dX12_leaf_34 rfl rfl
    · rw [if_pos c8] at hf
      refine jx_iconst (v := (-1)) dX12_leaf_15 (by decide) ?_
      cases hf
      exact jx_iret dX12_leaf_16 rfl rfl
def f_X12_way (a1 : Int32) (a2 : Int32) (a3 : Int32) (w : jw) : Option (Int32 × jw) := jbd2 (f_X12_isKey a1 w) fun x2 w3 => (if (jb x2) = 0 then some ((-1), w3) else jbd2 (f_X12_isTime a2 w3) fun x6 w7 => (if (jb x6) = 0 then some ((-1), w7) else jbd (f_X12_goesDownThen a1 a2 w7) fun q9 => jbd2 (f_X12_in a3 0 ((q9.1 162 36) - 1) q9) fun x11 w12 => (if (jb x11) = 0 then some ((-1), w12) else jg (jin a3 40) (some (w12.2.1 183 (Int32.toNatClampNeg a3), w12)))))
set_option maxRecDepth 20000 in
set_option maxHeartbeats 2000000 in
theorem s_X12_way {E : jE} (hE : jfull E) {a1 : Int32} {a2 : Int32} {a3 : Int32} {w w' : jw} {v : Int32} (hf : f_X12_way a1 a2 a3 w = some (v, w')) : jC E m_X12_way 4 [.ref (E.2.2.2 + 162), .int a1, .int a2, .int a3] w (some (.int v)) w' := by
  refine jC_of (ls := [(0, .ref (E.2.2.2 + 162)), (1, .int a1), (2, .int a2), (3, .int a3)]) (by decide) rfl (fun _ => trivial) (Nat.le_of_ble_eq_true rfl) rfl ⟨.int, rfl, rfl⟩ ?_
  unfold f_X12_way at hf
  refine jx_iload_n dX12_way_0 rfl ?_
  obtain ⟨x2, w3, hq1, hf⟩ := jbd2_inv hf
  refine jx_cSi (As := [.int a1]) (rest := []) dX12_way_1 ml_X12_328 ms_X12_isKey (s_X12_isKey hE hq1) rfl rfl rfl (by decide) (Nat.le_of_ble_eq_true rfl) ?_
  refine jx_if_eq (tgt := 15) dX12_way_4 (by decide) (fun c4 => ?_) (fun c4 => ?_)
  · rw [if_pos c4] at hf
    refine jx_iconst (v := (-1)) dX12_way_15 (by decide) ?_
    cases hf
    exact jx_iret dX12_way_16 rfl rfl
  · rw [if_neg c4] at hf
    refine jx_aload_n dX12_way_7 rfl ?_
    refine jx_iload_n dX12_way_8 rfl ?_
    obtain ⟨x6, w7, hq5, hf⟩ := jbd2_inv hf
    refine jx_cVi (a := 162) (As := [.int a2]) (rest := []) dX12_way_9 ml_X12_334 mv_X12_isTime (s_X12_isTime hE hq5) rfl rfl (jc_162 hE) (by decide) (Nat.le_of_ble_eq_true rfl) ?_
    refine jx_if_ne (tgt := 17) dX12_way_12 (by decide) (fun c8 => ?_) (fun c8 => ?_)
    · rw [if_neg c8] at hf
      refine jx_aload_n dX12_way_17 rfl ?_
      refine jx_iload_n dX12_way_18 rfl ?_
      refine jx_iload_n dX12_way_19 rfl ?_
      obtain ⟨q9, hq9, hf⟩ := jbd_inv hf
      refine jx_cVv (a := 162) (As := [.int a1, .int a2]) (rest := []) dX12_way_20 ml_X12_361 mv_X12_goesDownThen (s_X12_goesDownThen hE hq9) rfl rfl (jc_162 hE) (by decide) (Nat.le_of_ble_eq_true rfl) ?_
      refine jx_iload_n dX12_way_23 rfl ?_
      refine jx_iconst (v := 0) dX12_way_24 (by decide) ?_
      refine jx_aload_n dX12_way_25 rfl ?_
      refine jx_geti dX12_way_26 fl_X12_262 (kj_162 hE) sr_162_36 ?_
      refine jx_iconst (v := 1) dX12_way_29 (by decide) ?_
      refine jx_isub dX12_way_30 ?_
      obtain ⟨x11, w12, hq10, hf⟩ := jbd2_inv hf
      refine jx_cSi (As := [.int a3, .int 0, .int ((q9.1 162 36) - 1)]) (rest := []) dX12_way_31 ml_X12_324 ms_X12_in (s_X12_in hE hq10) rfl rfl rfl (by decide) (Nat.le_of_ble_eq_true rfl) ?_
      refine jx_if_eq (tgt := 46) dX12_way_34 (by decide) (fun c13 => ?_) (fun c13 => ?_)
      · rw [if_pos c13] at hf
        refine jx_iconst (v := (-1)) dX12_way_46 (by decide) ?_
        cases hf
        exact jx_iret dX12_way_47 rfl rfl
      · rw [if_neg c13] at hf
        refine jx_aload_n dX12_way_37 rfl ?_
        refine jx_getr dX12_way_38 fl_X12_80 (kj_162 hE) sr_162_35 ?_
        refine jx_iload_n dX12_way_41 rfl ?_
        obtain ⟨c14, hf⟩ := jg_inv hf
        refine jx_iald dX12_way_42 (kj_183 hE) (jin_vp c14) ?_
        refine jx_goto (tgt := 47) dX12_way_43 (by decide) ?_
        cases hf
        exact jx_iret dX12_way_47 rfl rfl
    · rw [if_pos c8] at hf
      refine jx_iconst (v := (-1)) dX12_way_15 (by decide) ?_
      cases hf
      exact jx_iret dX12_way_16 rfl rfl
def l_X12_spanTo : Nat → Int32 → Int32 → Int32 → Int32 → Int32 → jw → Option (Int32 × jw)
  | 0, _, _, _, _, _, _ => none
  | n + 1, b1, b2, b3, b4, b5, w => jbd2 (f_X12_entriesOf b1 w) fun x2 w3 => (if x2 ≤ b5 then some (b4 - 1, w3) else jbd2 (f_X12_entryAt b1 b5 w3) fun x6 w7 => jbd2 (f_X12_entryThen x6 b3 w7) fun x9 w10 => (if (jb x9) = 0 then jl (b5 + 1) fun x12 => (l_X12_spanTo n b1 b2 b3 b4 x12 w10) else jg (jin x6 34700) (jg (jin b2 34700) ((if (w10.2.1 182 (Int32.toNatClampNeg x6)) ≤ (w10.2.1 182 (Int32.toNatClampNeg b2)) then jl (b5 + 1) fun x16 => (l_X12_spanTo n b1 b2 b3 b4 x16 w10) else jg (jin x6 34700) ((if b4 ≤ (w10.2.1 182 (Int32.toNatClampNeg x6)) then jl (b5 + 1) fun x19 => (l_X12_spanTo n b1 b2 b3 b4 x19 w10) else jg (jin x6 34700) (jl (w10.2.1 182 (Int32.toNatClampNeg x6) : Int32) fun x21 => jl (b5 + 1) fun x22 => (l_X12_spanTo n b1 b2 b3 x21 x22 w10)))))))))
set_option maxRecDepth 20000 in
set_option maxHeartbeats 2000000 in
theorem sl_X12_spanTo {E : jE} (hE : jfull E) : ∀ (n : Nat) (b1 : Int32) (b2 : Int32) (b3 : Int32) (b4 : Int32) (b5 : Int32) (w : jw) (v : Int32) (w' : jw), l_X12_spanTo n b1 b2 b3 b4 b5 w = some (v, w') → jX E m_X12_spanTo 2 8 [(0, .ref (E.2.2.2 + 162)), (1, .int b1), (2, .int b2), (3, .int b3), (4, .int b4), (5, .int b5)] [] w (some (.int v)) w' := by
  intro n
  induction n with
  | zero => intro b1 b2 b3 b4 b5 w v w' hf; cases hf
  | succ n ih =>
    intro b1 b2 b3 b4 b5 w v w' hf
    unfold l_X12_spanTo at hf
    refine jx_iload dX12_spanTo_8 rfl ?_
    refine jx_aload_n dX12_spanTo_10 rfl ?_
    refine jx_iload_n dX12_spanTo_11 rfl ?_
    obtain ⟨x2, w3, hq1, hf⟩ := jbd2_inv hf
    refine jx_cVi (a := 162) (As := [.int b1]) (rest := [.int b5]) dX12_spanTo_12 ml_X12_249 mv_X12_entriesOf (s_X12_entriesOf hE hq1) rfl rfl (jc_162 hE) (by decide) (Nat.le_of_ble_eq_true rfl) ?_
    refine jx_icmp_ge (tgt := 79) dX12_spanTo_15 (by decide) (fun c4 => ?_) (fun c4 => ?_)
    · rw [if_pos c4] at hf
      refine jx_iload dX12_spanTo_79 rfl ?_
      refine jx_iconst (v := 1) dX12_spanTo_81 (by decide) ?_
      refine jx_isub dX12_spanTo_82 ?_
      cases hf
      exact jx_iret dX12_spanTo_83 rfl rfl
    · rw [if_neg c4] at hf
      refine jx_iload_n dX12_spanTo_18 rfl ?_
      refine jx_iload dX12_spanTo_19 rfl ?_
      obtain ⟨x6, w7, hq5, hf⟩ := jbd2_inv hf
      refine jx_cSi (As := [.int b1, .int b5]) (rest := []) dX12_spanTo_21 ml_X12_252 ms_X12_entryAt (s_X12_entryAt hE hq5) rfl rfl rfl (by decide) (Nat.le_of_ble_eq_true rfl) ?_
      refine jx_istore (ls' := [(0, .ref (E.2.2.2 + 162)), (1, .int b1), (2, .int b2), (3, .int b3), (4, .int b4), (5, .int b5), (6, .int x6)]) dX12_spanTo_24 (by decide) rfl ?_
      refine jx_aload_n dX12_spanTo_26 rfl ?_
      refine jx_iload dX12_spanTo_27 rfl ?_
      refine jx_iload_n dX12_spanTo_29 rfl ?_
      obtain ⟨x9, w10, hq8, hf⟩ := jbd2_inv hf
      refine jx_cVi (a := 162) (As := [.int x6, .int b3]) (rest := []) dX12_spanTo_30 ml_X12_352 mv_X12_entryThen (s_X12_entryThen hE hq8) rfl rfl (jc_162 hE) (by decide) (Nat.le_of_ble_eq_true rfl) ?_
      refine jx_if_eq (tgt := 73) dX12_spanTo_33 (by decide) (fun c11 => ?_) (fun c11 => ?_)
      · rw [if_pos c11] at hf
        obtain ⟨x12, hx12, hf⟩ := jl_inv hf
        refine jx_iinc (v := x12) (ls' := [(0, .ref (E.2.2.2 + 162)), (1, .int b1), (2, .int b2), (3, .int b3), (4, .int b4), (5, .int x12), (6, .int x6)]) dX12_spanTo_73 rfl (by rw [hx12]; rfl) (by decide) rfl ?_
        refine jx_goto (tgt := 8) dX12_spanTo_76 (by decide) ?_
        refine jx_pick [0, 1, 2, 3, 4, 5] rfl ?_
        exact ih _ _ _ _ _ _ _ _ hf
      · rw [if_neg c11] at hf
        refine jx_aload_n dX12_spanTo_36 rfl ?_
        refine jx_getr dX12_spanTo_37 fl_X12_77 (kj_162 hE) sr_162_34 ?_
        refine jx_iload dX12_spanTo_40 rfl ?_
        obtain ⟨c13, hf⟩ := jg_inv hf
        refine jx_iald dX12_spanTo_42 (kj_182 hE) (jin_vp c13) ?_
        refine jx_aload_n dX12_spanTo_43 rfl ?_
        refine jx_getr dX12_spanTo_44 fl_X12_77 (kj_162 hE) sr_162_34 ?_
        refine jx_iload_n dX12_spanTo_47 rfl ?_
        obtain ⟨c14, hf⟩ := jg_inv hf
        refine jx_iald dX12_spanTo_48 (kj_182 hE) (jin_vp c14) ?_
        refine jx_icmp_le (tgt := 73) dX12_spanTo_49 (by decide) (fun c15 => ?_) (fun c15 => ?_)
        · rw [if_pos c15] at hf
          obtain ⟨x16, hx16, hf⟩ := jl_inv hf
          refine jx_iinc (v := x16) (ls' := [(0, .ref (E.2.2.2 + 162)), (1, .int b1), (2, .int b2), (3, .int b3), (4, .int b4), (5, .int x16), (6, .int x6)]) dX12_spanTo_73 rfl (by rw [hx16]; rfl) (by decide) rfl ?_
          refine jx_goto (tgt := 8) dX12_spanTo_76 (by decide) ?_
          refine jx_pick [0, 1, 2, 3, 4, 5] rfl ?_
          exact ih _ _ _ _ _ _ _ _ hf
        · rw [if_neg c15] at hf
          refine jx_aload_n dX12_spanTo_52 rfl ?_
          refine jx_getr dX12_spanTo_53 fl_X12_77 (kj_162 hE) sr_162_34 ?_
          refine jx_iload dX12_spanTo_56 rfl ?_
          obtain ⟨c17, hf⟩ := jg_inv hf
          refine jx_iald dX12_spanTo_58 (kj_182 hE) (jin_vp c17) ?_
          refine jx_iload dX12_spanTo_59 rfl ?_
          refine jx_icmp_ge (tgt := 73) dX12_spanTo_61 (by decide) (fun c18 => ?_) (fun c18 => ?_)
          · rw [if_pos c18] at hf
            obtain ⟨x19, hx19, hf⟩ := jl_inv hf
            refine jx_iinc (v := x19) (ls' := [(0, .ref (E.2.2.2 + 162)), (1, .int b1), (2, .int b2), (3, .int b3), (4, .int b4), (5, .int x19), (6, .int x6)]) dX12_spanTo_73 rfl (by rw [hx19]; rfl) (by decide) rfl ?_
            refine jx_goto (tgt := 8) dX12_spanTo_76 (by decide) ?_
            refine jx_pick [0, 1, 2, 3, 4, 5] rfl ?_
            exact ih _ _ _ _ _ _ _ _ hf
          · rw [if_neg c18] at hf
            refine jx_aload_n dX12_spanTo_64 rfl ?_
            refine jx_getr dX12_spanTo_65 fl_X12_77 (kj_162 hE) sr_162_34 ?_
            refine jx_iload dX12_spanTo_68 rfl ?_
            obtain ⟨c20, hf⟩ := jg_inv hf
            refine jx_iald dX12_spanTo_70 (kj_182 hE) (jin_vp c20) ?_
            obtain ⟨x21, hx21, hf⟩ := jl_inv hf
            refine jx_nm hx21 ?_
            refine jx_istore (ls' := [(0, .ref (E.2.2.2 + 162)), (1, .int b1), (2, .int b2), (3, .int b3), (4, .int x21), (5, .int b5), (6, .int x6)]) dX12_spanTo_71 (by decide) rfl ?_
            obtain ⟨x22, hx22, hf⟩ := jl_inv hf
            refine jx_iinc (v := x22) (ls' := [(0, .ref (E.2.2.2 + 162)), (1, .int b1), (2, .int b2), (3, .int b3), (4, .int x21), (5, .int x22), (6, .int x6)]) dX12_spanTo_73 rfl (by rw [hx22]; rfl) (by decide) rfl ?_
            refine jx_goto (tgt := 8) dX12_spanTo_76 (by decide) ?_
            refine jx_pick [0, 1, 2, 3, 4, 5] rfl ?_
            exact ih _ _ _ _ _ _ _ _ hf
def f_X12_spanTo (a1 : Int32) (a2 : Int32) (a3 : Int32) (w : jw) : Option (Int32 × jw) := (l_X12_spanTo jfu a1 a2 a3 1000 0 w)
set_option maxRecDepth 20000 in
set_option maxHeartbeats 2000000 in
theorem s_X12_spanTo {E : jE} (hE : jfull E) {a1 : Int32} {a2 : Int32} {a3 : Int32} {w w' : jw} {v : Int32} (hf : f_X12_spanTo a1 a2 a3 w = some (v, w')) : jC E m_X12_spanTo 2 [.ref (E.2.2.2 + 162), .int a1, .int a2, .int a3] w (some (.int v)) w' := by
  refine jC_of (ls := [(0, .ref (E.2.2.2 + 162)), (1, .int a1), (2, .int a2), (3, .int a3)]) (by decide) rfl (fun _ => trivial) (Nat.le_of_ble_eq_true rfl) rfl ⟨.int, rfl, rfl⟩ ?_
  unfold f_X12_spanTo at hf
  refine jx_sipush (v := 1000) dX12_spanTo_0 (by decide) ?_
  refine jx_istore (ls' := [(0, .ref (E.2.2.2 + 162)), (1, .int a1), (2, .int a2), (3, .int a3), (4, .int 1000)]) dX12_spanTo_3 (by decide) rfl ?_
  refine jx_iconst (v := 0) dX12_spanTo_5 (by decide) ?_
  refine jx_istore (ls' := [(0, .ref (E.2.2.2 + 162)), (1, .int a1), (2, .int a2), (3, .int a3), (4, .int 1000), (5, .int 0)]) dX12_spanTo_6 (by decide) rfl ?_
  exact sl_X12_spanTo hE jfu _ _ _ _ _ _ _ _ hf
def l_X12_isLeast : Nat → Int32 → Int32 → Int32 → Int32 → jw → Option (Bool × jw)
  | 0, _, _, _, _, _ => none
  | n + 1, b1, b2, b3, b4, w => jbd2 (f_X12_entriesOf b1 w) fun x2 w3 => (if x2 ≤ b4 then some (true, w3) else jbd2 (f_X12_entryAt b1 b4 w3) fun x6 w7 => jbd2 (f_X12_entryThen x6 b3 w7) fun x9 w10 => (if (jb x9) = 0 then jl (b4 + 1) fun x12 => (l_X12_isLeast n b1 b2 b3 x12 w10) else jbd2 (f_X12_entryAt b1 b4 w10) fun x14 w15 => jg (jin x14 34700) (jg (jin b2 34700) ((if (w15.2.1 182 (Int32.toNatClampNeg b2)) ≤ (w15.2.1 182 (Int32.toNatClampNeg x14)) then jl (b4 + 1) fun x19 => (l_X12_isLeast n b1 b2 b3 x19 w15) else some (false, w15))))))
set_option maxRecDepth 20000 in
set_option maxHeartbeats 2000000 in
theorem sl_X12_isLeast {E : jE} (hE : jfull E) : ∀ (n : Nat) (b1 : Int32) (b2 : Int32) (b3 : Int32) (b4 : Int32) (w : jw) (v : Bool) (w' : jw), l_X12_isLeast n b1 b2 b3 b4 w = some (v, w') → jX E m_X12_isLeast 2 3 [(0, .ref (E.2.2.2 + 162)), (1, .int b1), (2, .int b2), (3, .int b3), (4, .int b4)] [] w (some (.int (jb v))) w' := by
  intro n
  induction n with
  | zero => intro b1 b2 b3 b4 w v w' hf; cases hf
  | succ n ih =>
    intro b1 b2 b3 b4 w v w' hf
    unfold l_X12_isLeast at hf
    refine jx_iload dX12_isLeast_3 rfl ?_
    refine jx_aload_n dX12_isLeast_5 rfl ?_
    refine jx_iload_n dX12_isLeast_6 rfl ?_
    obtain ⟨x2, w3, hq1, hf⟩ := jbd2_inv hf
    refine jx_cVi (a := 162) (As := [.int b1]) (rest := [.int b4]) dX12_isLeast_7 ml_X12_249 mv_X12_entriesOf (s_X12_entriesOf hE hq1) rfl rfl (jc_162 hE) (by decide) (Nat.le_of_ble_eq_true rfl) ?_
    refine jx_icmp_ge (tgt := 55) dX12_isLeast_10 (by decide) (fun c4 => ?_) (fun c4 => ?_)
    · rw [if_pos c4] at hf
      refine jx_iconst (v := 1) dX12_isLeast_55 (by decide) ?_
      cases hf
      exact jx_iret dX12_isLeast_56 rfl rfl
    · rw [if_neg c4] at hf
      refine jx_aload_n dX12_isLeast_13 rfl ?_
      refine jx_iload_n dX12_isLeast_14 rfl ?_
      refine jx_iload dX12_isLeast_15 rfl ?_
      obtain ⟨x6, w7, hq5, hf⟩ := jbd2_inv hf
      refine jx_cSi (As := [.int b1, .int b4]) (rest := [.ref (E.2.2.2 + 162)]) dX12_isLeast_17 ml_X12_252 ms_X12_entryAt (s_X12_entryAt hE hq5) rfl rfl rfl (by decide) (Nat.le_of_ble_eq_true rfl) ?_
      refine jx_iload_n dX12_isLeast_20 rfl ?_
      obtain ⟨x9, w10, hq8, hf⟩ := jbd2_inv hf
      refine jx_cVi (a := 162) (As := [.int x6, .int b3]) (rest := []) dX12_isLeast_21 ml_X12_352 mv_X12_entryThen (s_X12_entryThen hE hq8) rfl rfl (jc_162 hE) (by decide) (Nat.le_of_ble_eq_true rfl) ?_
      refine jx_if_eq (tgt := 49) dX12_isLeast_24 (by decide) (fun c11 => ?_) (fun c11 => ?_)
      · rw [if_pos c11] at hf
        obtain ⟨x12, hx12, hf⟩ := jl_inv hf
        refine jx_iinc (v := x12) (ls' := [(0, .ref (E.2.2.2 + 162)), (1, .int b1), (2, .int b2), (3, .int b3), (4, .int x12)]) dX12_isLeast_49 rfl (by rw [hx12]; rfl) (by decide) rfl ?_
        refine jx_goto (tgt := 3) dX12_isLeast_52 (by decide) ?_
        exact ih _ _ _ _ _ _ _ hf
      · rw [if_neg c11] at hf
        refine jx_aload_n dX12_isLeast_27 rfl ?_
        refine jx_getr dX12_isLeast_28 fl_X12_77 (kj_162 hE) sr_162_34 ?_
        refine jx_iload_n dX12_isLeast_31 rfl ?_
        refine jx_iload dX12_isLeast_32 rfl ?_
        obtain ⟨x14, w15, hq13, hf⟩ := jbd2_inv hf
        refine jx_cSi (As := [.int b1, .int b4]) (rest := [.ref (E.2.2.2 + 182)]) dX12_isLeast_34 ml_X12_252 ms_X12_entryAt (s_X12_entryAt hE hq13) rfl rfl rfl (by decide) (Nat.le_of_ble_eq_true rfl) ?_
        obtain ⟨c16, hf⟩ := jg_inv hf
        refine jx_iald dX12_isLeast_37 (kj_182 hE) (jin_vp c16) ?_
        refine jx_aload_n dX12_isLeast_38 rfl ?_
        refine jx_getr dX12_isLeast_39 fl_X12_77 (kj_162 hE) sr_162_34 ?_
        refine jx_iload_n dX12_isLeast_42 rfl ?_
        obtain ⟨c17, hf⟩ := jg_inv hf
        refine jx_iald dX12_isLeast_43 (kj_182 hE) (jin_vp c17) ?_
        refine jx_icmp_ge (tgt := 49) dX12_isLeast_44 (by decide) (fun c18 => ?_) (fun c18 => ?_)
        · rw [if_pos c18] at hf
          obtain ⟨x19, hx19, hf⟩ := jl_inv hf
          refine jx_iinc (v := x19) (ls' := [(0, .ref (E.2.2.2 + 162)), (1, .int b1), (2, .int b2), (3, .int b3), (4, .int x19)]) dX12_isLeast_49 rfl (by rw [hx19]; rfl) (by decide) rfl ?_
          refine jx_goto (tgt := 3) dX12_isLeast_52 (by decide) ?_
          exact ih _ _ _ _ _ _ _ hf
        · rw [if_neg c18] at hf
          refine jx_iconst (v := 0) dX12_isLeast_47 (by decide) ?_
          cases hf
          exact jx_iret dX12_isLeast_48 rfl rfl
def f_X12_isLeast (a1 : Int32) (a2 : Int32) (a3 : Int32) (w : jw) : Option (Bool × jw) := (l_X12_isLeast jfu a1 a2 a3 0 w)
set_option maxRecDepth 20000 in
set_option maxHeartbeats 2000000 in
theorem s_X12_isLeast {E : jE} (hE : jfull E) {a1 : Int32} {a2 : Int32} {a3 : Int32} {w w' : jw} {v : Bool} (hf : f_X12_isLeast a1 a2 a3 w = some (v, w')) : jC E m_X12_isLeast 2 [.ref (E.2.2.2 + 162), .int a1, .int a2, .int a3] w (some (.int (jb v))) w' := by
  refine jC_of (ls := [(0, .ref (E.2.2.2 + 162)), (1, .int a1), (2, .int a2), (3, .int a3)]) (by decide) rfl (fun _ => trivial) (Nat.le_of_ble_eq_true rfl) rfl jb_ans ?_
  unfold f_X12_isLeast at hf
  refine jx_iconst (v := 0) dX12_isLeast_0 (by decide) ?_
  refine jx_istore (ls' := [(0, .ref (E.2.2.2 + 162)), (1, .int a1), (2, .int a2), (3, .int a3), (4, .int 0)]) dX12_isLeast_1 (by decide) rfl ?_
  exact sl_X12_isLeast hE jfu _ _ _ _ _ _ _ hf
def f_X12_isAsked (a1 : Int32) (a2 : Int32) (a3 : Int32) (a4 : Int32) (a5 : Int32) (w : jw) : Option (Bool × jw) := jbd2 (f_X12_isLeast a1 a2 a3 w) fun x2 w3 => (if (jb x2) = 0 then jg (jin a2 34700) (jl (w3.2.1 182 (Int32.toNatClampNeg a2) : Int32) fun x6 => (if a5 < a4 then some (false, w3) else (if a5 < x6 then some (false, w3) else jbd2 (f_X12_spanTo a1 a2 a3 w3) fun x10 w11 => (if x10 < a4 then some (false, w11) else some (true, w11))))) else (if a5 < a4 then some (false, w3) else (if a5 < (0 : Int32) then some (false, w3) else jbd2 (f_X12_spanTo a1 a2 a3 w3) fun x16 w17 => (if x16 < a4 then some (false, w17) else some (true, w17)))))
set_option maxRecDepth 20000 in
set_option maxHeartbeats 2000000 in
theorem s_X12_isAsked {E : jE} (hE : jfull E) {a1 : Int32} {a2 : Int32} {a3 : Int32} {a4 : Int32} {a5 : Int32} {w w' : jw} {v : Bool} (hf : f_X12_isAsked a1 a2 a3 a4 a5 w = some (v, w')) : jC E m_X12_isAsked 3 [.ref (E.2.2.2 + 162), .int a1, .int a2, .int a3, .int a4, .int a5] w (some (.int (jb v))) w' := by
  refine jC_of (ls := [(0, .ref (E.2.2.2 + 162)), (1, .int a1), (2, .int a2), (3, .int a3), (4, .int a4), (5, .int a5)]) (by decide) rfl (fun _ => trivial) (Nat.le_of_ble_eq_true rfl) rfl jb_ans ?_
  unfold f_X12_isAsked at hf
  refine jx_aload_n dX12_isAsked_0 rfl ?_
  refine jx_iload_n dX12_isAsked_1 rfl ?_
  refine jx_iload_n dX12_isAsked_2 rfl ?_
  refine jx_iload_n dX12_isAsked_3 rfl ?_
  obtain ⟨x2, w3, hq1, hf⟩ := jbd2_inv hf
  refine jx_cVi (a := 162) (As := [.int a1, .int a2, .int a3]) (rest := []) dX12_isAsked_4 ml_X12_364 mv_X12_isLeast (s_X12_isLeast hE hq1) rfl rfl (jc_162 hE) (by decide) (Nat.le_of_ble_eq_true rfl) ?_
  refine jx_if_eq (tgt := 14) dX12_isAsked_7 (by decide) (fun c4 => ?_) (fun c4 => ?_)
  · rw [if_pos c4] at hf
    refine jx_aload_n dX12_isAsked_14 rfl ?_
    refine jx_getr dX12_isAsked_15 fl_X12_77 (kj_162 hE) sr_162_34 ?_
    refine jx_iload_n dX12_isAsked_18 rfl ?_
    obtain ⟨c5, hf⟩ := jg_inv hf
    refine jx_iald dX12_isAsked_19 (kj_182 hE) (jin_vp c5) ?_
    obtain ⟨x6, hx6, hf⟩ := jl_inv hf
    refine jx_nm hx6 ?_
    refine jx_istore (ls' := [(0, .ref (E.2.2.2 + 162)), (1, .int a1), (2, .int a2), (3, .int a3), (4, .int a4), (5, .int a5), (6, .int x6)]) dX12_isAsked_20 (by decide) rfl ?_
    refine jx_iload dX12_isAsked_22 rfl ?_
    refine jx_iload dX12_isAsked_24 rfl ?_
    refine jx_icmp_gt (tgt := 52) dX12_isAsked_26 (by decide) (fun c7 => ?_) (fun c7 => ?_)
    · rw [if_pos c7] at hf
      refine jx_iconst (v := 0) dX12_isAsked_52 (by decide) ?_
      cases hf
      exact jx_iret dX12_isAsked_53 rfl rfl
    · rw [if_neg c7] at hf
      refine jx_iload dX12_isAsked_29 rfl ?_
      refine jx_iload dX12_isAsked_31 rfl ?_
      refine jx_icmp_gt (tgt := 52) dX12_isAsked_33 (by decide) (fun c8 => ?_) (fun c8 => ?_)
      · rw [if_pos c8] at hf
        refine jx_iconst (v := 0) dX12_isAsked_52 (by decide) ?_
        cases hf
        exact jx_iret dX12_isAsked_53 rfl rfl
      · rw [if_neg c8] at hf
        refine jx_aload_n dX12_isAsked_36 rfl ?_
        refine jx_iload_n dX12_isAsked_37 rfl ?_
        refine jx_iload_n dX12_isAsked_38 rfl ?_
        refine jx_iload_n dX12_isAsked_39 rfl ?_
        obtain ⟨x10, w11, hq9, hf⟩ := jbd2_inv hf
        refine jx_cVi (a := 162) (As := [.int a1, .int a2, .int a3]) (rest := []) dX12_isAsked_40 ml_X12_367 mv_X12_spanTo (s_X12_spanTo hE hq9) rfl rfl (jc_162 hE) (by decide) (Nat.le_of_ble_eq_true rfl) ?_
        refine jx_iload dX12_isAsked_43 rfl ?_
        refine jx_icmp_lt (tgt := 52) dX12_isAsked_45 (by decide) (fun c12 => ?_) (fun c12 => ?_)
        · rw [if_pos c12] at hf
          refine jx_iconst (v := 0) dX12_isAsked_52 (by decide) ?_
          cases hf
          exact jx_iret dX12_isAsked_53 rfl rfl
        · rw [if_neg c12] at hf
          refine jx_iconst (v := 1) dX12_isAsked_48 (by decide) ?_
          refine jx_goto (tgt := 53) dX12_isAsked_49 (by decide) ?_
          cases hf
          exact jx_iret dX12_isAsked_53 rfl rfl
  · rw [if_neg c4] at hf
    refine jx_iconst (v := 0) dX12_isAsked_10 (by decide) ?_
    refine jx_goto (tgt := 20) dX12_isAsked_11 (by decide) ?_
    refine jx_istore (ls' := [(0, .ref (E.2.2.2 + 162)), (1, .int a1), (2, .int a2), (3, .int a3), (4, .int a4), (5, .int a5), (6, .int 0)]) dX12_isAsked_20 (by decide) rfl ?_
    refine jx_iload dX12_isAsked_22 rfl ?_
    refine jx_iload dX12_isAsked_24 rfl ?_
    refine jx_icmp_gt (tgt := 52) dX12_isAsked_26 (by decide) (fun c13 => ?_) (fun c13 => ?_)
    · rw [if_pos c13] at hf
      refine jx_iconst (v := 0) dX12_isAsked_52 (by decide) ?_
      cases hf
      exact jx_iret dX12_isAsked_53 rfl rfl
    · rw [if_neg c13] at hf
      refine jx_iload dX12_isAsked_29 rfl ?_
      refine jx_iload dX12_isAsked_31 rfl ?_
      refine jx_icmp_gt (tgt := 52) dX12_isAsked_33 (by decide) (fun c14 => ?_) (fun c14 => ?_)
      · rw [if_pos c14] at hf
        refine jx_iconst (v := 0) dX12_isAsked_52 (by decide) ?_
        cases hf
        exact jx_iret dX12_isAsked_53 rfl rfl
      · rw [if_neg c14] at hf
        refine jx_aload_n dX12_isAsked_36 rfl ?_
        refine jx_iload_n dX12_isAsked_37 rfl ?_
        refine jx_iload_n dX12_isAsked_38 rfl ?_
        refine jx_iload_n dX12_isAsked_39 rfl ?_
        obtain ⟨x16, w17, hq15, hf⟩ := jbd2_inv hf
        refine jx_cVi (a := 162) (As := [.int a1, .int a2, .int a3]) (rest := []) dX12_isAsked_40 ml_X12_367 mv_X12_spanTo (s_X12_spanTo hE hq15) rfl rfl (jc_162 hE) (by decide) (Nat.le_of_ble_eq_true rfl) ?_
        refine jx_iload dX12_isAsked_43 rfl ?_
        refine jx_icmp_lt (tgt := 52) dX12_isAsked_45 (by decide) (fun c18 => ?_) (fun c18 => ?_)
        · rw [if_pos c18] at hf
          refine jx_iconst (v := 0) dX12_isAsked_52 (by decide) ?_
          cases hf
          exact jx_iret dX12_isAsked_53 rfl rfl
        · rw [if_neg c18] at hf
          refine jx_iconst (v := 1) dX12_isAsked_48 (by decide) ?_
          refine jx_goto (tgt := 53) dX12_isAsked_49 (by decide) ?_
          cases hf
          exact jx_iret dX12_isAsked_53 rfl rfl
def l_X12_goesThrough : Nat → Nat → Int32 → Int32 → Int32 → Int32 → Int32 → Int32 → Int32 → jw → Option (jw)
  | 0, _, _, _, _, _, _, _, _, _ => none
  | n + 1, t, b1, b2, b3, b4, b5, b6, b7, w => (if t = 0 then (if (w.1 162 45) ≤ b5 then some w else jg (jin b5 330) (jl (w.2.1 190 (Int32.toNatClampNeg b5) : Int32) fun x3 => (l_X12_goesThrough n 1 b1 b2 b3 b4 b5 x3 0 w))) else jbd2 (f_X12_entriesOf b6 w) fun x5 w6 => (if x5 ≤ b7 then jl (b5 + 1) fun x8 => (l_X12_goesThrough n 0 b1 b2 b3 b4 x8 0 0 w6) else jbd2 (f_X12_isLeaf b6 w6) fun x10 w11 => (if (jb x10) = 0 then jbd2 (f_X12_entryAt b6 b7 w11) fun x15 w16 => jbd2 (f_X12_entryThen x15 b1 w16) fun x18 w19 => (if (jb x18) = 0 then jl (b7 + 1) fun x21 => (l_X12_goesThrough n 1 b1 b2 b3 b4 b5 b6 x21 w19) else (if b2 = 0 then jbd2 (f_X12_isAsked b6 x15 b1 b3 b4 w19) fun x29 w30 => (if (jb x29) = 0 then jl (b7 + 1) fun x37 => (l_X12_goesThrough n 1 b1 b2 b3 b4 b5 b6 x37 w30) else jg (jin (x15 + 3) 34700) (jg (jin (w30.1 162 45) 330) (jl (jsetX w30 190 (Int32.toNatClampNeg (w30.1 162 45)) (w30.2.1 182 (Int32.toNatClampNeg (x15 + 3)))) fun w34 => jl (jsetI w34 162 45 ((w34.1 162 45) + 1)) fun w35 => jl (b7 + 1) fun x36 => (l_X12_goesThrough n 1 b1 b2 b3 b4 b5 b6 x36 w35)))) else jg (jin (x15 + 3) 34700) (jg (jin (w19.1 162 45) 330) (jl (jsetX w19 190 (Int32.toNatClampNeg (w19.1 162 45)) (w19.2.1 182 (Int32.toNatClampNeg (x15 + 3)))) fun w25 => jl (jsetI w25 162 45 ((w25.1 162 45) + 1)) fun w26 => jl (b7 + 1) fun x27 => (l_X12_goesThrough n 1 b1 b2 b3 b4 b5 b6 x27 w26))))) else jl (b5 + 1) fun x13 => (l_X12_goesThrough n 0 b1 b2 b3 b4 x13 0 0 w11))))
set_option maxRecDepth 20000 in
set_option maxHeartbeats 2000000 in
theorem sl_X12_goesThrough {E : jE} (hE : jfull E) : ∀ (n : Nat), (∀ (b1 : Int32) (b2 : Int32) (b3 : Int32) (b4 : Int32) (b5 : Int32) (b6 : Int32) (b7 : Int32) (w : jw) (w' : jw), l_X12_goesThrough n 0 b1 b2 b3 b4 b5 b6 b7 w = some w' → jX E m_X12_goesThrough 4 19 [(0, .ref (E.2.2.2 + 162)), (1, .int b1), (2, .int b2), (3, .int b3), (4, .int b4), (5, .int b5)] [] w none w') ∧ (∀ (b1 : Int32) (b2 : Int32) (b3 : Int32) (b4 : Int32) (b5 : Int32) (b6 : Int32) (b7 : Int32) (w : jw) (w' : jw), l_X12_goesThrough n 1 b1 b2 b3 b4 b5 b6 b7 w = some w' → jX E m_X12_goesThrough 4 40 [(0, .ref (E.2.2.2 + 162)), (1, .int b1), (2, .int b2), (3, .int b3), (4, .int b4), (5, .int b5), (6, .int b6), (7, .int b7)] [] w none w') := by
  intro n
  induction n with
  | zero => refine ⟨?_, ?_⟩ <;> (intros; rename_i hf; cases hf)
  | succ n ih =>
    refine ⟨?_, ?_⟩
    · intro b1 b2 b3 b4 b5 b6 b7 w w' hf
      unfold l_X12_goesThrough at hf
      rw [if_pos (by decide)] at hf
      refine jx_iload dX12_goesThrough_19 rfl ?_
      refine jx_aload_n dX12_goesThrough_21 rfl ?_
      refine jx_geti dX12_goesThrough_22 fl_X12_370 (kj_162 hE) sr_162_45 ?_
      refine jx_icmp_ge (tgt := 141) dX12_goesThrough_25 (by decide) (fun c1 => ?_) (fun c1 => ?_)
      · rw [if_pos c1] at hf
        cases hf
        exact jx_vret dX12_goesThrough_141 rfl rfl
      · rw [if_neg c1] at hf
        refine jx_aload_n dX12_goesThrough_28 rfl ?_
        refine jx_getr dX12_goesThrough_29 fl_X12_101 (kj_162 hE) sr_162_44 ?_
        refine jx_iload dX12_goesThrough_32 rfl ?_
        obtain ⟨c2, hf⟩ := jg_inv hf
        refine jx_iald dX12_goesThrough_34 (kj_190 hE) (jin_vp c2) ?_
        obtain ⟨x3, hx3, hf⟩ := jl_inv hf
        refine jx_nm hx3 ?_
        refine jx_istore (ls' := [(0, .ref (E.2.2.2 + 162)), (1, .int b1), (2, .int b2), (3, .int b3), (4, .int b4), (5, .int b5), (6, .int x3)]) dX12_goesThrough_35 (by decide) rfl ?_
        refine jx_iconst (v := 0) dX12_goesThrough_37 (by decide) ?_
        refine jx_istore (ls' := [(0, .ref (E.2.2.2 + 162)), (1, .int b1), (2, .int b2), (3, .int b3), (4, .int b4), (5, .int b5), (6, .int x3), (7, .int 0)]) dX12_goesThrough_38 (by decide) rfl ?_
        exact ih.2 _ _ _ _ _ _ _ _ _ hf
    · intro b1 b2 b3 b4 b5 b6 b7 w w' hf
      unfold l_X12_goesThrough at hf
      rw [if_neg (by decide)] at hf
      refine jx_iload dX12_goesThrough_40 rfl ?_
      refine jx_aload_n dX12_goesThrough_42 rfl ?_
      refine jx_iload dX12_goesThrough_43 rfl ?_
      obtain ⟨x5, w6, hq4, hf⟩ := jbd2_inv hf
      refine jx_cVi (a := 162) (As := [.int b6]) (rest := [.int b7]) dX12_goesThrough_45 ml_X12_249 mv_X12_entriesOf (s_X12_entriesOf hE hq4) rfl rfl (jc_162 hE) (by decide) (Nat.le_of_ble_eq_true rfl) ?_
      refine jx_icmp_ge (tgt := 135) dX12_goesThrough_48 (by decide) (fun c7 => ?_) (fun c7 => ?_)
      · rw [if_pos c7] at hf
        obtain ⟨x8, hx8, hf⟩ := jl_inv hf
        refine jx_iinc (v := x8) (ls' := [(0, .ref (E.2.2.2 + 162)), (1, .int b1), (2, .int b2), (3, .int b3), (4, .int b4), (5, .int x8), (6, .int b6), (7, .int b7)]) dX12_goesThrough_135 rfl (by rw [hx8]; rfl) (by decide) rfl ?_
        refine jx_goto (tgt := 19) dX12_goesThrough_138 (by decide) ?_
        refine jx_pick [0, 1, 2, 3, 4, 5] rfl ?_
        exact ih.1 _ _ _ _ _ _ _ _ _ hf
      · rw [if_neg c7] at hf
        refine jx_aload_n dX12_goesThrough_51 rfl ?_
        refine jx_iload dX12_goesThrough_52 rfl ?_
        obtain ⟨x10, w11, hq9, hf⟩ := jbd2_inv hf
        refine jx_cVi (a := 162) (As := [.int b6]) (rest := []) dX12_goesThrough_54 ml_X12_265 mv_X12_isLeaf (s_X12_isLeaf hE hq9) rfl rfl (jc_162 hE) (by decide) (Nat.le_of_ble_eq_true rfl) ?_
        refine jx_if_ne (tgt := 135) dX12_goesThrough_57 (by decide) (fun c12 => ?_) (fun c12 => ?_)
        · rw [if_neg c12] at hf
          obtain ⟨x13, hx13, hf⟩ := jl_inv hf
          refine jx_iinc (v := x13) (ls' := [(0, .ref (E.2.2.2 + 162)), (1, .int b1), (2, .int b2), (3, .int b3), (4, .int b4), (5, .int x13), (6, .int b6), (7, .int b7)]) dX12_goesThrough_135 rfl (by rw [hx13]; rfl) (by decide) rfl ?_
          refine jx_goto (tgt := 19) dX12_goesThrough_138 (by decide) ?_
          refine jx_pick [0, 1, 2, 3, 4, 5] rfl ?_
          exact ih.1 _ _ _ _ _ _ _ _ _ hf
        · rw [if_pos c12] at hf
          refine jx_iload dX12_goesThrough_60 rfl ?_
          refine jx_iload dX12_goesThrough_62 rfl ?_
          obtain ⟨x15, w16, hq14, hf⟩ := jbd2_inv hf
          refine jx_cSi (As := [.int b6, .int b7]) (rest := []) dX12_goesThrough_64 ml_X12_252 ms_X12_entryAt (s_X12_entryAt hE hq14) rfl rfl rfl (by decide) (Nat.le_of_ble_eq_true rfl) ?_
          refine jx_istore (ls' := [(0, .ref (E.2.2.2 + 162)), (1, .int b1), (2, .int b2), (3, .int b3), (4, .int b4), (5, .int b5), (6, .int b6), (7, .int b7), (8, .int x15)]) dX12_goesThrough_67 (by decide) rfl ?_
          refine jx_aload_n dX12_goesThrough_69 rfl ?_
          refine jx_iload dX12_goesThrough_70 rfl ?_
          refine jx_iload_n dX12_goesThrough_72 rfl ?_
          obtain ⟨x18, w19, hq17, hf⟩ := jbd2_inv hf
          refine jx_cVi (a := 162) (As := [.int x15, .int b1]) (rest := []) dX12_goesThrough_73 ml_X12_352 mv_X12_entryThen (s_X12_entryThen hE hq17) rfl rfl (jc_162 hE) (by decide) (Nat.le_of_ble_eq_true rfl) ?_
          refine jx_if_eq (tgt := 129) dX12_goesThrough_76 (by decide) (fun c20 => ?_) (fun c20 => ?_)
          · rw [if_pos c20] at hf
            obtain ⟨x21, hx21, hf⟩ := jl_inv hf
            refine jx_iinc (v := x21) (ls' := [(0, .ref (E.2.2.2 + 162)), (1, .int b1), (2, .int b2), (3, .int b3), (4, .int b4), (5, .int b5), (6, .int b6), (7, .int x21), (8, .int x15)]) dX12_goesThrough_129 rfl (by rw [hx21]; rfl) (by decide) rfl ?_
            refine jx_goto (tgt := 40) dX12_goesThrough_132 (by decide) ?_
            refine jx_pick [0, 1, 2, 3, 4, 5, 6, 7] rfl ?_
            exact ih.2 _ _ _ _ _ _ _ _ _ hf
          · rw [if_neg c20] at hf
            refine jx_iload_n dX12_goesThrough_79 rfl ?_
            refine jx_if_ne (tgt := 101) dX12_goesThrough_80 (by decide) (fun c22 => ?_) (fun c22 => ?_)
            · rw [if_neg c22] at hf
              refine jx_aload_n dX12_goesThrough_101 rfl ?_
              refine jx_getr dX12_goesThrough_102 fl_X12_101 (kj_162 hE) sr_162_44 ?_
              refine jx_aload_n dX12_goesThrough_105 rfl ?_
              refine jx_geti dX12_goesThrough_106 fl_X12_370 (kj_162 hE) sr_162_45 ?_
              refine jx_aload_n dX12_goesThrough_109 rfl ?_
              refine jx_getr dX12_goesThrough_110 fl_X12_77 (kj_162 hE) sr_162_34 ?_
              refine jx_iload dX12_goesThrough_113 rfl ?_
              refine jx_iconst (v := 3) dX12_goesThrough_115 (by decide) ?_
              refine jx_iadd dX12_goesThrough_116 ?_
              obtain ⟨c23, hf⟩ := jg_inv hf
              refine jx_iald dX12_goesThrough_117 (kj_182 hE) (jin_vp c23) ?_
              obtain ⟨c24, hf⟩ := jg_inv hf
              refine jx_iast dX12_goesThrough_118 (kj_190 hE) (jin_vp c24) ?_
              obtain ⟨w25, hw25, hf⟩ := jl_inv hf
              refine jx_nw hw25 ?_
              refine jx_aload_n dX12_goesThrough_119 rfl ?_
              refine jx_dup dX12_goesThrough_120 rfl ?_
              refine jx_geti dX12_goesThrough_121 fl_X12_370 (kj_162 hE) sr_162_45 ?_
              refine jx_iconst (v := 1) dX12_goesThrough_124 (by decide) ?_
              refine jx_iadd dX12_goesThrough_125 ?_
              refine jx_puti dX12_goesThrough_126 fp_X12_370 (kj_162 hE) sr_162_45 rfl rfl ?_
              obtain ⟨w26, hw26, hf⟩ := jl_inv hf
              refine jx_nw hw26 ?_
              obtain ⟨x27, hx27, hf⟩ := jl_inv hf
              refine jx_iinc (v := x27) (ls' := [(0, .ref (E.2.2.2 + 162)), (1, .int b1), (2, .int b2), (3, .int b3), (4, .int b4), (5, .int b5), (6, .int b6), (7, .int x27), (8, .int x15)]) dX12_goesThrough_129 rfl (by rw [hx27]; rfl) (by decide) rfl ?_
              refine jx_goto (tgt := 40) dX12_goesThrough_132 (by decide) ?_
              refine jx_pick [0, 1, 2, 3, 4, 5, 6, 7] rfl ?_
              exact ih.2 _ _ _ _ _ _ _ _ _ hf
            · rw [if_pos c22] at hf
              refine jx_aload_n dX12_goesThrough_83 rfl ?_
              refine jx_iload dX12_goesThrough_84 rfl ?_
              refine jx_iload dX12_goesThrough_86 rfl ?_
              refine jx_iload_n dX12_goesThrough_88 rfl ?_
              refine jx_iload_n dX12_goesThrough_89 rfl ?_
              refine jx_iload dX12_goesThrough_90 rfl ?_
              obtain ⟨x29, w30, hq28, hf⟩ := jbd2_inv hf
              refine jx_cVi (a := 162) (As := [.int b6, .int x15, .int b1, .int b3, .int b4]) (rest := []) dX12_goesThrough_92 ml_X12_373 mv_X12_isAsked (s_X12_isAsked hE hq28) rfl rfl (jc_162 hE) (by decide) (Nat.le_of_ble_eq_true rfl) ?_
              refine jx_if_ne (tgt := 101) dX12_goesThrough_95 (by decide) (fun c31 => ?_) (fun c31 => ?_)
              · rw [if_neg c31] at hf
                refine jx_aload_n dX12_goesThrough_101 rfl ?_
                refine jx_getr dX12_goesThrough_102 fl_X12_101 (kj_162 hE) sr_162_44 ?_
                refine jx_aload_n dX12_goesThrough_105 rfl ?_
                refine jx_geti dX12_goesThrough_106 fl_X12_370 (kj_162 hE) sr_162_45 ?_
                refine jx_aload_n dX12_goesThrough_109 rfl ?_
                refine jx_getr dX12_goesThrough_110 fl_X12_77 (kj_162 hE) sr_162_34 ?_
                refine jx_iload dX12_goesThrough_113 rfl ?_
                refine jx_iconst (v := 3) dX12_goesThrough_115 (by decide) ?_
                refine jx_iadd dX12_goesThrough_116 ?_
                obtain ⟨c32, hf⟩ := jg_inv hf
                refine jx_iald dX12_goesThrough_117 (kj_182 hE) (jin_vp c32) ?_
                obtain ⟨c33, hf⟩ := jg_inv hf
                refine jx_iast dX12_goesThrough_118 (kj_190 hE) (jin_vp c33) ?_
                obtain ⟨w34, hw34, hf⟩ := jl_inv hf
                refine jx_nw hw34 ?_
                refine jx_aload_n dX12_goesThrough_119 rfl ?_
                refine jx_dup dX12_goesThrough_120 rfl ?_
                refine jx_geti dX12_goesThrough_121 fl_X12_370 (kj_162 hE) sr_162_45 ?_
                refine jx_iconst (v := 1) dX12_goesThrough_124 (by decide) ?_
                refine jx_iadd dX12_goesThrough_125 ?_
                refine jx_puti dX12_goesThrough_126 fp_X12_370 (kj_162 hE) sr_162_45 rfl rfl ?_
                obtain ⟨w35, hw35, hf⟩ := jl_inv hf
                refine jx_nw hw35 ?_
                obtain ⟨x36, hx36, hf⟩ := jl_inv hf
                refine jx_iinc (v := x36) (ls' := [(0, .ref (E.2.2.2 + 162)), (1, .int b1), (2, .int b2), (3, .int b3), (4, .int b4), (5, .int b5), (6, .int b6), (7, .int x36), (8, .int x15)]) dX12_goesThrough_129 rfl (by rw [hx36]; rfl) (by decide) rfl ?_
                refine jx_goto (tgt := 40) dX12_goesThrough_132 (by decide) ?_
                refine jx_pick [0, 1, 2, 3, 4, 5, 6, 7] rfl ?_
                exact ih.2 _ _ _ _ _ _ _ _ _ hf
              · rw [if_pos c31] at hf
                refine jx_goto (tgt := 129) dX12_goesThrough_98 (by decide) ?_
                obtain ⟨x37, hx37, hf⟩ := jl_inv hf
                refine jx_iinc (v := x37) (ls' := [(0, .ref (E.2.2.2 + 162)), (1, .int b1), (2, .int b2), (3, .int b3), (4, .int b4), (5, .int b5), (6, .int b6), (7, .int x37), (8, .int x15)]) dX12_goesThrough_129 rfl (by rw [hx37]; rfl) (by decide) rfl ?_
                refine jx_goto (tgt := 40) dX12_goesThrough_132 (by decide) ?_
                refine jx_pick [0, 1, 2, 3, 4, 5, 6, 7] rfl ?_
                exact ih.2 _ _ _ _ _ _ _ _ _ hf
def f_X12_goesThrough (a1 : Int32) (a2 : Int32) (a3 : Int32) (a4 : Int32) (w : jw) : Option (jw) := jbd2 (f_X12_rootAt a1 w) fun x39 w40 => jg (jin 0 330) (jl (jsetX w40 190 (Int32.toNatClampNeg 0) x39) fun w42 => jl (jsetI w42 162 45 1) fun w43 => (l_X12_goesThrough jfu 0 a1 a2 a3 a4 0 0 0 w43))
set_option maxRecDepth 20000 in
set_option maxHeartbeats 2000000 in
theorem s_X12_goesThrough {E : jE} (hE : jfull E) {a1 : Int32} {a2 : Int32} {a3 : Int32} {a4 : Int32} {w w' : jw} (hf : f_X12_goesThrough a1 a2 a3 a4 w = some w') : jC E m_X12_goesThrough 4 [.ref (E.2.2.2 + 162), .int a1, .int a2, .int a3, .int a4] w none w' := by
  refine jC_of (ls := [(0, .ref (E.2.2.2 + 162)), (1, .int a1), (2, .int a2), (3, .int a3), (4, .int a4)]) (by decide) rfl (fun _ => trivial) (Nat.le_of_ble_eq_true rfl) rfl rfl ?_
  unfold f_X12_goesThrough at hf
  refine jx_aload_n dX12_goesThrough_0 rfl ?_
  refine jx_getr dX12_goesThrough_1 fl_X12_101 (kj_162 hE) sr_162_44 ?_
  refine jx_iconst (v := 0) dX12_goesThrough_4 (by decide) ?_
  refine jx_aload_n dX12_goesThrough_5 rfl ?_
  refine jx_iload_n dX12_goesThrough_6 rfl ?_
  obtain ⟨x39, w40, hq38, hf⟩ := jbd2_inv hf
  refine jx_cVi (a := 162) (As := [.int a1]) (rest := [.int 0, .ref (E.2.2.2 + 190)]) dX12_goesThrough_7 ml_X12_355 mv_X12_rootAt (s_X12_rootAt hE hq38) rfl rfl (jc_162 hE) (by decide) (Nat.le_of_ble_eq_true rfl) ?_
  obtain ⟨c41, hf⟩ := jg_inv hf
  refine jx_iast dX12_goesThrough_10 (kj_190 hE) (jin_vp c41) ?_
  obtain ⟨w42, hw42, hf⟩ := jl_inv hf
  refine jx_nw hw42 ?_
  refine jx_aload_n dX12_goesThrough_11 rfl ?_
  refine jx_iconst (v := 1) dX12_goesThrough_12 (by decide) ?_
  refine jx_puti dX12_goesThrough_13 fp_X12_370 (kj_162 hE) sr_162_45 rfl rfl ?_
  obtain ⟨w43, hw43, hf⟩ := jl_inv hf
  refine jx_nw hw43 ?_
  refine jx_iconst (v := 0) dX12_goesThrough_16 (by decide) ?_
  refine jx_istore (ls' := [(0, .ref (E.2.2.2 + 162)), (1, .int a1), (2, .int a2), (3, .int a3), (4, .int a4), (5, .int 0)]) dX12_goesThrough_17 (by decide) rfl ?_
  exact (sl_X12_goesThrough hE jfu).1 _ _ _ _ _ _ _ _ _ hf
def f_X12_reads (a1 : Int32) (a2 : Int32) (a3 : Int32) (w : jw) : Option (Int32 × jw) := jbd2 (f_X12_isRange a1 a2 w) fun x2 w3 => (if (jb x2) = 0 then some ((-1), w3) else jbd2 (f_X12_isTime a3 w3) fun x6 w7 => (if (jb x6) = 0 then some ((-1), w7) else jbd (f_X12_goesThrough a3 0 a1 a2 w7) fun q9 => some (q9.1 162 45, q9)))
set_option maxRecDepth 20000 in
set_option maxHeartbeats 2000000 in
theorem s_X12_reads {E : jE} (hE : jfull E) {a1 : Int32} {a2 : Int32} {a3 : Int32} {w w' : jw} {v : Int32} (hf : f_X12_reads a1 a2 a3 w = some (v, w')) : jC E m_X12_reads 5 [.ref (E.2.2.2 + 162), .int a1, .int a2, .int a3] w (some (.int v)) w' := by
  refine jC_of (ls := [(0, .ref (E.2.2.2 + 162)), (1, .int a1), (2, .int a2), (3, .int a3)]) (by decide) rfl (fun _ => trivial) (Nat.le_of_ble_eq_true rfl) rfl ⟨.int, rfl, rfl⟩ ?_
  unfold f_X12_reads at hf
  refine jx_aload_n dX12_reads_0 rfl ?_
  refine jx_iload_n dX12_reads_1 rfl ?_
  refine jx_iload_n dX12_reads_2 rfl ?_
  obtain ⟨x2, w3, hq1, hf⟩ := jbd2_inv hf
  refine jx_cVi (a := 162) (As := [.int a1, .int a2]) (rest := []) dX12_reads_3 ml_X12_340 mv_X12_isRange (s_X12_isRange hE hq1) rfl rfl (jc_162 hE) (by decide) (Nat.le_of_ble_eq_true rfl) ?_
  refine jx_if_eq (tgt := 17) dX12_reads_6 (by decide) (fun c4 => ?_) (fun c4 => ?_)
  · rw [if_pos c4] at hf
    refine jx_iconst (v := (-1)) dX12_reads_17 (by decide) ?_
    cases hf
    exact jx_iret dX12_reads_18 rfl rfl
  · rw [if_neg c4] at hf
    refine jx_aload_n dX12_reads_9 rfl ?_
    refine jx_iload_n dX12_reads_10 rfl ?_
    obtain ⟨x6, w7, hq5, hf⟩ := jbd2_inv hf
    refine jx_cVi (a := 162) (As := [.int a3]) (rest := []) dX12_reads_11 ml_X12_334 mv_X12_isTime (s_X12_isTime hE hq5) rfl rfl (jc_162 hE) (by decide) (Nat.le_of_ble_eq_true rfl) ?_
    refine jx_if_ne (tgt := 19) dX12_reads_14 (by decide) (fun c8 => ?_) (fun c8 => ?_)
    · rw [if_neg c8] at hf
      refine jx_aload_n dX12_reads_19 rfl ?_
      refine jx_iload_n dX12_reads_20 rfl ?_
      refine jx_iconst (v := 0) dX12_reads_21 (by decide) ?_
      refine jx_iload_n dX12_reads_22 rfl ?_
      refine jx_iload_n dX12_reads_23 rfl ?_
      obtain ⟨q9, hq9, hf⟩ := jbd_inv hf
      refine jx_cVv (a := 162) (As := [.int a3, .int 0, .int a1, .int a2]) (rest := []) dX12_reads_24 ml_X12_377 mv_X12_goesThrough (s_X12_goesThrough hE hq9) rfl rfl (jc_162 hE) (by decide) (Nat.le_of_ble_eq_true rfl) ?_
      refine jx_aload_n dX12_reads_27 rfl ?_
      refine jx_geti dX12_reads_28 fl_X12_370 (kj_162 hE) sr_162_45 ?_
      cases hf
      exact jx_iret dX12_reads_31 rfl rfl
    · rw [if_pos c8] at hf
      refine jx_iconst (v := (-1)) dX12_reads_17 (by decide) ?_
      cases hf
      exact jx_iret dX12_reads_18 rfl rfl
def l_X12_livingThen : Nat → Int32 → Int32 → Int32 → Int32 → jw → Option (Int32 × jw)
  | 0, _, _, _, _, _ => none
  | n + 1, b1, b2, b3, b4, w => jbd2 (f_X12_entriesOf b1 w) fun x2 w3 => (if x2 ≤ b4 then some (b3, w3) else jbd2 (f_X12_entryAt b1 b4 w3) fun x6 w7 => jbd2 (f_X12_entryThen x6 b2 w7) fun x9 w10 => (if (jb x9) = 0 then jl (b4 + 1) fun x12 => (l_X12_livingThen n b1 b2 b3 x12 w10) else jl (b3 + 1) fun x13 => jl (b4 + 1) fun x14 => (l_X12_livingThen n b1 b2 x13 x14 w10)))
set_option maxRecDepth 20000 in
set_option maxHeartbeats 2000000 in
theorem sl_X12_livingThen {E : jE} (hE : jfull E) : ∀ (n : Nat) (b1 : Int32) (b2 : Int32) (b3 : Int32) (b4 : Int32) (w : jw) (v : Int32) (w' : jw), l_X12_livingThen n b1 b2 b3 b4 w = some (v, w') → jX E m_X12_livingThen 2 5 [(0, .ref (E.2.2.2 + 162)), (1, .int b1), (2, .int b2), (3, .int b3), (4, .int b4)] [] w (some (.int v)) w' := by
  intro n
  induction n with
  | zero => intro b1 b2 b3 b4 w v w' hf; cases hf
  | succ n ih =>
    intro b1 b2 b3 b4 w v w' hf
    unfold l_X12_livingThen at hf
    refine jx_iload dX12_livingThen_5 rfl ?_
    refine jx_aload_n dX12_livingThen_7 rfl ?_
    refine jx_iload_n dX12_livingThen_8 rfl ?_
    obtain ⟨x2, w3, hq1, hf⟩ := jbd2_inv hf
    refine jx_cVi (a := 162) (As := [.int b1]) (rest := [.int b4]) dX12_livingThen_9 ml_X12_249 mv_X12_entriesOf (s_X12_entriesOf hE hq1) rfl rfl (jc_162 hE) (by decide) (Nat.le_of_ble_eq_true rfl) ?_
    refine jx_icmp_ge (tgt := 38) dX12_livingThen_12 (by decide) (fun c4 => ?_) (fun c4 => ?_)
    · rw [if_pos c4] at hf
      refine jx_iload_n dX12_livingThen_38 rfl ?_
      cases hf
      exact jx_iret dX12_livingThen_39 rfl rfl
    · rw [if_neg c4] at hf
      refine jx_aload_n dX12_livingThen_15 rfl ?_
      refine jx_iload_n dX12_livingThen_16 rfl ?_
      refine jx_iload dX12_livingThen_17 rfl ?_
      obtain ⟨x6, w7, hq5, hf⟩ := jbd2_inv hf
      refine jx_cSi (As := [.int b1, .int b4]) (rest := [.ref (E.2.2.2 + 162)]) dX12_livingThen_19 ml_X12_252 ms_X12_entryAt (s_X12_entryAt hE hq5) rfl rfl rfl (by decide) (Nat.le_of_ble_eq_true rfl) ?_
      refine jx_iload_n dX12_livingThen_22 rfl ?_
      obtain ⟨x9, w10, hq8, hf⟩ := jbd2_inv hf
      refine jx_cVi (a := 162) (As := [.int x6, .int b2]) (rest := []) dX12_livingThen_23 ml_X12_352 mv_X12_entryThen (s_X12_entryThen hE hq8) rfl rfl (jc_162 hE) (by decide) (Nat.le_of_ble_eq_true rfl) ?_
      refine jx_if_eq (tgt := 32) dX12_livingThen_26 (by decide) (fun c11 => ?_) (fun c11 => ?_)
      · rw [if_pos c11] at hf
        obtain ⟨x12, hx12, hf⟩ := jl_inv hf
        refine jx_iinc (v := x12) (ls' := [(0, .ref (E.2.2.2 + 162)), (1, .int b1), (2, .int b2), (3, .int b3), (4, .int x12)]) dX12_livingThen_32 rfl (by rw [hx12]; rfl) (by decide) rfl ?_
        refine jx_goto (tgt := 5) dX12_livingThen_35 (by decide) ?_
        exact ih _ _ _ _ _ _ _ hf
      · rw [if_neg c11] at hf
        obtain ⟨x13, hx13, hf⟩ := jl_inv hf
        refine jx_iinc (v := x13) (ls' := [(0, .ref (E.2.2.2 + 162)), (1, .int b1), (2, .int b2), (3, .int x13), (4, .int b4)]) dX12_livingThen_29 rfl (by rw [hx13]; rfl) (by decide) rfl ?_
        obtain ⟨x14, hx14, hf⟩ := jl_inv hf
        refine jx_iinc (v := x14) (ls' := [(0, .ref (E.2.2.2 + 162)), (1, .int b1), (2, .int b2), (3, .int x13), (4, .int x14)]) dX12_livingThen_32 rfl (by rw [hx14]; rfl) (by decide) rfl ?_
        refine jx_goto (tgt := 5) dX12_livingThen_35 (by decide) ?_
        exact ih _ _ _ _ _ _ _ hf
def f_X12_livingThen (a1 : Int32) (a2 : Int32) (w : jw) : Option (Int32 × jw) := (l_X12_livingThen jfu a1 a2 0 0 w)
set_option maxRecDepth 20000 in
set_option maxHeartbeats 2000000 in
theorem s_X12_livingThen {E : jE} (hE : jfull E) {a1 : Int32} {a2 : Int32} {w w' : jw} {v : Int32} (hf : f_X12_livingThen a1 a2 w = some (v, w')) : jC E m_X12_livingThen 2 [.ref (E.2.2.2 + 162), .int a1, .int a2] w (some (.int v)) w' := by
  refine jC_of (ls := [(0, .ref (E.2.2.2 + 162)), (1, .int a1), (2, .int a2)]) (by decide) rfl (fun _ => trivial) (Nat.le_of_ble_eq_true rfl) rfl ⟨.int, rfl, rfl⟩ ?_
  unfold f_X12_livingThen at hf
  refine jx_iconst (v := 0) dX12_livingThen_0 (by decide) ?_
  refine jx_istore_n (ls' := [(0, .ref (E.2.2.2 + 162)), (1, .int a1), (2, .int a2), (3, .int 0)]) dX12_livingThen_1 (by decide) rfl ?_
  refine jx_iconst (v := 0) dX12_livingThen_2 (by decide) ?_
  refine jx_istore (ls' := [(0, .ref (E.2.2.2 + 162)), (1, .int a1), (2, .int a2), (3, .int 0), (4, .int 0)]) dX12_livingThen_3 (by decide) rfl ?_
  exact sl_X12_livingThen hE jfu _ _ _ _ _ _ _ hf
def l_X12_thin : Nat → Int32 → Int32 → Int32 → jw → Option (Int32 × jw)
  | 0, _, _, _, _ => none
  | n + 1, b1, b2, b3, w => (if (w.1 162 45) ≤ b3 then some (b2, w) else jg (jin b3 330) (jbd2 (f_X12_livingThen (w.2.1 190 (Int32.toNatClampNeg b3)) b1 w) fun x4 w5 => jbd2 (f_X12_weak  w5) fun x7 w8 => (if x7 ≤ x4 then jl (b3 + 1) fun x10 => (l_X12_thin n b1 b2 x10 w8) else jl (b2 + 1) fun x11 => jl (b3 + 1) fun x12 => (l_X12_thin n b1 x11 x12 w8))))
set_option maxRecDepth 20000 in
set_option maxHeartbeats 2000000 in
theorem sl_X12_thin {E : jE} (hE : jfull E) : ∀ (n : Nat) (b1 : Int32) (b2 : Int32) (b3 : Int32) (w : jw) (v : Int32) (w' : jw), l_X12_thin n b1 b2 b3 w = some (v, w') → jX E m_X12_thin 5 24 [(0, .ref (E.2.2.2 + 162)), (1, .int b1), (2, .int b2), (3, .int b3)] [] w (some (.int v)) w' := by
  intro n
  induction n with
  | zero => intro b1 b2 b3 w v w' hf; cases hf
  | succ n ih =>
    intro b1 b2 b3 w v w' hf
    unfold l_X12_thin at hf
    refine jx_iload_n dX12_thin_24 rfl ?_
    refine jx_aload_n dX12_thin_25 rfl ?_
    refine jx_geti dX12_thin_26 fl_X12_370 (kj_162 hE) sr_162_45 ?_
    refine jx_icmp_ge (tgt := 59) dX12_thin_29 (by decide) (fun c1 => ?_) (fun c1 => ?_)
    · rw [if_pos c1] at hf
      refine jx_iload_n dX12_thin_59 rfl ?_
      cases hf
      exact jx_iret dX12_thin_60 rfl rfl
    · rw [if_neg c1] at hf
      refine jx_aload_n dX12_thin_32 rfl ?_
      refine jx_aload_n dX12_thin_33 rfl ?_
      refine jx_getr dX12_thin_34 fl_X12_101 (kj_162 hE) sr_162_44 ?_
      refine jx_iload_n dX12_thin_37 rfl ?_
      obtain ⟨c2, hf⟩ := jg_inv hf
      refine jx_iald dX12_thin_38 (kj_190 hE) (jin_vp c2) ?_
      refine jx_iload_n dX12_thin_39 rfl ?_
      obtain ⟨x4, w5, hq3, hf⟩ := jbd2_inv hf
      refine jx_cVi (a := 162) (As := [.int (w.2.1 190 (Int32.toNatClampNeg b3)), .int b1]) (rest := []) dX12_thin_40 ml_X12_381 mv_X12_livingThen (s_X12_livingThen hE hq3) rfl rfl (jc_162 hE) (by decide) (Nat.le_of_ble_eq_true rfl) ?_
      refine jx_aload_n dX12_thin_43 rfl ?_
      obtain ⟨x7, w8, hq6, hf⟩ := jbd2_inv hf
      refine jx_cVi (a := 162) (As := []) (rest := [.int x4]) dX12_thin_44 ml_X12_288 mv_X12_weak (s_X12_weak hE hq6) rfl rfl (jc_162 hE) (by decide) (Nat.le_of_ble_eq_true rfl) ?_
      refine jx_icmp_ge (tgt := 53) dX12_thin_47 (by decide) (fun c9 => ?_) (fun c9 => ?_)
      · rw [if_pos c9] at hf
        obtain ⟨x10, hx10, hf⟩ := jl_inv hf
        refine jx_iinc (v := x10) (ls' := [(0, .ref (E.2.2.2 + 162)), (1, .int b1), (2, .int b2), (3, .int x10)]) dX12_thin_53 rfl (by rw [hx10]; rfl) (by decide) rfl ?_
        refine jx_goto (tgt := 24) dX12_thin_56 (by decide) ?_
        exact ih _ _ _ _ _ _ hf
      · rw [if_neg c9] at hf
        obtain ⟨x11, hx11, hf⟩ := jl_inv hf
        refine jx_iinc (v := x11) (ls' := [(0, .ref (E.2.2.2 + 162)), (1, .int b1), (2, .int x11), (3, .int b3)]) dX12_thin_50 rfl (by rw [hx11]; rfl) (by decide) rfl ?_
        obtain ⟨x12, hx12, hf⟩ := jl_inv hf
        refine jx_iinc (v := x12) (ls' := [(0, .ref (E.2.2.2 + 162)), (1, .int b1), (2, .int x11), (3, .int x12)]) dX12_thin_53 rfl (by rw [hx12]; rfl) (by decide) rfl ?_
        refine jx_goto (tgt := 24) dX12_thin_56 (by decide) ?_
        exact ih _ _ _ _ _ _ hf
def f_X12_thin (a1 : Int32) (w : jw) : Option (Int32 × jw) := jbd2 (f_X12_isTime a1 w) fun x14 w15 => (if (jb x14) = 0 then some ((-1), w15) else jbd (f_X12_goesThrough a1 1 0 999 w15) fun q17 => (l_X12_thin jfu a1 0 1 q17))
set_option maxRecDepth 20000 in
set_option maxHeartbeats 2000000 in
theorem s_X12_thin {E : jE} (hE : jfull E) {a1 : Int32} {w w' : jw} {v : Int32} (hf : f_X12_thin a1 w = some (v, w')) : jC E m_X12_thin 5 [.ref (E.2.2.2 + 162), .int a1] w (some (.int v)) w' := by
  refine jC_of (ls := [(0, .ref (E.2.2.2 + 162)), (1, .int a1)]) (by decide) rfl (fun _ => trivial) (Nat.le_of_ble_eq_true rfl) rfl ⟨.int, rfl, rfl⟩ ?_
  unfold f_X12_thin at hf
  refine jx_aload_n dX12_thin_0 rfl ?_
  refine jx_iload_n dX12_thin_1 rfl ?_
  obtain ⟨x14, w15, hq13, hf⟩ := jbd2_inv hf
  refine jx_cVi (a := 162) (As := [.int a1]) (rest := []) dX12_thin_2 ml_X12_334 mv_X12_isTime (s_X12_isTime hE hq13) rfl rfl (jc_162 hE) (by decide) (Nat.le_of_ble_eq_true rfl) ?_
  refine jx_if_ne (tgt := 10) dX12_thin_5 (by decide) (fun c16 => ?_) (fun c16 => ?_)
  · rw [if_neg c16] at hf
    refine jx_aload_n dX12_thin_10 rfl ?_
    refine jx_iload_n dX12_thin_11 rfl ?_
    refine jx_iconst (v := 1) dX12_thin_12 (by decide) ?_
    refine jx_iconst (v := 0) dX12_thin_13 (by decide) ?_
    refine jx_sipush (v := 999) dX12_thin_14 (by decide) ?_
    obtain ⟨q17, hq17, hf⟩ := jbd_inv hf
    refine jx_cVv (a := 162) (As := [.int a1, .int 1, .int 0, .int 999]) (rest := []) dX12_thin_17 ml_X12_377 mv_X12_goesThrough (s_X12_goesThrough hE hq17) rfl rfl (jc_162 hE) (by decide) (Nat.le_of_ble_eq_true rfl) ?_
    refine jx_iconst (v := 0) dX12_thin_20 (by decide) ?_
    refine jx_istore_n (ls' := [(0, .ref (E.2.2.2 + 162)), (1, .int a1), (2, .int 0)]) dX12_thin_21 (by decide) rfl ?_
    refine jx_iconst (v := 1) dX12_thin_22 (by decide) ?_
    refine jx_istore_n (ls' := [(0, .ref (E.2.2.2 + 162)), (1, .int a1), (2, .int 0), (3, .int 1)]) dX12_thin_23 (by decide) rfl ?_
    exact sl_X12_thin hE jfu _ _ _ _ _ _ hf
  · rw [if_pos c16] at hf
    refine jx_iconst (v := (-1)) dX12_thin_8 (by decide) ?_
    cases hf
    exact jx_iret dX12_thin_9 rfl rfl
def l_X12_held : Nat → Int32 → Int32 → Int32 → Int32 → Int32 → Int32 → jw → Option (Int32 × jw)
  | 0, _, _, _, _, _, _, _ => none
  | n + 1, b1, b2, b3, b4, b5, b6, w => (if (w.1 162 45) ≤ b6 then (if b2.toInt = 0 then some (b3, w) else (if b2.toInt = 1 then some ((w.1 162 45) - b3, w) else (if b2.toInt = 2 then some (b4, w) else jg (jin 1 34700) (some (((w.2.1 182 (Int32.toNatClampNeg 1)) * (w.1 162 45)) - b5, w))))) else jg (jin b6 330) (jbd2 (f_X12_isLeaf (w.2.1 190 (Int32.toNatClampNeg b6)) w) fun x8 w9 => (if (jb x8) = 0 then jg (jin b6 330) (jbd2 (f_X12_livingThen (w9.2.1 190 (Int32.toNatClampNeg b6)) b1 w9) fun x13 w14 => jl (b4 + x13 : Int32) fun x15 => jg (jin b6 330) (jbd2 (f_X12_entriesOf (w14.2.1 190 (Int32.toNatClampNeg b6)) w14) fun x18 w19 => jl (b5 + x18 : Int32) fun x20 => jl (b6 + 1) fun x21 => (l_X12_held n b1 b2 b3 x15 x20 x21 w19))) else jl (b3 + 1) fun x22 => jg (jin b6 330) (jbd2 (f_X12_livingThen (w9.2.1 190 (Int32.toNatClampNeg b6)) b1 w9) fun x25 w26 => jl (b4 + x25 : Int32) fun x27 => jg (jin b6 330) (jbd2 (f_X12_entriesOf (w26.2.1 190 (Int32.toNatClampNeg b6)) w26) fun x30 w31 => jl (b5 + x30 : Int32) fun x32 => jl (b6 + 1) fun x33 => (l_X12_held n b1 b2 x22 x27 x32 x33 w31))))))
set_option maxRecDepth 20000 in
set_option maxHeartbeats 2000000 in
theorem sl_X12_held {E : jE} (hE : jfull E) : ∀ (n : Nat) (b1 : Int32) (b2 : Int32) (b3 : Int32) (b4 : Int32) (b5 : Int32) (b6 : Int32) (w : jw) (v : Int32) (w' : jw), l_X12_held n b1 b2 b3 b4 b5 b6 w = some (v, w') → jX E m_X12_held 5 40 [(0, .ref (E.2.2.2 + 162)), (1, .int b1), (2, .int b2), (3, .int b3), (4, .int b4), (5, .int b5), (6, .int b6)] [] w (some (.int v)) w' := by
  intro n
  induction n with
  | zero => intro b1 b2 b3 b4 b5 b6 w v w' hf; cases hf
  | succ n ih =>
    intro b1 b2 b3 b4 b5 b6 w v w' hf
    unfold l_X12_held at hf
    refine jx_iload dX12_held_40 rfl ?_
    refine jx_aload_n dX12_held_42 rfl ?_
    refine jx_geti dX12_held_43 fl_X12_370 (kj_162 hE) sr_162_45 ?_
    refine jx_icmp_ge (tgt := 105) dX12_held_46 (by decide) (fun c1 => ?_) (fun c1 => ?_)
    · rw [if_pos c1] at hf
      refine jx_iload_n dX12_held_105 rfl ?_
      by_cases c2 : b2.toInt = 0
      · rw [if_pos c2] at hf
        refine jx_tableIn (off := 26) (tgt := 132) dX12_held_106 (by omega) (by omega) (by rw [c2]; rfl) (by decide) ?_
        refine jx_iload_n dX12_held_132 rfl ?_
        cases hf
        exact jx_iret dX12_held_133 rfl rfl
      rw [if_neg c2] at hf
      by_cases c3 : b2.toInt = 1
      · rw [if_pos c3] at hf
        refine jx_tableIn (off := 28) (tgt := 134) dX12_held_106 (by omega) (by omega) (by rw [c3]; rfl) (by decide) ?_
        refine jx_aload_n dX12_held_134 rfl ?_
        refine jx_geti dX12_held_135 fl_X12_370 (kj_162 hE) sr_162_45 ?_
        refine jx_iload_n dX12_held_138 rfl ?_
        refine jx_isub dX12_held_139 ?_
        cases hf
        exact jx_iret dX12_held_140 rfl rfl
      rw [if_neg c3] at hf
      by_cases c4 : b2.toInt = 2
      · rw [if_pos c4] at hf
        refine jx_tableIn (off := 35) (tgt := 141) dX12_held_106 (by omega) (by omega) (by rw [c4]; rfl) (by decide) ?_
        refine jx_iload dX12_held_141 rfl ?_
        cases hf
        exact jx_iret dX12_held_143 rfl rfl
      rw [if_neg c4] at hf
      refine jx_tableOut (tgt := 144) dX12_held_106 (by omega) (by decide) ?_
      refine jx_aload_n dX12_held_144 rfl ?_
      refine jx_getr dX12_held_145 fl_X12_77 (kj_162 hE) sr_162_34 ?_
      refine jx_iconst (v := 1) dX12_held_148 (by decide) ?_
      obtain ⟨c5, hf⟩ := jg_inv hf
      refine jx_iald dX12_held_149 (kj_182 hE) (jin_vp c5) ?_
      refine jx_aload_n dX12_held_150 rfl ?_
      refine jx_geti dX12_held_151 fl_X12_370 (kj_162 hE) sr_162_45 ?_
      refine jx_imul dX12_held_154 ?_
      refine jx_iload dX12_held_155 rfl ?_
      refine jx_isub dX12_held_157 ?_
      cases hf
      exact jx_iret dX12_held_158 rfl rfl
    · rw [if_neg c1] at hf
      refine jx_aload_n dX12_held_49 rfl ?_
      refine jx_aload_n dX12_held_50 rfl ?_
      refine jx_getr dX12_held_51 fl_X12_101 (kj_162 hE) sr_162_44 ?_
      refine jx_iload dX12_held_54 rfl ?_
      obtain ⟨c6, hf⟩ := jg_inv hf
      refine jx_iald dX12_held_56 (kj_190 hE) (jin_vp c6) ?_
      obtain ⟨x8, w9, hq7, hf⟩ := jbd2_inv hf
      refine jx_cVi (a := 162) (As := [.int (w.2.1 190 (Int32.toNatClampNeg b6))]) (rest := []) dX12_held_57 ml_X12_265 mv_X12_isLeaf (s_X12_isLeaf hE hq7) rfl rfl (jc_162 hE) (by decide) (Nat.le_of_ble_eq_true rfl) ?_
      refine jx_if_eq (tgt := 66) dX12_held_60 (by decide) (fun c10 => ?_) (fun c10 => ?_)
      · rw [if_pos c10] at hf
        refine jx_iload dX12_held_66 rfl ?_
        refine jx_aload_n dX12_held_68 rfl ?_
        refine jx_aload_n dX12_held_69 rfl ?_
        refine jx_getr dX12_held_70 fl_X12_101 (kj_162 hE) sr_162_44 ?_
        refine jx_iload dX12_held_73 rfl ?_
        obtain ⟨c11, hf⟩ := jg_inv hf
        refine jx_iald dX12_held_75 (kj_190 hE) (jin_vp c11) ?_
        refine jx_iload_n dX12_held_76 rfl ?_
        obtain ⟨x13, w14, hq12, hf⟩ := jbd2_inv hf
        refine jx_cVi (a := 162) (As := [.int (w9.2.1 190 (Int32.toNatClampNeg b6)), .int b1]) (rest := [.int b4]) dX12_held_77 ml_X12_381 mv_X12_livingThen (s_X12_livingThen hE hq12) rfl rfl (jc_162 hE) (by decide) (Nat.le_of_ble_eq_true rfl) ?_
        refine jx_iadd dX12_held_80 ?_
        obtain ⟨x15, hx15, hf⟩ := jl_inv hf
        refine jx_nm hx15 ?_
        refine jx_istore (ls' := [(0, .ref (E.2.2.2 + 162)), (1, .int b1), (2, .int b2), (3, .int b3), (4, .int x15), (5, .int b5), (6, .int b6)]) dX12_held_81 (by decide) rfl ?_
        refine jx_iload dX12_held_83 rfl ?_
        refine jx_aload_n dX12_held_85 rfl ?_
        refine jx_aload_n dX12_held_86 rfl ?_
        refine jx_getr dX12_held_87 fl_X12_101 (kj_162 hE) sr_162_44 ?_
        refine jx_iload dX12_held_90 rfl ?_
        obtain ⟨c16, hf⟩ := jg_inv hf
        refine jx_iald dX12_held_92 (kj_190 hE) (jin_vp c16) ?_
        obtain ⟨x18, w19, hq17, hf⟩ := jbd2_inv hf
        refine jx_cVi (a := 162) (As := [.int (w14.2.1 190 (Int32.toNatClampNeg b6))]) (rest := [.int b5]) dX12_held_93 ml_X12_249 mv_X12_entriesOf (s_X12_entriesOf hE hq17) rfl rfl (jc_162 hE) (by decide) (Nat.le_of_ble_eq_true rfl) ?_
        refine jx_iadd dX12_held_96 ?_
        obtain ⟨x20, hx20, hf⟩ := jl_inv hf
        refine jx_nm hx20 ?_
        refine jx_istore (ls' := [(0, .ref (E.2.2.2 + 162)), (1, .int b1), (2, .int b2), (3, .int b3), (4, .int x15), (5, .int x20), (6, .int b6)]) dX12_held_97 (by decide) rfl ?_
        obtain ⟨x21, hx21, hf⟩ := jl_inv hf
        refine jx_iinc (v := x21) (ls' := [(0, .ref (E.2.2.2 + 162)), (1, .int b1), (2, .int b2), (3, .int b3), (4, .int x15), (5, .int x20), (6, .int x21)]) dX12_held_99 rfl (by rw [hx21]; rfl) (by decide) rfl ?_
        refine jx_goto (tgt := 40) dX12_held_102 (by decide) ?_
        exact ih _ _ _ _ _ _ _ _ _ hf
      · rw [if_neg c10] at hf
        obtain ⟨x22, hx22, hf⟩ := jl_inv hf
        refine jx_iinc (v := x22) (ls' := [(0, .ref (E.2.2.2 + 162)), (1, .int b1), (2, .int b2), (3, .int x22), (4, .int b4), (5, .int b5), (6, .int b6)]) dX12_held_63 rfl (by rw [hx22]; rfl) (by decide) rfl ?_
        refine jx_iload dX12_held_66 rfl ?_
        refine jx_aload_n dX12_held_68 rfl ?_
        refine jx_aload_n dX12_held_69 rfl ?_
        refine jx_getr dX12_held_70 fl_X12_101 (kj_162 hE) sr_162_44 ?_
        refine jx_iload dX12_held_73 rfl ?_
        obtain ⟨c23, hf⟩ := jg_inv hf
        refine jx_iald dX12_held_75 (kj_190 hE) (jin_vp c23) ?_
        refine jx_iload_n dX12_held_76 rfl ?_
        obtain ⟨x25, w26, hq24, hf⟩ := jbd2_inv hf
        refine jx_cVi (a := 162) (As := [.int (w9.2.1 190 (Int32.toNatClampNeg b6)), .int b1]) (rest := [.int b4]) dX12_held_77 ml_X12_381 mv_X12_livingThen (s_X12_livingThen hE hq24) rfl rfl (jc_162 hE) (by decide) (Nat.le_of_ble_eq_true rfl) ?_
        refine jx_iadd dX12_held_80 ?_
        obtain ⟨x27, hx27, hf⟩ := jl_inv hf
        refine jx_nm hx27 ?_
        refine jx_istore (ls' := [(0, .ref (E.2.2.2 + 162)), (1, .int b1), (2, .int b2), (3, .int x22), (4, .int x27), (5, .int b5), (6, .int b6)]) dX12_held_81 (by decide) rfl ?_
        refine jx_iload dX12_held_83 rfl ?_
        refine jx_aload_n dX12_held_85 rfl ?_
        refine jx_aload_n dX12_held_86 rfl ?_
        refine jx_getr dX12_held_87 fl_X12_101 (kj_162 hE) sr_162_44 ?_
        refine jx_iload dX12_held_90 rfl ?_
        obtain ⟨c28, hf⟩ := jg_inv hf
        refine jx_iald dX12_held_92 (kj_190 hE) (jin_vp c28) ?_
        obtain ⟨x30, w31, hq29, hf⟩ := jbd2_inv hf
        refine jx_cVi (a := 162) (As := [.int (w26.2.1 190 (Int32.toNatClampNeg b6))]) (rest := [.int b5]) dX12_held_93 ml_X12_249 mv_X12_entriesOf (s_X12_entriesOf hE hq29) rfl rfl (jc_162 hE) (by decide) (Nat.le_of_ble_eq_true rfl) ?_
        refine jx_iadd dX12_held_96 ?_
        obtain ⟨x32, hx32, hf⟩ := jl_inv hf
        refine jx_nm hx32 ?_
        refine jx_istore (ls' := [(0, .ref (E.2.2.2 + 162)), (1, .int b1), (2, .int b2), (3, .int x22), (4, .int x27), (5, .int x32), (6, .int b6)]) dX12_held_97 (by decide) rfl ?_
        obtain ⟨x33, hx33, hf⟩ := jl_inv hf
        refine jx_iinc (v := x33) (ls' := [(0, .ref (E.2.2.2 + 162)), (1, .int b1), (2, .int b2), (3, .int x22), (4, .int x27), (5, .int x32), (6, .int x33)]) dX12_held_99 rfl (by rw [hx33]; rfl) (by decide) rfl ?_
        refine jx_goto (tgt := 40) dX12_held_102 (by decide) ?_
        exact ih _ _ _ _ _ _ _ _ _ hf
def f_X12_held (a1 : Int32) (a2 : Int32) (w : jw) : Option (Int32 × jw) := jbd2 (f_X12_isTime a1 w) fun x35 w36 => (if (jb x35) = 0 then some ((-1), w36) else jbd2 (f_X12_in a2 0 3 w36) fun x39 w40 => (if (jb x39) = 0 then some ((-1), w40) else jbd (f_X12_goesThrough a1 1 0 999 w40) fun q42 => (l_X12_held jfu a1 a2 0 0 0 0 q42)))
set_option maxRecDepth 20000 in
set_option maxHeartbeats 2000000 in
theorem s_X12_held {E : jE} (hE : jfull E) {a1 : Int32} {a2 : Int32} {w w' : jw} {v : Int32} (hf : f_X12_held a1 a2 w = some (v, w')) : jC E m_X12_held 5 [.ref (E.2.2.2 + 162), .int a1, .int a2] w (some (.int v)) w' := by
  refine jC_of (ls := [(0, .ref (E.2.2.2 + 162)), (1, .int a1), (2, .int a2)]) (by decide) rfl (fun _ => trivial) (Nat.le_of_ble_eq_true rfl) rfl ⟨.int, rfl, rfl⟩ ?_
  unfold f_X12_held at hf
  refine jx_aload_n dX12_held_0 rfl ?_
  refine jx_iload_n dX12_held_1 rfl ?_
  obtain ⟨x35, w36, hq34, hf⟩ := jbd2_inv hf
  refine jx_cVi (a := 162) (As := [.int a1]) (rest := []) dX12_held_2 ml_X12_334 mv_X12_isTime (s_X12_isTime hE hq34) rfl rfl (jc_162 hE) (by decide) (Nat.le_of_ble_eq_true rfl) ?_
  refine jx_if_eq (tgt := 17) dX12_held_5 (by decide) (fun c37 => ?_) (fun c37 => ?_)
  · rw [if_pos c37] at hf
    refine jx_iconst (v := (-1)) dX12_held_17 (by decide) ?_
    cases hf
    exact jx_iret dX12_held_18 rfl rfl
  · rw [if_neg c37] at hf
    refine jx_iload_n dX12_held_8 rfl ?_
    refine jx_iconst (v := 0) dX12_held_9 (by decide) ?_
    refine jx_iconst (v := 3) dX12_held_10 (by decide) ?_
    obtain ⟨x39, w40, hq38, hf⟩ := jbd2_inv hf
    refine jx_cSi (As := [.int a2, .int 0, .int 3]) (rest := []) dX12_held_11 ml_X12_324 ms_X12_in (s_X12_in hE hq38) rfl rfl rfl (by decide) (Nat.le_of_ble_eq_true rfl) ?_
    refine jx_if_ne (tgt := 19) dX12_held_14 (by decide) (fun c41 => ?_) (fun c41 => ?_)
    · rw [if_neg c41] at hf
      refine jx_aload_n dX12_held_19 rfl ?_
      refine jx_iload_n dX12_held_20 rfl ?_
      refine jx_iconst (v := 1) dX12_held_21 (by decide) ?_
      refine jx_iconst (v := 0) dX12_held_22 (by decide) ?_
      refine jx_sipush (v := 999) dX12_held_23 (by decide) ?_
      obtain ⟨q42, hq42, hf⟩ := jbd_inv hf
      refine jx_cVv (a := 162) (As := [.int a1, .int 1, .int 0, .int 999]) (rest := []) dX12_held_26 ml_X12_377 mv_X12_goesThrough (s_X12_goesThrough hE hq42) rfl rfl (jc_162 hE) (by decide) (Nat.le_of_ble_eq_true rfl) ?_
      refine jx_iconst (v := 0) dX12_held_29 (by decide) ?_
      refine jx_istore_n (ls' := [(0, .ref (E.2.2.2 + 162)), (1, .int a1), (2, .int a2), (3, .int 0)]) dX12_held_30 (by decide) rfl ?_
      refine jx_iconst (v := 0) dX12_held_31 (by decide) ?_
      refine jx_istore (ls' := [(0, .ref (E.2.2.2 + 162)), (1, .int a1), (2, .int a2), (3, .int 0), (4, .int 0)]) dX12_held_32 (by decide) rfl ?_
      refine jx_iconst (v := 0) dX12_held_34 (by decide) ?_
      refine jx_istore (ls' := [(0, .ref (E.2.2.2 + 162)), (1, .int a1), (2, .int a2), (3, .int 0), (4, .int 0), (5, .int 0)]) dX12_held_35 (by decide) rfl ?_
      refine jx_iconst (v := 0) dX12_held_37 (by decide) ?_
      refine jx_istore (ls' := [(0, .ref (E.2.2.2 + 162)), (1, .int a1), (2, .int a2), (3, .int 0), (4, .int 0), (5, .int 0), (6, .int 0)]) dX12_held_38 (by decide) rfl ?_
      exact sl_X12_held hE jfu _ _ _ _ _ _ _ _ _ hf
    · rw [if_pos c41] at hf
      refine jx_iconst (v := (-1)) dX12_held_17 (by decide) ?_
      cases hf
      exact jx_iret dX12_held_18 rfl rfl
