/-! words for the printed functions: a named value, a guard, a place within, a truth value -/
def jl {α β : Type} (a : α) (f : α → β) : β := f a
theorem jl_inv {α β : Type} {a : α} {f : α → β} {y : β} (h : jl a f = y) : ∃ x, x = a ∧ f x = y := ⟨a, rfl, h⟩
def jg {α : Type} (b : Bool) (x : Option α) : Option α := if b = true then x else none
theorem jg_inv {α : Type} {b : Bool} {x : Option α} {y : α} (h : jg b x = some y) : b = true ∧ x = some y := by
  unfold jg at h
  split at h
  · exact ⟨by assumption, h⟩
  · cases h
def jin (i : Int32) (n : Nat) : Bool := decide (¬ i < 0) && decide (i.toNatClampNeg < n)
theorem jin_vp {i : Int32} {n : Nat} (h : jin i n = true) : vp_in i n := by
  simp only [jin, Bool.and_eq_true, decide_eq_true_eq] at h
  exact vp_in_of_lt h.1 h.2
def jb (b : Bool) : Int32 := if b = true then 1 else 0
theorem jb_ans {b : Bool} : jAns (some .boolean) (some (.int (jb b))) := ⟨.boolean, rfl, by cases b <;> rfl⟩
def jbd {α β : Type} (x : Option α) (f : α → Option β) : Option β := x.bind f
theorem jbd_inv {α β : Type} {x : Option α} {f : α → Option β} {y : β} (h : jbd x f = some y) : ∃ q, x = some q ∧ f q = some y := by
  unfold jbd at h
  exact Option.bind_eq_some_iff.mp h
def jbd2 {α β γ : Type} (x : Option (α × γ)) (f : α → γ → Option β) : Option β := x.bind (fun q => f q.1 q.2)
theorem jbd2_inv {α β γ : Type} {x : Option (α × γ)} {f : α → γ → Option β} {y : β} (h : jbd2 x f = some y) : ∃ a b, x = some (a, b) ∧ f a b = some y := by
  unfold jbd2 at h
  obtain ⟨⟨a, b⟩, h1, h2⟩ := Option.bind_eq_some_iff.mp h
  exact ⟨a, b, h1, h2⟩
section JC2
variable {E : jE} {M N : jm} {k k' pc idx n a : Nat} {ls : List (Nat × Value)} {rest st As : List Value} {w w1 w' : jw} {r : Option Value}
theorem jx_cVi {v : Int32} (d : decode M.2.2.1 pc = .ok (.invokevirtual idx, 3)) (hlk : Cond.methodLink M.1 idx N.2.1 ∈ jtbl) (hN : jMv N n) (hC : jC E N k' (.ref (E.2.2.2 + a) :: As) w (some (.int v)) w1) (hst : st = As.reverse ++ .ref (E.2.2.2 + a) :: rest) (hn : As.length = n) (ha : jcls a = some N.2.1.cls) (hk : k' + 1 ≤ k) (hcat : (rest.map fun v => v.category).sum ≤ 8) (kk : jX E M k (pc + 3) ls (.int v :: rest) w1 r w') (hZ : jZi E M N := by exact ⟨fun _ _ _ _ _ _ => trivial, fun _ _ _ _ _ => trivial⟩) : jX E M k pc ls st w r w' := jx_callV d hlk hN hC hst hn ha hk hcat kk hZ
theorem jx_cVv (d : decode M.2.2.1 pc = .ok (.invokevirtual idx, 3)) (hlk : Cond.methodLink M.1 idx N.2.1 ∈ jtbl) (hN : jMv N n) (hC : jC E N k' (.ref (E.2.2.2 + a) :: As) w none w1) (hst : st = As.reverse ++ .ref (E.2.2.2 + a) :: rest) (hn : As.length = n) (ha : jcls a = some N.2.1.cls) (hk : k' + 1 ≤ k) (hcat : (rest.map fun v => v.category).sum ≤ 8) (kk : jX E M k (pc + 3) ls rest w1 r w') (hZ : jZi E M N := by exact ⟨fun _ _ _ _ _ _ => trivial, fun _ _ _ _ _ => trivial⟩) : jX E M k pc ls st w r w' := jx_callV d hlk hN hC hst hn ha hk hcat kk hZ
theorem jx_cSi {v : Int32} (d : decode M.2.2.1 pc = .ok (.invokestatic idx, 3)) (hlk : Cond.methodLink M.1 idx N.2.1 ∈ jtbl) (hN : jMs N n) (hC : jC E N k' As w (some (.int v)) w1) (hst : st = As.reverse ++ rest) (hn : As.length = n) (ho : N.2.1.cls = M.1) (hk : k' + 1 ≤ k) (hcat : (rest.map fun v => v.category).sum ≤ 8) (kk : jX E M k (pc + 3) ls (.int v :: rest) w1 r w') (hZ : jZi E M N := by exact ⟨fun _ _ _ _ _ _ => trivial, fun _ _ _ _ _ => trivial⟩) : jX E M k pc ls st w r w' := jx_callS d hlk hN hC hst hn ho hk hcat kk hZ
theorem jx_cSl {v : Int64} (d : decode M.2.2.1 pc = .ok (.invokestatic idx, 3)) (hlk : Cond.methodLink M.1 idx N.2.1 ∈ jtbl) (hN : jMs N n) (hC : jC E N k' As w (some (.long v)) w1) (hst : st = As.reverse ++ rest) (hn : As.length = n) (ho : N.2.1.cls = M.1) (hk : k' + 1 ≤ k) (hcat : (rest.map fun v => v.category).sum ≤ 8) (kk : jX E M k (pc + 3) ls (.long v :: rest) w1 r w') (hZ : jZi E M N := by exact ⟨fun _ _ _ _ _ _ => trivial, fun _ _ _ _ _ => trivial⟩) : jX E M k pc ls st w r w' := jx_callS d hlk hN hC hst hn ho hk hcat kk hZ
theorem jx_mmin {x y : Int32} (d : decode M.2.2.1 pc = .ok (.invokestatic idx, 3)) (hlk : Cond.methodLink M.1 idx Lib.Math.min.name ∈ jtbl) (hk : 1 ≤ k) (hcat : (rest.map fun v => v.category).sum ≤ 8) (kk : jX E M k (pc + 3) ls (.int (if y < x then y else x) :: rest) w r w') : jX E M k pc ls (.int y :: .int x :: rest) w r w' := by
  intro h hO
  obtain ⟨h', a1, a2, a3, a4⟩ := kk h hO
  refine ⟨h', a1, a2, a3, fun p e R s m args below meth c H locs cells slots lsA Q C b2 b3 b4 b5 b6 b7 b8 b9 => ?_⟩
  exact va_mmin C.1 C.2.1 (by rw [C.2.2.1]; exact b4.1.symm) C.2.2.2.1 (C.2.2.2.2.1 _ hlk) (C.2.2.2.2.1 _ tw_min) (C.2.2.2.2.1 _ tw_mM) (C.2.2.2.2.1 _ tw_minc) (by omega) (by omega) (by omega) (by omega) d (a4 p e R s m args below meth c H locs cells slots lsA Q C b2 b3 b4 b5 b6 b7 b8 b9)
end JC2
theorem jc_0 : jcls 0 = some RX11 := by decide +kernel
theorem jc_1 : jcls 1 = some RX8 := by decide +kernel
theorem jc_3 : jcls 3 = some RX4 := by decide +kernel
theorem jc_4 : jcls 4 = some RX8 := by decide +kernel
theorem jc_6 : jcls 6 = some RX8 := by decide +kernel
theorem jc_8 : jcls 8 = some RX8 := by decide +kernel
theorem jc_10 : jcls 10 = some RX7 := by decide +kernel
theorem jc_11 : jcls 11 = some RX8 := by decide +kernel
theorem jc_13 : jcls 13 = some RX8 := by decide +kernel
theorem jc_15 : jcls 15 = some RX8 := by decide +kernel
theorem jc_17 : jcls 17 = some RX9 := by decide +kernel
theorem jc_18 : jcls 18 = some RX6 := by decide +kernel
theorem jc_19 : jcls 19 = some RX8 := by decide +kernel
theorem jc_21 : jcls 21 = some RX8 := by decide +kernel
theorem jc_23 : jcls 23 = some RX8 := by decide +kernel
theorem jc_25 : jcls 25 = some RX8 := by decide +kernel
theorem jc_27 : jcls 27 = some RX8 := by decide +kernel
theorem jc_29 : jcls 29 = some RX8 := by decide +kernel
theorem jc_31 : jcls 31 = some RX8 := by decide +kernel
theorem jc_33 : jcls 33 = some RX8 := by decide +kernel
theorem jc_35 : jcls 35 = some RX2 := by decide +kernel
theorem jc_36 : jcls 36 = some RX8 := by decide +kernel
theorem jc_38 : jcls 38 = some RX8 := by decide +kernel
theorem jc_40 : jcls 40 = some RX8 := by decide +kernel
theorem jc_42 : jcls 42 = some RX8 := by decide +kernel
theorem jc_44 : jcls 44 = some RX8 := by decide +kernel
theorem jc_46 : jcls 46 = some RX8 := by decide +kernel
theorem jc_48 : jcls 48 = some RX10 := by decide +kernel
theorem jc_49 : jcls 49 = some RX8 := by decide +kernel
theorem jc_51 : jcls 51 = some RX1 := by decide +kernel
theorem jc_52 : jcls 52 = some RX8 := by decide +kernel
theorem jc_54 : jcls 54 = some RX0 := by decide +kernel
theorem jc_58 : jcls 58 = some RX3 := by decide +kernel
theorem jc_59 : jcls 59 = some RX8 := by decide +kernel
theorem jc_61 : jcls 61 = some RX8 := by decide +kernel
theorem jc_63 : jcls 63 = some RX5 := by decide +kernel
theorem jc_64 : jcls 64 = some RX8 := by decide +kernel
theorem jc_66 : jcls 66 = some RX8 := by decide +kernel
theorem jc_69 : jcls 69 = some RX9 := by decide +kernel
theorem jc_70 : jcls 70 = some RX6 := by decide +kernel
theorem jc_71 : jcls 71 = some RX8 := by decide +kernel
theorem jc_73 : jcls 73 = some RX8 := by decide +kernel
theorem jc_75 : jcls 75 = some RX8 := by decide +kernel
theorem jc_77 : jcls 77 = some RX8 := by decide +kernel
theorem jc_79 : jcls 79 = some RX8 := by decide +kernel
theorem jc_81 : jcls 81 = some RX8 := by decide +kernel
theorem jc_83 : jcls 83 = some RX8 := by decide +kernel
theorem jc_85 : jcls 85 = some RX8 := by decide +kernel
theorem jc_87 : jcls 87 = some RX2 := by decide +kernel
theorem jc_88 : jcls 88 = some RX8 := by decide +kernel
theorem jc_90 : jcls 90 = some RX8 := by decide +kernel
theorem jc_92 : jcls 92 = some RX8 := by decide +kernel
theorem jc_94 : jcls 94 = some RX8 := by decide +kernel
theorem jc_96 : jcls 96 = some RX8 := by decide +kernel
theorem jc_98 : jcls 98 = some RX8 := by decide +kernel
theorem jc_100 : jcls 100 = some RX9 := by decide +kernel
theorem jc_101 : jcls 101 = some RX6 := by decide +kernel
theorem jc_102 : jcls 102 = some RX8 := by decide +kernel
theorem jc_104 : jcls 104 = some RX8 := by decide +kernel
theorem jc_106 : jcls 106 = some RX8 := by decide +kernel
theorem jc_108 : jcls 108 = some RX8 := by decide +kernel
theorem jc_110 : jcls 110 = some RX8 := by decide +kernel
theorem jc_112 : jcls 112 = some RX8 := by decide +kernel
theorem jc_114 : jcls 114 = some RX8 := by decide +kernel
theorem jc_116 : jcls 116 = some RX8 := by decide +kernel
theorem jc_118 : jcls 118 = some RX2 := by decide +kernel
theorem jc_119 : jcls 119 = some RX8 := by decide +kernel
theorem jc_121 : jcls 121 = some RX8 := by decide +kernel
theorem jc_123 : jcls 123 = some RX8 := by decide +kernel
theorem jc_125 : jcls 125 = some RX8 := by decide +kernel
theorem jc_127 : jcls 127 = some RX8 := by decide +kernel
theorem jc_129 : jcls 129 = some RX8 := by decide +kernel
theorem jc_131 : jcls 131 = some RX9 := by decide +kernel
theorem jc_132 : jcls 132 = some RX6 := by decide +kernel
theorem jc_133 : jcls 133 = some RX8 := by decide +kernel
theorem jc_135 : jcls 135 = some RX8 := by decide +kernel
theorem jc_137 : jcls 137 = some RX8 := by decide +kernel
theorem jc_139 : jcls 139 = some RX8 := by decide +kernel
theorem jc_141 : jcls 141 = some RX8 := by decide +kernel
theorem jc_143 : jcls 143 = some RX8 := by decide +kernel
theorem jc_145 : jcls 145 = some RX8 := by decide +kernel
theorem jc_147 : jcls 147 = some RX8 := by decide +kernel
theorem jc_149 : jcls 149 = some RX2 := by decide +kernel
theorem jc_150 : jcls 150 = some RX8 := by decide +kernel
theorem jc_152 : jcls 152 = some RX8 := by decide +kernel
theorem jc_154 : jcls 154 = some RX8 := by decide +kernel
theorem jc_156 : jcls 156 = some RX8 := by decide +kernel
theorem jc_158 : jcls 158 = some RX8 := by decide +kernel
theorem jc_160 : jcls 160 = some RX8 := by decide +kernel
theorem jc_162 : jcls 162 = some RX12 := by decide +kernel
def jfu : Nat := 40000
section JC3
variable {E : jE} {M : jm} {k pc : Nat} {ls ls' : List (Nat × Value)} {rest st : List Value} {w w1 w' : jw} {r : Option Value}
theorem jx_nm {x y : Int32} (h : y = x) (kk : jX E M k pc ls (.int y :: rest) w r w') : jX E M k pc ls (.int x :: rest) w r w' := h ▸ kk
theorem jx_nml {x y : Int64} (h : y = x) (kk : jX E M k pc ls (.long y :: rest) w r w') : jX E M k pc ls (.long x :: rest) w r w' := h ▸ kk
theorem jx_nw (h : w1 = w) (kk : jX E M k pc ls st w1 r w') : jX E M k pc ls st w r w' := h ▸ kk
theorem jx_pick (ks : List Nat) (hl : lv_pick ls ks = ls') (kk : jX E M k pc ls' st w r w') : jX E M k pc ls st w r w' :=
  jX_go (fun h p e R s m args below meth c H locs cells slots lsA Q C hR hls kw => kw _ (lv_sub hls ks hl)) kk
end JC3
theorem ml_min : Cond.methodLink RX1 156 Lib.Math.min.name ∈ jtbl := jt (n := 968) (by decide +kernel) rfl
theorem kc2_X12_129 : Cond.constantLong RX12 129 27 ∈ jtbl := jt (n := 1337) (by decide +kernel) rfl
def jbd3 {α β γ δ : Type} (x : Option (α × γ × δ)) (f : α → γ → δ → Option β) : Option β := x.bind (fun q => f q.1 q.2.1 q.2.2)
theorem jbd3_inv {α β γ δ : Type} {x : Option (α × γ × δ)} {f : α → γ → δ → Option β} {y : β} (h : jbd3 x f = some y) : ∃ a b c, x = some (a, b, c) ∧ f a b c = some y := by
  unfold jbd3 at h
  obtain ⟨⟨a, b, c⟩, h1, h2⟩ := Option.bind_eq_some_iff.mp h
  exact ⟨a, b, c, h1, h2⟩
def jbd4 {α β γ δ ε : Type} (x : Option (α × γ × δ × ε)) (f : α → γ → δ → ε → Option β) : Option β := x.bind (fun q => f q.1 q.2.1 q.2.2.1 q.2.2.2)
theorem jbd4_inv {α β γ δ ε : Type} {x : Option (α × γ × δ × ε)} {f : α → γ → δ → ε → Option β} {y : β} (h : jbd4 x f = some y) : ∃ a b c d, x = some (a, b, c, d) ∧ f a b c d = some y := by
  unfold jbd4 at h
  obtain ⟨⟨a, b, c, d⟩, h1, h2⟩ := Option.bind_eq_some_iff.mp h
  exact ⟨a, b, c, d, h1, h2⟩
theorem jx_aaldK {E : jE} {M : jm} {k pc a n z : Nat} {ls : List (Nat × Value)} {rest : List Value} {w w' : jw} {r : Option Value} {i : Int32} (d : decode M.2.2.1 pc = .ok (.aaload, 1)) (hk : kd a = some (5, n)) (hi : vp_in i n) (he : 69 + 31 * i.toNatClampNeg = z) (kk : jX E M k (pc + 1) ls (.ref (E.2.2.2 + z) :: rest) w r w') : jX E M k pc ls (.int i :: .ref (E.2.2.2 + a) :: rest) w r w' := jx_aald d hk hi (by rw [he]; exact kk)
theorem jx_aald3 {E : jE} {M : jm} {k pc a j : Nat} {ls : List (Nat × Value)} {rest : List Value} {w w' : jw} {r : Option Value} {i : Int32} (d : decode M.2.2.1 pc = .ok (.aaload, 1)) (hk : kd a = some (5, 3)) (hc : i.toInt = (j : Int)) (hj : j < 3) (kk : jX E M k (pc + 1) ls (.ref (E.2.2.2 + (69 + 31 * j)) :: rest) w r w') : jX E M k pc ls (.int i :: .ref (E.2.2.2 + a) :: rest) w r w' := by
  have e1 : i.toNatClampNeg = j := by show i.toInt.toNat = j; rw [hc]; rfl
  refine jx_aald d hk (vp_in_of_lt (fun h => ?_) (by omega)) (by rw [e1]; exact kk)
  have := Int32.lt_iff_toInt_lt.mp h
  have z : (0 : Int32).toInt = 0 := by decide
  omega
