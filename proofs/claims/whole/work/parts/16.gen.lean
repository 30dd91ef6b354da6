/-! words for the printed functions: a named value, a guard, a place within, a truth value -/
def jl {α β : Type} (a : α) (f : α → β) : β := f a
theorem jl_inv {α β : Type} {a : α} {f : α → β} {y : β} (h : jl a f = y) : ∃ x, x = a ∧ f x = y := ⟨a, rfl, h⟩
def jg {α : Type} (b : Bool) (x : Option α) : Option α := if b = true then x else none
theorem jg_inv {α : Type} {b : Bool} {x : Option α} {y : α} (h : jg b x = some y) : b = true ∧ x = some y := by
  unfold jg at h
  split at h
  · exact ⟨by assumption, h⟩
  · cases h
def jin (i : Int32) (n : Nat) : Bool := decide (¬ i < 0) && decide (i.toNatClampNeg < n)
theorem jin_vp {i : Int32} {n : Nat} (h : jin i n = true) : vp_in i n := by
  simp only [jin, Bool.and_eq_true, decide_eq_true_eq] at h
  exact vp_in_of_lt h.1 h.2
def jb (b : Bool) : Int32 := if b = true then 1 else 0
theorem jb_ans {b : Bool} : jAns (some .boolean) (some (.int (jb b))) := ⟨.boolean, rfl, by cases b <;> rfl⟩
def jbd {α β : Type} (x : Option α) (f : α → Option β) : Option β := x.bind f
theorem jbd_inv {α β : Type} {x : Option α} {f : α → Option β} {y : β} (h : jbd x f = some y) : ∃ q, x = some q ∧ f q = some y := by
  unfold jbd at h
  exact Option.bind_eq_some_iff.mp h
def jbd2 {α β γ : Type} (x : Option (α × γ)) (f : α → γ → Option β) : Option β := x.bind (fun q => f q.1 q.2)
theorem jbd2_inv {α β γ : Type} {x : Option (α × γ)} {f : α → γ → Option β} {y : β} (h : jbd2 x f = some y) : ∃ a b, x = some (a, b) ∧ f a b = some y := by
  unfold jbd2 at h
  obtain ⟨⟨a, b⟩, h1, h2⟩ := Option.bind_eq_some_iff.mp h
  exact ⟨a, b, h1, h2⟩
section JC2
variable {E : jE} {M N : jm} {k k' pc idx n a : Nat} {ls : List (Nat × Value)} {rest st As : List Value} {w w1 w' : jw} {r : Option Value}
theorem jx_cVi {v : Int32} (d : decode M.2.2.1 pc = .ok (.invokevirtual idx, 3)) (hlk : Cond.methodLink M.1 idx N.2.1 ∈ jtbl) (hN : jMv N n) (hC : jC E N k' (.ref (E.2.2.2 + a) :: As) w (some (.int v)) w1) (hst : st = As.reverse ++ .ref (E.2.2.2 + a) :: rest) (hn : As.length = n) (ha : jcls E a = some N.2.1.cls) (hk : k' + 1 ≤ k) (hcat : (rest.map fun v => v.category).sum ≤ 8) (kk : jX E M k (pc + 3) ls (.int v :: rest) w1 r w') (hZ : jZi E M N := by exact ⟨fun _ _ _ _ _ _ => trivial, fun _ _ _ _ _ => trivial⟩) : jX E M k pc ls st w r w' := jx_callV d hlk hN hC hst hn ha hk hcat kk hZ
theorem jx_cVv (d : decode M.2.2.1 pc = .ok (.invokevirtual idx, 3)) (hlk : Cond.methodLink M.1 idx N.2.1 ∈ jtbl) (hN : jMv N n) (hC : jC E N k' (.ref (E.2.2.2 + a) :: As) w none w1) (hst : st = As.reverse ++ .ref (E.2.2.2 + a) :: rest) (hn : As.length = n) (ha : jcls E a = some N.2.1.cls) (hk : k' + 1 ≤ k) (hcat : (rest.map fun v => v.category).sum ≤ 8) (kk : jX E M k (pc + 3) ls rest w1 r w') (hZ : jZi E M N := by exact ⟨fun _ _ _ _ _ _ => trivial, fun _ _ _ _ _ => trivial⟩) : jX E M k pc ls st w r w' := jx_callV d hlk hN hC hst hn ha hk hcat kk hZ
theorem jx_cSi {v : Int32} (d : decode M.2.2.1 pc = .ok (.invokestatic idx, 3)) (hlk : Cond.methodLink M.1 idx N.2.1 ∈ jtbl) (hN : jMs N n) (hC : jC E N k' As w (some (.int v)) w1) (hst : st = As.reverse ++ rest) (hn : As.length = n) (ho : N.2.1.cls = M.1) (hk : k' + 1 ≤ k) (hcat : (rest.map fun v => v.category).sum ≤ 8) (kk : jX E M k (pc + 3) ls (.int v :: rest) w1 r w') (hZ : jZi E M N := by exact ⟨fun _ _ _ _ _ _ => trivial, fun _ _ _ _ _ => trivial⟩) : jX E M k pc ls st w r w' := jx_callS d hlk hN hC hst hn ho hk hcat kk hZ
theorem jx_cSl {v : Int64} (d : decode M.2.2.1 pc = .ok (.invokestatic idx, 3)) (hlk : Cond.methodLink M.1 idx N.2.1 ∈ jtbl) (hN : jMs N n) (hC : jC E N k' As w (some (.long v)) w1) (hst : st = As.reverse ++ rest) (hn : As.length = n) (ho : N.2.1.cls = M.1) (hk : k' + 1 ≤ k) (hcat : (rest.map fun v => v.category).sum ≤ 8) (kk : jX E M k (pc + 3) ls (.long v :: rest) w1 r w') (hZ : jZi E M N := by exact ⟨fun _ _ _ _ _ _ => trivial, fun _ _ _ _ _ => trivial⟩) : jX E M k pc ls st w r w' := jx_callS d hlk hN hC hst hn ho hk hcat kk hZ
theorem jx_mmin {x y : Int32} (d : decode M.2.2.1 pc = .ok (.invokestatic idx, 3)) (hlk : Cond.methodLink M.1 idx Lib.Math.min.name ∈ jtbl) (hk : 1 ≤ k) (hcat : (rest.map fun v => v.category).sum ≤ 8) (kk : jX E M k (pc + 3) ls (.int (if y < x then y else x) :: rest) w r w') : jX E M k pc ls (.int y :: .int x :: rest) w r w' := by
  intro h hO
  obtain ⟨h', a1, a2, a3, a4⟩ := kk h hO
  refine ⟨h', a1, a2, a3, fun p e R s m args below meth c H locs cells slots lsA Q C b2 b3 b4 b5 b6 b7 b8 b9 => ?_⟩
  exact va_mmin C.1 C.2.1 (by rw [C.2.2.1]; exact b4.1.symm) C.2.2.2.1 (C.2.2.2.2.1 _ hlk) (C.2.2.2.2.1 _ tw_min) (C.2.2.2.2.1 _ tw_mM) (C.2.2.2.2.1 _ tw_minc) (by omega) (by omega) (by omega) (by omega) d (a4 p e R s m args below meth c H locs cells slots lsA Q C b2 b3 b4 b5 b6 b7 b8 b9)
end JC2
def jfu : Nat := 40000
section JC3
variable {E : jE} {M : jm} {k pc : Nat} {ls ls' : List (Nat × Value)} {rest st : List Value} {w w1 w' : jw} {r : Option Value}
theorem jx_nm {x y : Int32} (h : y = x) (kk : jX E M k pc ls (.int y :: rest) w r w') : jX E M k pc ls (.int x :: rest) w r w' := h ▸ kk
theorem jx_nml {x y : Int64} (h : y = x) (kk : jX E M k pc ls (.long y :: rest) w r w') : jX E M k pc ls (.long x :: rest) w r w' := h ▸ kk
theorem jx_nw (h : w1 = w) (kk : jX E M k pc ls st w1 r w') : jX E M k pc ls st w r w' := h ▸ kk
theorem jx_pick (ks : List Nat) (hl : lv_pick ls ks = ls') (kk : jX E M k pc ls' st w r w') : jX E M k pc ls st w r w' :=
  jX_go (fun h p e R s m args below meth c H locs cells slots lsA Q C hR hls kw => kw _ (lv_sub hls ks hl)) kk
end JC3
theorem ml_min : Cond.methodLink RX1 156 Lib.Math.min.name ∈ jtbl := jt (n := 968) (by decide +kernel) rfl
theorem kc2_X12_129 : Cond.constantLong RX12 129 27 ∈ jtbl := jt (n := 1337) (by decide +kernel) rfl
def jbd3 {α β γ δ : Type} (x : Option (α × γ × δ)) (f : α → γ → δ → Option β) : Option β := x.bind (fun q => f q.1 q.2.1 q.2.2)
theorem jbd3_inv {α β γ δ : Type} {x : Option (α × γ × δ)} {f : α → γ → δ → Option β} {y : β} (h : jbd3 x f = some y) : ∃ a b c, x = some (a, b, c) ∧ f a b c = some y := by
  unfold jbd3 at h
  obtain ⟨⟨a, b, c⟩, h1, h2⟩ := Option.bind_eq_some_iff.mp h
  exact ⟨a, b, c, h1, h2⟩
def jbd4 {α β γ δ ε : Type} (x : Option (α × γ × δ × ε)) (f : α → γ → δ → ε → Option β) : Option β := x.bind (fun q => f q.1 q.2.1 q.2.2.1 q.2.2.2)
theorem jbd4_inv {α β γ δ ε : Type} {x : Option (α × γ × δ × ε)} {f : α → γ → δ → ε → Option β} {y : β} (h : jbd4 x f = some y) : ∃ a b c d, x = some (a, b, c, d) ∧ f a b c d = some y := by
  unfold jbd4 at h
  obtain ⟨⟨a, b, c, d⟩, h1, h2⟩ := Option.bind_eq_some_iff.mp h
  exact ⟨a, b, c, d, h1, h2⟩
theorem jx_aaldK {E : jE} {M : jm} {k pc a n z : Nat} {ls : List (Nat × Value)} {rest : List Value} {w w' : jw} {r : Option Value} {i : Int32} (d : decode M.2.2.1 pc = .ok (.aaload, 1)) (hk : jkd E a = some (5, n)) (hi : vp_in i n) (he : 69 + 31 * i.toNatClampNeg = z) (kk : jX E M k (pc + 1) ls (.ref (E.2.2.2 + z) :: rest) w r w') : jX E M k pc ls (.int i :: .ref (E.2.2.2 + a) :: rest) w r w' := jx_aald d hk hi (by rw [he]; exact kk)
theorem jx_aald3 {E : jE} {M : jm} {k pc a j : Nat} {ls : List (Nat × Value)} {rest : List Value} {w w' : jw} {r : Option Value} {i : Int32} (d : decode M.2.2.1 pc = .ok (.aaload, 1)) (hk : jkd E a = some (5, 3)) (hc : i.toInt = (j : Int)) (hj : j < 3) (kk : jX E M k (pc + 1) ls (.ref (E.2.2.2 + (69 + 31 * j)) :: rest) w r w') : jX E M k pc ls (.int i :: .ref (E.2.2.2 + a) :: rest) w r w' := by
  have e1 : i.toNatClampNeg = j := by show i.toInt.toNat = j; rw [hc]; rfl
  refine jx_aald d hk (vp_in_of_lt (fun h => ?_) (by omega)) (by rw [e1]; exact kk)
  have := Int32.lt_iff_toInt_lt.mp h
  have z : (0 : Int32).toInt = 0 := by decide
  omega
theorem kj_0 {E : jE} : jkd E 0 = some (0, 11) := jkd_lo (by decide) kd_0
theorem jc_0 {E : jE} : jcls E 0 = some RX11 := by unfold jcls; rw [kj_0]; rfl
theorem kj_1 {E : jE} : jkd E 1 = some (6, 128) := jkd_lo (by decide) kd_1
theorem jc_1 {E : jE} : jcls E 1 = some RX8 := by unfold jcls; rw [kj_1]; rfl
theorem kj_3 {E : jE} : jkd E 3 = some (0, 4) := jkd_lo (by decide) kd_3
theorem jc_3 {E : jE} : jcls E 3 = some RX4 := by unfold jcls; rw [kj_3]; rfl
theorem kj_4 {E : jE} : jkd E 4 = some (6, 64) := jkd_lo (by decide) kd_4
theorem jc_4 {E : jE} : jcls E 4 = some RX8 := by unfold jcls; rw [kj_4]; rfl
theorem kj_6 {E : jE} : jkd E 6 = some (6, 64) := jkd_lo (by decide) kd_6
theorem jc_6 {E : jE} : jcls E 6 = some RX8 := by unfold jcls; rw [kj_6]; rfl
theorem kj_8 {E : jE} : jkd E 8 = some (6, 64) := jkd_lo (by decide) kd_8
theorem jc_8 {E : jE} : jcls E 8 = some RX8 := by unfold jcls; rw [kj_8]; rfl
theorem kj_10 {E : jE} : jkd E 10 = some (0, 7) := jkd_lo (by decide) kd_10
theorem jc_10 {E : jE} : jcls E 10 = some RX7 := by unfold jcls; rw [kj_10]; rfl
theorem kj_11 {E : jE} : jkd E 11 = some (6, 3) := jkd_lo (by decide) kd_11
theorem jc_11 {E : jE} : jcls E 11 = some RX8 := by unfold jcls; rw [kj_11]; rfl
theorem kj_13 {E : jE} : jkd E 13 = some (7, 64) := jkd_lo (by decide) kd_13
theorem jc_13 {E : jE} : jcls E 13 = some RX8 := by unfold jcls; rw [kj_13]; rfl
theorem kj_15 {E : jE} : jkd E 15 = some (7, 64) := jkd_lo (by decide) kd_15
theorem jc_15 {E : jE} : jcls E 15 = some RX8 := by unfold jcls; rw [kj_15]; rfl
theorem kj_17 {E : jE} : jkd E 17 = some (0, 9) := jkd_lo (by decide) kd_17
theorem jc_17 {E : jE} : jcls E 17 = some RX9 := by unfold jcls; rw [kj_17]; rfl
theorem kj_18 {E : jE} : jkd E 18 = some (0, 6) := jkd_lo (by decide) kd_18
theorem jc_18 {E : jE} : jcls E 18 = some RX6 := by unfold jcls; rw [kj_18]; rfl
theorem kj_19 {E : jE} : jkd E 19 = some (6, 8) := jkd_lo (by decide) kd_19
theorem jc_19 {E : jE} : jcls E 19 = some RX8 := by unfold jcls; rw [kj_19]; rfl
theorem kj_21 {E : jE} : jkd E 21 = some (6, 8) := jkd_lo (by decide) kd_21
theorem jc_21 {E : jE} : jcls E 21 = some RX8 := by unfold jcls; rw [kj_21]; rfl
theorem kj_23 {E : jE} : jkd E 23 = some (6, 8) := jkd_lo (by decide) kd_23
theorem jc_23 {E : jE} : jcls E 23 = some RX8 := by unfold jcls; rw [kj_23]; rfl
theorem kj_25 {E : jE} : jkd E 25 = some (6, 8) := jkd_lo (by decide) kd_25
theorem jc_25 {E : jE} : jcls E 25 = some RX8 := by unfold jcls; rw [kj_25]; rfl
theorem kj_27 {E : jE} : jkd E 27 = some (6, 32) := jkd_lo (by decide) kd_27
theorem jc_27 {E : jE} : jcls E 27 = some RX8 := by unfold jcls; rw [kj_27]; rfl
theorem kj_29 {E : jE} : jkd E 29 = some (6, 32) := jkd_lo (by decide) kd_29
theorem jc_29 {E : jE} : jcls E 29 = some RX8 := by unfold jcls; rw [kj_29]; rfl
theorem kj_31 {E : jE} : jkd E 31 = some (6, 32) := jkd_lo (by decide) kd_31
theorem jc_31 {E : jE} : jcls E 31 = some RX8 := by unfold jcls; rw [kj_31]; rfl
theorem kj_33 {E : jE} : jkd E 33 = some (6, 32) := jkd_lo (by decide) kd_33
theorem jc_33 {E : jE} : jcls E 33 = some RX8 := by unfold jcls; rw [kj_33]; rfl
theorem kj_35 {E : jE} : jkd E 35 = some (0, 2) := jkd_lo (by decide) kd_35
theorem jc_35 {E : jE} : jcls E 35 = some RX2 := by unfold jcls; rw [kj_35]; rfl
theorem kj_36 {E : jE} : jkd E 36 = some (6, 16) := jkd_lo (by decide) kd_36
theorem jc_36 {E : jE} : jcls E 36 = some RX8 := by unfold jcls; rw [kj_36]; rfl
theorem kj_38 {E : jE} : jkd E 38 = some (6, 16) := jkd_lo (by decide) kd_38
theorem jc_38 {E : jE} : jcls E 38 = some RX8 := by unfold jcls; rw [kj_38]; rfl
theorem kj_40 {E : jE} : jkd E 40 = some (6, 16) := jkd_lo (by decide) kd_40
theorem jc_40 {E : jE} : jcls E 40 = some RX8 := by unfold jcls; rw [kj_40]; rfl
theorem kj_42 {E : jE} : jkd E 42 = some (6, 16) := jkd_lo (by decide) kd_42
theorem jc_42 {E : jE} : jcls E 42 = some RX8 := by unfold jcls; rw [kj_42]; rfl
theorem kj_44 {E : jE} : jkd E 44 = some (6, 8) := jkd_lo (by decide) kd_44
theorem jc_44 {E : jE} : jcls E 44 = some RX8 := by unfold jcls; rw [kj_44]; rfl
theorem kj_46 {E : jE} : jkd E 46 = some (6, 8) := jkd_lo (by decide) kd_46
theorem jc_46 {E : jE} : jcls E 46 = some RX8 := by unfold jcls; rw [kj_46]; rfl
theorem kj_48 {E : jE} : jkd E 48 = some (0, 10) := jkd_lo (by decide) kd_48
theorem jc_48 {E : jE} : jcls E 48 = some RX10 := by unfold jcls; rw [kj_48]; rfl
theorem kj_49 {E : jE} : jkd E 49 = some (6, 3) := jkd_lo (by decide) kd_49
theorem jc_49 {E : jE} : jcls E 49 = some RX8 := by unfold jcls; rw [kj_49]; rfl
theorem kj_51 {E : jE} : jkd E 51 = some (0, 1) := jkd_lo (by decide) kd_51
theorem jc_51 {E : jE} : jcls E 51 = some RX1 := by unfold jcls; rw [kj_51]; rfl
theorem kj_52 {E : jE} : jkd E 52 = some (6, 40) := jkd_lo (by decide) kd_52
theorem jc_52 {E : jE} : jcls E 52 = some RX8 := by unfold jcls; rw [kj_52]; rfl
theorem kj_54 {E : jE} : jkd E 54 = some (0, 0) := jkd_lo (by decide) kd_54
theorem jc_54 {E : jE} : jcls E 54 = some RX0 := by unfold jcls; rw [kj_54]; rfl
theorem kj_55 {E : jE} : jkd E 55 = some (1, 32) := jkd_lo (by decide) kd_55
theorem kj_56 {E : jE} : jkd E 56 = some (1, 32) := jkd_lo (by decide) kd_56
theorem kj_57 {E : jE} : jkd E 57 = some (1, 32) := jkd_lo (by decide) kd_57
theorem kj_58 {E : jE} : jkd E 58 = some (0, 3) := jkd_lo (by decide) kd_58
theorem jc_58 {E : jE} : jcls E 58 = some RX3 := by unfold jcls; rw [kj_58]; rfl
theorem kj_59 {E : jE} : jkd E 59 = some (6, 1000) := jkd_lo (by decide) kd_59
theorem jc_59 {E : jE} : jcls E 59 = some RX8 := by unfold jcls; rw [kj_59]; rfl
theorem kj_61 {E : jE} : jkd E 61 = some (6, 1000) := jkd_lo (by decide) kd_61
theorem jc_61 {E : jE} : jcls E 61 = some RX8 := by unfold jcls; rw [kj_61]; rfl
theorem kj_63 {E : jE} : jkd E 63 = some (0, 5) := jkd_lo (by decide) kd_63
theorem jc_63 {E : jE} : jcls E 63 = some RX5 := by unfold jcls; rw [kj_63]; rfl
theorem kj_64 {E : jE} : jkd E 64 = some (6, 40) := jkd_lo (by decide) kd_64
theorem jc_64 {E : jE} : jcls E 64 = some RX8 := by unfold jcls; rw [kj_64]; rfl
theorem kj_66 {E : jE} : jkd E 66 = some (6, 16) := jkd_lo (by decide) kd_66
theorem jc_66 {E : jE} : jcls E 66 = some RX8 := by unfold jcls; rw [kj_66]; rfl
theorem kj_68 {E : jE} : jkd E 68 = some (5, 3) := jkd_lo (by decide) kd_68
theorem kj_69 {E : jE} : jkd E 69 = some (0, 9) := jkd_lo (by decide) kd_69
theorem jc_69 {E : jE} : jcls E 69 = some RX9 := by unfold jcls; rw [kj_69]; rfl
theorem kj_70 {E : jE} : jkd E 70 = some (0, 6) := jkd_lo (by decide) kd_70
theorem jc_70 {E : jE} : jcls E 70 = some RX6 := by unfold jcls; rw [kj_70]; rfl
theorem kj_71 {E : jE} : jkd E 71 = some (6, 8) := jkd_lo (by decide) kd_71
theorem jc_71 {E : jE} : jcls E 71 = some RX8 := by unfold jcls; rw [kj_71]; rfl
theorem kj_73 {E : jE} : jkd E 73 = some (6, 8) := jkd_lo (by decide) kd_73
theorem jc_73 {E : jE} : jcls E 73 = some RX8 := by unfold jcls; rw [kj_73]; rfl
theorem kj_75 {E : jE} : jkd E 75 = some (6, 8) := jkd_lo (by decide) kd_75
theorem jc_75 {E : jE} : jcls E 75 = some RX8 := by unfold jcls; rw [kj_75]; rfl
theorem kj_77 {E : jE} : jkd E 77 = some (6, 8) := jkd_lo (by decide) kd_77
theorem jc_77 {E : jE} : jcls E 77 = some RX8 := by unfold jcls; rw [kj_77]; rfl
theorem kj_79 {E : jE} : jkd E 79 = some (6, 32) := jkd_lo (by decide) kd_79
theorem jc_79 {E : jE} : jcls E 79 = some RX8 := by unfold jcls; rw [kj_79]; rfl
theorem kj_81 {E : jE} : jkd E 81 = some (6, 32) := jkd_lo (by decide) kd_81
theorem jc_81 {E : jE} : jcls E 81 = some RX8 := by unfold jcls; rw [kj_81]; rfl
theorem kj_83 {E : jE} : jkd E 83 = some (6, 32) := jkd_lo (by decide) kd_83
theorem jc_83 {E : jE} : jcls E 83 = some RX8 := by unfold jcls; rw [kj_83]; rfl
theorem kj_85 {E : jE} : jkd E 85 = some (6, 32) := jkd_lo (by decide) kd_85
theorem jc_85 {E : jE} : jcls E 85 = some RX8 := by unfold jcls; rw [kj_85]; rfl
theorem kj_87 {E : jE} : jkd E 87 = some (0, 2) := jkd_lo (by decide) kd_87
theorem jc_87 {E : jE} : jcls E 87 = some RX2 := by unfold jcls; rw [kj_87]; rfl
theorem kj_88 {E : jE} : jkd E 88 = some (6, 16) := jkd_lo (by decide) kd_88
theorem jc_88 {E : jE} : jcls E 88 = some RX8 := by unfold jcls; rw [kj_88]; rfl
theorem kj_90 {E : jE} : jkd E 90 = some (6, 16) := jkd_lo (by decide) kd_90
theorem jc_90 {E : jE} : jcls E 90 = some RX8 := by unfold jcls; rw [kj_90]; rfl
theorem kj_92 {E : jE} : jkd E 92 = some (6, 16) := jkd_lo (by decide) kd_92
theorem jc_92 {E : jE} : jcls E 92 = some RX8 := by unfold jcls; rw [kj_92]; rfl
theorem kj_94 {E : jE} : jkd E 94 = some (6, 16) := jkd_lo (by decide) kd_94
theorem jc_94 {E : jE} : jcls E 94 = some RX8 := by unfold jcls; rw [kj_94]; rfl
theorem kj_96 {E : jE} : jkd E 96 = some (6, 8) := jkd_lo (by decide) kd_96
theorem jc_96 {E : jE} : jcls E 96 = some RX8 := by unfold jcls; rw [kj_96]; rfl
theorem kj_98 {E : jE} : jkd E 98 = some (6, 8) := jkd_lo (by decide) kd_98
theorem jc_98 {E : jE} : jcls E 98 = some RX8 := by unfold jcls; rw [kj_98]; rfl
theorem kj_100 {E : jE} : jkd E 100 = some (0, 9) := jkd_lo (by decide) kd_100
theorem jc_100 {E : jE} : jcls E 100 = some RX9 := by unfold jcls; rw [kj_100]; rfl
theorem kj_101 {E : jE} : jkd E 101 = some (0, 6) := jkd_lo (by decide) kd_101
theorem jc_101 {E : jE} : jcls E 101 = some RX6 := by unfold jcls; rw [kj_101]; rfl
theorem kj_102 {E : jE} : jkd E 102 = some (6, 8) := jkd_lo (by decide) kd_102
theorem jc_102 {E : jE} : jcls E 102 = some RX8 := by unfold jcls; rw [kj_102]; rfl
theorem kj_104 {E : jE} : jkd E 104 = some (6, 8) := jkd_lo (by decide) kd_104
theorem jc_104 {E : jE} : jcls E 104 = some RX8 := by unfold jcls; rw [kj_104]; rfl
theorem kj_106 {E : jE} : jkd E 106 = some (6, 8) := jkd_lo (by decide) kd_106
theorem jc_106 {E : jE} : jcls E 106 = some RX8 := by unfold jcls; rw [kj_106]; rfl
theorem kj_108 {E : jE} : jkd E 108 = some (6, 8) := jkd_lo (by decide) kd_108
theorem jc_108 {E : jE} : jcls E 108 = some RX8 := by unfold jcls; rw [kj_108]; rfl
theorem kj_110 {E : jE} : jkd E 110 = some (6, 32) := jkd_lo (by decide) kd_110
theorem jc_110 {E : jE} : jcls E 110 = some RX8 := by unfold jcls; rw [kj_110]; rfl
theorem kj_112 {E : jE} : jkd E 112 = some (6, 32) := jkd_lo (by decide) kd_112
theorem jc_112 {E : jE} : jcls E 112 = some RX8 := by unfold jcls; rw [kj_112]; rfl
theorem kj_114 {E : jE} : jkd E 114 = some (6, 32) := jkd_lo (by decide) kd_114
theorem jc_114 {E : jE} : jcls E 114 = some RX8 := by unfold jcls; rw [kj_114]; rfl
theorem kj_116 {E : jE} : jkd E 116 = some (6, 32) := jkd_lo (by decide) kd_116
theorem jc_116 {E : jE} : jcls E 116 = some RX8 := by unfold jcls; rw [kj_116]; rfl
theorem kj_118 {E : jE} : jkd E 118 = some (0, 2) := jkd_lo (by decide) kd_118
theorem jc_118 {E : jE} : jcls E 118 = some RX2 := by unfold jcls; rw [kj_118]; rfl
theorem kj_119 {E : jE} : jkd E 119 = some (6, 16) := jkd_lo (by decide) kd_119
theorem jc_119 {E : jE} : jcls E 119 = some RX8 := by unfold jcls; rw [kj_119]; rfl
theorem kj_121 {E : jE} : jkd E 121 = some (6, 16) := jkd_lo (by decide) kd_121
theorem jc_121 {E : jE} : jcls E 121 = some RX8 := by unfold jcls; rw [kj_121]; rfl
theorem kj_123 {E : jE} : jkd E 123 = some (6, 16) := jkd_lo (by decide) kd_123
theorem jc_123 {E : jE} : jcls E 123 = some RX8 := by unfold jcls; rw [kj_123]; rfl
theorem kj_125 {E : jE} : jkd E 125 = some (6, 16) := jkd_lo (by decide) kd_125
theorem jc_125 {E : jE} : jcls E 125 = some RX8 := by unfold jcls; rw [kj_125]; rfl
theorem kj_127 {E : jE} : jkd E 127 = some (6, 8) := jkd_lo (by decide) kd_127
theorem jc_127 {E : jE} : jcls E 127 = some RX8 := by unfold jcls; rw [kj_127]; rfl
theorem kj_129 {E : jE} : jkd E 129 = some (6, 8) := jkd_lo (by decide) kd_129
theorem jc_129 {E : jE} : jcls E 129 = some RX8 := by unfold jcls; rw [kj_129]; rfl
theorem kj_131 {E : jE} : jkd E 131 = some (0, 9) := jkd_lo (by decide) kd_131
theorem jc_131 {E : jE} : jcls E 131 = some RX9 := by unfold jcls; rw [kj_131]; rfl
theorem kj_132 {E : jE} : jkd E 132 = some (0, 6) := jkd_lo (by decide) kd_132
theorem jc_132 {E : jE} : jcls E 132 = some RX6 := by unfold jcls; rw [kj_132]; rfl
theorem kj_133 {E : jE} : jkd E 133 = some (6, 8) := jkd_lo (by decide) kd_133
theorem jc_133 {E : jE} : jcls E 133 = some RX8 := by unfold jcls; rw [kj_133]; rfl
theorem kj_135 {E : jE} : jkd E 135 = some (6, 8) := jkd_lo (by decide) kd_135
theorem jc_135 {E : jE} : jcls E 135 = some RX8 := by unfold jcls; rw [kj_135]; rfl
theorem kj_137 {E : jE} : jkd E 137 = some (6, 8) := jkd_lo (by decide) kd_137
theorem jc_137 {E : jE} : jcls E 137 = some RX8 := by unfold jcls; rw [kj_137]; rfl
theorem kj_139 {E : jE} : jkd E 139 = some (6, 8) := jkd_lo (by decide) kd_139
theorem jc_139 {E : jE} : jcls E 139 = some RX8 := by unfold jcls; rw [kj_139]; rfl
theorem kj_141 {E : jE} : jkd E 141 = some (6, 32) := jkd_lo (by decide) kd_141
theorem jc_141 {E : jE} : jcls E 141 = some RX8 := by unfold jcls; rw [kj_141]; rfl
theorem kj_143 {E : jE} : jkd E 143 = some (6, 32) := jkd_lo (by decide) kd_143
theorem jc_143 {E : jE} : jcls E 143 = some RX8 := by unfold jcls; rw [kj_143]; rfl
theorem kj_145 {E : jE} : jkd E 145 = some (6, 32) := jkd_lo (by decide) kd_145
theorem jc_145 {E : jE} : jcls E 145 = some RX8 := by unfold jcls; rw [kj_145]; rfl
theorem kj_147 {E : jE} : jkd E 147 = some (6, 32) := jkd_lo (by decide) kd_147
theorem jc_147 {E : jE} : jcls E 147 = some RX8 := by unfold jcls; rw [kj_147]; rfl
theorem kj_149 {E : jE} : jkd E 149 = some (0, 2) := jkd_lo (by decide) kd_149
theorem jc_149 {E : jE} : jcls E 149 = some RX2 := by unfold jcls; rw [kj_149]; rfl
theorem kj_150 {E : jE} : jkd E 150 = some (6, 16) := jkd_lo (by decide) kd_150
theorem jc_150 {E : jE} : jcls E 150 = some RX8 := by unfold jcls; rw [kj_150]; rfl
theorem kj_152 {E : jE} : jkd E 152 = some (6, 16) := jkd_lo (by decide) kd_152
theorem jc_152 {E : jE} : jcls E 152 = some RX8 := by unfold jcls; rw [kj_152]; rfl
theorem kj_154 {E : jE} : jkd E 154 = some (6, 16) := jkd_lo (by decide) kd_154
theorem jc_154 {E : jE} : jcls E 154 = some RX8 := by unfold jcls; rw [kj_154]; rfl
theorem kj_156 {E : jE} : jkd E 156 = some (6, 16) := jkd_lo (by decide) kd_156
theorem jc_156 {E : jE} : jcls E 156 = some RX8 := by unfold jcls; rw [kj_156]; rfl
theorem kj_158 {E : jE} : jkd E 158 = some (6, 8) := jkd_lo (by decide) kd_158
theorem jc_158 {E : jE} : jcls E 158 = some RX8 := by unfold jcls; rw [kj_158]; rfl
theorem kj_160 {E : jE} : jkd E 160 = some (6, 8) := jkd_lo (by decide) kd_160
theorem jc_160 {E : jE} : jcls E 160 = some RX8 := by unfold jcls; rw [kj_160]; rfl
theorem kj_162 {E : jE} (hE : jfull E) : jkd E 162 = some (0, 12) := jkd_hi hE kd_162
theorem jc_162 {E : jE} (hE : jfull E) : jcls E 162 = some RX12 := by unfold jcls; rw [kj_162 hE]; rfl
theorem kj_163 {E : jE} (hE : jfull E) : jkd E 163 = some (2, 2000) := jkd_hi hE kd_163
theorem kj_164 {E : jE} (hE : jfull E) : jkd E 164 = some (2, 2000) := jkd_hi hE kd_164
theorem kj_165 {E : jE} (hE : jfull E) : jkd E 165 = some (1, 403) := jkd_hi hE kd_165
theorem kj_166 {E : jE} (hE : jfull E) : jkd E 166 = some (1, 403) := jkd_hi hE kd_166
theorem kj_167 {E : jE} (hE : jfull E) : jkd E 167 = some (1, 403) := jkd_hi hE kd_167
theorem kj_168 {E : jE} (hE : jfull E) : jkd E 168 = some (4, 403) := jkd_hi hE kd_168
theorem kj_169 {E : jE} (hE : jfull E) : jkd E 169 = some (4, 11) := jkd_hi hE kd_169
theorem kj_170 {E : jE} (hE : jfull E) : jkd E 170 = some (1, 210) := jkd_hi hE kd_170
theorem kj_171 {E : jE} (hE : jfull E) : jkd E 171 = some (1, 210) := jkd_hi hE kd_171
theorem kj_172 {E : jE} (hE : jfull E) : jkd E 172 = some (1, 210) := jkd_hi hE kd_172
theorem kj_173 {E : jE} (hE : jfull E) : jkd E 173 = some (1, 210) := jkd_hi hE kd_173
theorem kj_174 {E : jE} (hE : jfull E) : jkd E 174 = some (1, 210) := jkd_hi hE kd_174
theorem kj_175 {E : jE} (hE : jfull E) : jkd E 175 = some (1, 3) := jkd_hi hE kd_175
theorem kj_176 {E : jE} (hE : jfull E) : jkd E 176 = some (1, 420) := jkd_hi hE kd_176
theorem kj_177 {E : jE} (hE : jfull E) : jkd E 177 = some (1, 420) := jkd_hi hE kd_177
theorem kj_178 {E : jE} (hE : jfull E) : jkd E 178 = some (1, 64) := jkd_hi hE kd_178
theorem kj_179 {E : jE} (hE : jfull E) : jkd E 179 = some (1, 6) := jkd_hi hE kd_179
theorem kj_180 {E : jE} (hE : jfull E) : jkd E 180 = some (1, 400) := jkd_hi hE kd_180
theorem kj_181 {E : jE} (hE : jfull E) : jkd E 181 = some (1, 3) := jkd_hi hE kd_181
theorem kj_182 {E : jE} (hE : jfull E) : jkd E 182 = some (1, 34700) := jkd_hi hE kd_182
theorem kj_183 {E : jE} (hE : jfull E) : jkd E 183 = some (1, 40) := jkd_hi hE kd_183
theorem kj_184 {E : jE} (hE : jfull E) : jkd E 184 = some (1, 40) := jkd_hi hE kd_184
theorem kj_185 {E : jE} (hE : jfull E) : jkd E 185 = some (1, 40) := jkd_hi hE kd_185
theorem kj_186 {E : jE} (hE : jfull E) : jkd E 186 = some (1, 40) := jkd_hi hE kd_186
theorem kj_187 {E : jE} (hE : jfull E) : jkd E 187 = some (1, 1000) := jkd_hi hE kd_187
theorem kj_188 {E : jE} (hE : jfull E) : jkd E 188 = some (1, 1000) := jkd_hi hE kd_188
theorem kj_189 {E : jE} (hE : jfull E) : jkd E 189 = some (1, 7800) := jkd_hi hE kd_189
theorem kj_190 {E : jE} (hE : jfull E) : jkd E 190 = some (1, 330) := jkd_hi hE kd_190
theorem kj_191 {E : jE} (hE : jfull E) : jkd E 191 = some (3, 3) := jkd_hi hE kd_191
theorem kj_192 {E : jE} (hE : jfull E) : jkd E 192 = some (1, 104100) := jkd_hi hE kd_192
