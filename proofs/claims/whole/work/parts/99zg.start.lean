section
/-! the two beginnings -/
theorem oc_step {α β : Type} {b b' : Bool} {a : β} {f g : β → Option α} (h : b = true) (h' : b' = true) (e : f a = g a) : jg b (jl a f) = jg b' (jl a g) := by rw [z_jg h, z_jg h']; exact e
theorem oc_l : ∀ (n t : Nat) (a b : Int32) (w : jw), w.1 18 8 = nI 8 → t ≤ 8 → (w.2.2.2 27).length = t → (w.2.2.2 29).length = t → (w.2.2.2 31).length = t → (w.2.2.2 33).length = t → l_X6_open_c n a b (nI t) w = l_X6_open n a b (nI t) w := by
  intro n
  induction n with
  | zero => intros; rfl
  | succ n ih =>
    intro t a b w h8 ht e1 e2 e3 e4
    unfold l_X6_open_c l_X6_open
    by_cases c : w.1 18 8 ≤ nI t
    · rw [if_pos c, if_pos c]
    · rw [if_neg c, if_neg c]
      have t8 : t < 8 := by
        rw [h8, nI_leI (by decide) (by omega)] at c
        omega
      have g2 : ((jsetR w 27 (w.2.2.2 27 ++ [0])).2.2.2 29).length = t := by rw [z_jR2 (by decide)]; exact e2
      have g3 : ((jsetR (jsetR w 27 (w.2.2.2 27 ++ [0])) 29 ((jsetR w 27 (w.2.2.2 27 ++ [0])).2.2.2 29 ++ [0])).2.2.2 31).length = t := by rw [z_jR2 (by decide), z_jR2 (by decide)]; exact e3
      have g4 : ((jsetR (jsetR (jsetR w 27 (w.2.2.2 27 ++ [0])) 29 ((jsetR w 27 (w.2.2.2 27 ++ [0])).2.2.2 29 ++ [0])) 31 ((jsetR (jsetR w 27 (w.2.2.2 27 ++ [0])) 29 ((jsetR w 27 (w.2.2.2 27 ++ [0])).2.2.2 29 ++ [0])).2.2.2 31 ++ [0])).2.2.2 33).length = t := by rw [z_jR2 (by decide), z_jR2 (by decide), z_jR2 (by decide)]; exact e4
      have a1 : t < 32 := by omega
      have a2 : t ≤ 4096 := by omega
      refine oc_step (decide_eq_true (by rw [e1]; exact a1)) (decide_eq_true (by rw [e1]; exact a2)) ?_
      refine oc_step (decide_eq_true (by rw [g2]; exact a1)) (decide_eq_true (by rw [g2]; exact a2)) ?_
      refine oc_step (decide_eq_true (by rw [g3]; exact a1)) (decide_eq_true (by rw [g3]; exact a2)) ?_
      refine oc_step (decide_eq_true (by rw [g4]; exact a1)) (decide_eq_true (by rw [g4]; exact a2)) ?_
      rw [z_jl, z_jl, nI_1]
      refine ih (t + 1) a b _ h8 (by omega) ?_ ?_ ?_ ?_
      · rw [z_jR2 (by decide), z_jR2 (by decide), z_jR2 (by decide), z_jR1, List.length_append, e1]; rfl
      · rw [z_jR2 (by decide), z_jR2 (by decide), z_jR1, List.length_append, g2]; rfl
      · rw [z_jR2 (by decide), z_jR1, List.length_append, g3]; rfl
      · rw [z_jR1, List.length_append, g4]; rfl
theorem oc_open {a b : Int32} {w : jw} (h8 : w.1 18 8 = nI 8) (h : ∀ k, (k = 19 ∨ k = 21 ∨ k = 23 ∨ k = 25 ∨ k = 27 ∨ k = 29 ∨ k = 31 ∨ k = 33) → w.2.2.2 k = []) : f_X6_open_c a b w = f_X6_open a b w := by
  unfold f_X6_open_c f_X6_open
  refine oc_step (decide_eq_true (by rw [h 19 (by omega)]; decide)) (decide_eq_true (by rw [h 19 (by omega)]; decide)) ?_
  refine oc_step (decide_eq_true (by rw [z_jR2 (by decide), h 21 (by omega)]; decide)) (decide_eq_true (by rw [z_jR2 (by decide), h 21 (by omega)]; decide)) ?_
  refine oc_step (decide_eq_true (by rw [z_jR2 (by decide), z_jR2 (by decide), h 23 (by omega)]; decide)) (decide_eq_true (by rw [z_jR2 (by decide), z_jR2 (by decide), h 23 (by omega)]; decide)) ?_
  refine oc_step (decide_eq_true (by rw [z_jR2 (by decide), z_jR2 (by decide), z_jR2 (by decide), h 25 (by omega)]; decide)) (decide_eq_true (by rw [z_jR2 (by decide), z_jR2 (by decide), z_jR2 (by decide), h 25 (by omega)]; decide)) ?_
  refine oc_l jfu 0 a b _ h8 (by decide) ?_ ?_ ?_ ?_
  · rw [z_jR2 (by decide), z_jR2 (by decide), z_jR2 (by decide), z_jR2 (by decide), h 27 (by omega)]; rfl
  · rw [z_jR2 (by decide), z_jR2 (by decide), z_jR2 (by decide), z_jR2 (by decide), h 29 (by omega)]; rfl
  · rw [z_jR2 (by decide), z_jR2 (by decide), z_jR2 (by decide), z_jR2 (by decide), h 31 (by omega)]; rfl
  · rw [z_jR2 (by decide), z_jR2 (by decide), z_jR2 (by decide), z_jR2 (by decide), h 33 (by omega)]; rfl
theorem z_resetK {B : Nat} (h12 : B ≤ 12) (hB : B = 8) (w : jw) : ∃ w', f_X9_reset_c (nI B) w = some w' ∧ zCi (zS0 B) w' ∧ zfRs w w' := by
  have c0 : ∀ l : List Int32, rcut l 0 = [] := fun l => by unfold rcut; simp
  have r6 : ∃ v, f_X6_reset (nI B) w = some v ∧ zCw B 0 (fun _ => (0, 0, 0, [])) v ∧ zfRs w v := by
    refine ⟨jsetR (jsetR (jsetR (jsetR (jsetR (jsetR (jsetR (jsetR (jsetI w 18 8 (nI B)) 19 []) 21 []) 23 []) 25 []) 27 []) 29 []) 31 []) 33 [], ?_, ⟨?_, ?_⟩, ⟨fun a h1 _ => by show (jsetI w 18 8 (nI B)).1 a = _; rw [z_jI2 h1], rfl, rfl, fun k hk => ?_⟩⟩
    · unfold f_X6_reset
      rw [z_jl, c0, z_jl, c0, z_jl, c0, z_jl, c0, z_jl, c0, z_jl, c0, z_jl, c0, z_jl, c0, z_jl]
    · show (jsetI w 18 8 (nI B)).1 18 8 = _
      rw [zI_eq]
    · refine ⟨rfl, rfl, rfl, rfl, ?_, ?_, ?_, ?_, fun p hp => by omega⟩ <;> rw [Nat.zero_mul] <;> rfl
    · rw [z_jR2 (by omega), z_jR2 (by omega), z_jR2 (by omega), z_jR2 (by omega), z_jR2 (by omega), z_jR2 (by omega), z_jR2 (by omega), z_jR2 (by omega)]; rfl
  obtain ⟨v, r1, r2, r3⟩ := r6
  unfold f_X9_reset_c
  rw [show f_X6_reset_c (nI B) w = some v from r1, z_jbd]
  have r5 : ∃ u, (jbd (f_X2_reset v) fun q2 => jl (jsetR q2 44 (rcut (q2.2.2.2 44) 0)) fun w3 => jl (jsetR w3 46 (rcut (w3.2.2.2 46) 0)) fun w4 => some w4) = some u ∧ zCw B 0 (fun _ => (0, 0, 0, [])) u ∧ zCh [(0, -1, 0, 0)] u ∧ u.2.2.2 44 = [] ∧ u.2.2.2 46 = [] ∧ zfRs w u := by
    refine ⟨jsetR (jsetR (jsetR (jsetR (jsetR (jsetR (jsetI v 35 4 0) 36 (List.replicate 1 (-1))) 38 (List.replicate 1 0)) 40 (List.replicate 1 0)) 42 (List.replicate 1 0)) 44 []) 46 [], ?_, ⟨?_, r2.2⟩, ⟨rfl, rfl, rfl, rfl, ?_⟩, rfl, rfl, ⟨fun a h1 h2 => ?_, r3.2.1, r3.2.2.1, fun k hk => ?_⟩⟩
    · unfold f_X2_reset
      rw [z_jl, z_jl, z_jl, z_jl, z_jl, z_jbd, c0, z_jl, c0, z_jl]
    · show (jsetI v 35 4 0).1 18 8 = _
      rw [z_jI2 (by decide)]; exact r2.1
    · show (jsetI v 35 4 0).1 35 4 = _
      rw [zI_eq]; rfl
    · show (jsetI v 35 4 0).1 a = _
      rw [z_jI2 h2]; exact r3.1 a h1 h2
    · rw [z_jR2 (by omega), z_jR2 (by omega), z_jR2 (by omega), z_jR2 (by omega), z_jR2 (by omega), z_jR2 (by omega)]; exact r3.2.2.2 k hk
  obtain ⟨u, s1, s2, s3, s4, s5, s6⟩ := r5
  obtain ⟨v2, hv2⟩ : ∃ v2, f_X2_reset v = some v2 := ⟨_, rfl⟩
  rw [hv2, z_jbd, z_jl, z_jl] at s1
  rw [show f_X2_reset_c v = some v2 from hv2, z_jbd, z_jl, z_jl]
  have su := Option.some.inj s1
  rw [su]
  obtain ⟨w7, o1, o2, o3⟩ := z_open (P := 0) 1 0 s2 h12 (by omega) (by omega)
  obtain ⟨n1, n2, n3, n4, n5, n6, n7, n8, -⟩ := s2.2
  rw [oc_open (by rw [s2.1, hB]) (fun k hk => by
    rcases hk with rfl | rfl | rfl | rfl | rfl | rfl | rfl | rfl
    · exact List.eq_nil_of_length_eq_zero n1
    · exact List.eq_nil_of_length_eq_zero n2
    · exact List.eq_nil_of_length_eq_zero n3
    · exact List.eq_nil_of_length_eq_zero n4
    · exact List.eq_nil_of_length_eq_zero (by rw [n5, Nat.zero_mul])
    · exact List.eq_nil_of_length_eq_zero (by rw [n6, Nat.zero_mul])
    · exact List.eq_nil_of_length_eq_zero (by rw [n7, Nat.zero_mul])
    · exact List.eq_nil_of_length_eq_zero (by rw [n8, Nat.zero_mul])), o1, z_jbd2]
  unfold f_X9_addRoot_c
  have f44 : w7.2.2.2 44 = [] := by rw [o2.2.2.2 44 (by omega)]; exact s4
  have f46 : w7.2.2.2 46 = [] := by rw [o2.2.2.2 46 (by omega)]; exact s5
  rw [f44, z_jg (by rfl), z_jl, z_jR2 (show 46 ≠ 44 by decide), f46, z_jg (by rfl), z_jl, z_jbd]
  refine ⟨_, rfl, ⟨o3, ⟨rfl, rfl⟩, ⟨?_, ?_, ?_, ?_, ?_⟩⟩, ⟨fun a h1 h2 => ?_, ?_, ?_, fun k hk => ?_⟩⟩
  · rw [z_jR2 (by decide), z_jR2 (by decide), o2.2.2.2 36 (by omega)]; exact s3.1
  · rw [z_jR2 (by decide), z_jR2 (by decide), o2.2.2.2 38 (by omega)]; exact s3.2.1
  · rw [z_jR2 (by decide), z_jR2 (by decide), o2.2.2.2 40 (by omega)]; exact s3.2.2.1
  · rw [z_jR2 (by decide), z_jR2 (by decide), o2.2.2.2 42 (by omega)]; exact s3.2.2.2.1
  · show w7.1 35 4 = _; rw [o2.1]; exact s3.2.2.2.2
  · show w7.1 a = _; rw [o2.1]; exact s6.1 a h1 h2
  · show w7.2.1 = _; rw [o2.2.1]; exact s6.2.1
  · show w7.2.2.1 = _; rw [o2.2.2.1]; exact s6.2.2.1
  · rw [z_jR2 (by omega), z_jR2 (by omega), o2.2.2.2 k (by omega)]; exact s6.2.2.2 k hk
def lap (a : Int64) (c : Int32) : Int64 := if c = 0 then a else (27 * a) + (Int32.toInt64 ((c - 97) + 1))
theorem lt_app (a : Int64) (c : Int32) (w : jw) : f_X12_appends a c w = some (lap a c, w) := by
  unfold f_X12_appends lap
  split <;> rfl
theorem lt_let (a1 a2 a3 a4 a5 a6 a7 : Int32) (w : jw) : f_X12_letters a1 a2 a3 a4 a5 a6 a7 w = some (lap (lap (lap (lap (lap (lap (lap 0 a1) a2) a3) a4) a5) a6) a7, w) := by
  unfold f_X12_letters
  rw [lt_app, z_jbd2, lt_app, z_jbd2, lt_app, z_jbd2, lt_app, z_jbd2, lt_app, z_jbd2, lt_app, z_jbd2, lt_app, z_jbd2]
theorem kv0 (w : jw) : f_X12_letters 112 97 103 101 0 0 0 w = some (315851, w) := (lt_let _ _ _ _ _ _ _ w).trans (congrArg (fun v => some (v, w)) (by decide +kernel : lap (lap (lap (lap (lap (lap (lap (0) 112) 97) 103) 101) 0) 0) 0 = 315851))
theorem kv1 (w : jw) : f_X12_letters 112 117 116 0 0 0 0 w = some (12251, w) := (lt_let _ _ _ _ _ _ _ w).trans (congrArg (fun v => some (v, w)) (by decide +kernel : lap (lap (lap (lap (lap (lap (lap (0) 112) 117) 116) 0) 0) 0) 0 = 12251))
theorem kv2 (w : jw) : f_X12_letters 99 117 116 0 0 0 0 w = some (2774, w) := (lt_let _ _ _ _ _ _ _ w).trans (congrArg (fun v => some (v, w)) (by decide +kernel : lap (lap (lap (lap (lap (lap (lap (0) 99) 117) 116) 0) 0) 0) 0 = 2774))
theorem kv3 (w : jw) : f_X12_letters 100 111 0 0 0 0 0 w = some (123, w) := (lt_let _ _ _ _ _ _ _ w).trans (congrArg (fun v => some (v, w)) (by decide +kernel : lap (lap (lap (lap (lap (lap (lap (0) 100) 111) 0) 0) 0) 0) 0 = 123))
theorem kv4 (w : jw) : f_X12_letters 101 110 100 0 0 0 0 w = some (4027, w) := (lt_let _ _ _ _ _ _ _ w).trans (congrArg (fun v => some (v, w)) (by decide +kernel : lap (lap (lap (lap (lap (lap (lap (0) 101) 110) 100) 0) 0) 0) 0 = 4027))
theorem kv5 (w : jw) : f_X12_letters 105 0 0 0 0 0 0 w = some (9, w) := (lt_let _ _ _ _ _ _ _ w).trans (congrArg (fun v => some (v, w)) (by decide +kernel : lap (lap (lap (lap (lap (lap (lap (0) 105) 0) 0) 0) 0) 0) 0 = 9))
theorem kv6 (w : jw) : f_X12_letters 106 0 0 0 0 0 0 w = some (10, w) := (lt_let _ _ _ _ _ _ _ w).trans (congrArg (fun v => some (v, w)) (by decide +kernel : lap (lap (lap (lap (lap (lap (lap (0) 106) 0) 0) 0) 0) 0) 0 = 10))
theorem kv7 (w : jw) : f_X12_letters 116 105 109 101 0 0 0 w = some (400577, w) := (lt_let _ _ _ _ _ _ _ w).trans (congrArg (fun v => some (v, w)) (by decide +kernel : lap (lap (lap (lap (lap (lap (lap (0) 116) 105) 109) 101) 0) 0) 0 = 400577))
theorem kv8 (w : jw) : f_X12_letters 108 105 118 101 0 0 0 w = some (243356, w) := (lt_let _ _ _ _ _ _ _ w).trans (congrArg (fun v => some (v, w)) (by decide +kernel : lap (lap (lap (lap (lap (lap (lap (0) 108) 105) 118) 101) 0) 0) 0 = 243356))
theorem kv9 (w : jw) : f_X12_letters 108 97 115 116 0 0 0 w = some (237458, w) := (lt_let _ _ _ _ _ _ _ w).trans (congrArg (fun v => some (v, w)) (by decide +kernel : lap (lap (lap (lap (lap (lap (lap (0) 108) 97) 115) 116) 0) 0) 0 = 237458))
theorem kv10 (w : jw) : f_X12_letters 112 97 103 101 115 0 0 w = some (8527996, w) := (lt_let _ _ _ _ _ _ _ w).trans (congrArg (fun v => some (v, w)) (by decide +kernel : lap (lap (lap (lap (lap (lap (lap (0) 112) 97) 103) 101) 115) 0) 0 = 8527996))
theorem z_tail (w : jw) : ∃ w', f_X12_tail w = some w' ∧ zMi (zS0 8) (w'.2.1 182) ∧ w'.2.1 182 5 = 0 ∧ w'.2.1 182 6 = 0 ∧ w'.1 = w.1 ∧ w'.2.2.2 = w.2.2.2 ∧ (∀ q, q ≠ 182 → w'.2.1 q = w.2.1 q) ∧ zKy w' := by
  unfold f_X12_tail
  rw [kv0, z_jbd2, z_jg (show jin 0 11 = true by decide), z_jl]
  rw [kv1, z_jbd2, z_jg (show jin 1 11 = true by decide), z_jl]
  rw [kv2, z_jbd2, z_jg (show jin 2 11 = true by decide), z_jl]
  rw [kv3, z_jbd2, z_jg (show jin 3 11 = true by decide), z_jl]
  rw [kv4, z_jbd2, z_jg (show jin 4 11 = true by decide), z_jl]
  rw [kv5, z_jbd2, z_jg (show jin 5 11 = true by decide), z_jl]
  rw [kv6, z_jbd2, z_jg (show jin 6 11 = true by decide), z_jl]
  rw [kv7, z_jbd2, z_jg (show jin 7 11 = true by decide), z_jl]
  rw [kv8, z_jbd2, z_jg (show jin 8 11 = true by decide), z_jl]
  rw [kv9, z_jbd2, z_jg (show jin 9 11 = true by decide), z_jl]
  rw [kv10, z_jbd2, z_jg (show jin 10 11 = true by decide), z_jl]
  obtain ⟨w', b1, b2, b3, b4, b5, b6, b7⟩ := z_begM (B := 8) (by decide) (jsetL (jsetL (jsetL (jsetL (jsetL (jsetL (jsetL (jsetL (jsetL (jsetL (jsetL (w) 169 (Int32.toNatClampNeg 0) 315851) 169 (Int32.toNatClampNeg 1) 12251) 169 (Int32.toNatClampNeg 2) 2774) 169 (Int32.toNatClampNeg 3) 123) 169 (Int32.toNatClampNeg 4) 4027) 169 (Int32.toNatClampNeg 5) 9) 169 (Int32.toNatClampNeg 6) 10) 169 (Int32.toNatClampNeg 7) 400577) 169 (Int32.toNatClampNeg 8) 243356) 169 (Int32.toNatClampNeg 9) 237458) 169 (Int32.toNatClampNeg 10) 8527996)
  rw [show f_X12_begins 8 (jsetL (jsetL (jsetL (jsetL (jsetL (jsetL (jsetL (jsetL (jsetL (jsetL (jsetL (w) 169 (Int32.toNatClampNeg 0) 315851) 169 (Int32.toNatClampNeg 1) 12251) 169 (Int32.toNatClampNeg 2) 2774) 169 (Int32.toNatClampNeg 3) 123) 169 (Int32.toNatClampNeg 4) 4027) 169 (Int32.toNatClampNeg 5) 9) 169 (Int32.toNatClampNeg 6) 10) 169 (Int32.toNatClampNeg 7) 400577) 169 (Int32.toNatClampNeg 8) 243356) 169 (Int32.toNatClampNeg 9) 237458) 169 (Int32.toNatClampNeg 10) 8527996) = some w' from b1, z_jbd]
  refine ⟨w', rfl, b2, b3, b4, b5, by rw [b6]; rfl, fun q hq => b7 q hq, fun i hi => ?_⟩
  rw [b6]
  match i, hi with
  | 0, _ => rfl
  | 1, _ => rfl
  | 2, _ => rfl
  | 3, _ => rfl
  | 4, _ => rfl
  | 5, _ => rfl
  | 6, _ => rfl
  | 7, _ => rfl
  | 8, _ => rfl
  | 9, _ => rfl
  | 10, _ => rfl
end
