section
/-! hold, restore: the class's copies -/
def zsh (o : Nat) (w : jw) : jw := (fun a => w.1 (a + o), w.2.1, w.2.2.1, fun k => w.2.2.2 (k + o))
def zsame (w w' : jw) : Prop := w'.1 18 8 = w.1 18 8 ∧ w'.1 35 4 = w.1 35 4 ∧ w'.2.2.2 19 = w.2.2.2 19 ∧ w'.2.2.2 21 = w.2.2.2 21 ∧ w'.2.2.2 23 = w.2.2.2 23 ∧ w'.2.2.2 25 = w.2.2.2 25 ∧ w'.2.2.2 27 = w.2.2.2 27 ∧ w'.2.2.2 29 = w.2.2.2 29 ∧ w'.2.2.2 31 = w.2.2.2 31 ∧ w'.2.2.2 33 = w.2.2.2 33 ∧ w'.2.2.2 36 = w.2.2.2 36 ∧ w'.2.2.2 38 = w.2.2.2 38 ∧ w'.2.2.2 40 = w.2.2.2 40 ∧ w'.2.2.2 42 = w.2.2.2 42 ∧ w'.2.2.2 44 = w.2.2.2 44 ∧ w'.2.2.2 46 = w.2.2.2 46
theorem zCi_of {S : zS} {w w' : jw} (h : zsame w w') (hC : zCi S w) : zCi S w' := by
  obtain ⟨a1, a2, b1, b2, b3, b4, b5, b6, b7, b8, c1, c2, c3, c4, d1, d2⟩ := h
  obtain ⟨⟨p1, p2⟩, ⟨q1, q2⟩, r1, r2, r3, r4, r5⟩ := hC
  refine ⟨⟨by rw [a1]; exact p1, ?_⟩, ⟨by rw [d1]; exact q1, by rw [d2]; exact q2⟩, by rw [c1]; exact r1, by rw [c2]; exact r2, by rw [c3]; exact r3, by rw [c4]; exact r4, by rw [a2]; exact r5⟩
  rw [b1, b2, b3, b4, b5, b6, b7, b8]
  exact p2
def zfd : List (Nat × Nat) → Nat → Nat
  | [], q => q
  | p :: t, q => if q = p.1 then p.2 else zfd t q
def zfe : List (Nat × Nat × Nat) → Nat → Nat → Nat
  | [], a, _ => a
  | p :: t, a, b => if a = p.1 ∧ b = p.2.1 then p.2.2 else zfe t a b
def zcs (T : List (Nat × Nat)) (U : List (Nat × Nat × Nat)) (w0 w : jw) : Prop := (∀ q, w.2.2.2 q = w0.2.2.2 (zfd T q)) ∧ (∀ a b, w.1 a b = w0.1 (zfe U a b) b) ∧ w.2.1 = w0.2.1 ∧ w.2.2.1 = w0.2.2.1
theorem z_cpR {w0 w : jw} {T : List (Nat × Nat)} {U : List (Nat × Nat × Nat)} (h : zcs T U w0 w) (k j : Nat) (hj : zfd T j = j) {Q : jw → Prop} {f : jw → Option jw} (hf : ∀ w1, zcs ((k, j) :: T) U w0 w1 → ∃ w', f w1 = some w' ∧ Q w') : ∃ w', jl (jsetR w k (w.2.2.2 j)) f = some w' ∧ Q w' := by
  rw [z_jl]
  refine hf _ ⟨fun q => ?_, h.2.1, h.2.2.1, h.2.2.2⟩
  show (if q = k then w.2.2.2 j else w.2.2.2 q) = w0.2.2.2 (if q = k then j else zfd T q)
  by_cases c : q = k
  · rw [if_pos c, if_pos c, h.1 j, hj]
  · rw [if_neg c, if_neg c, h.1 q]
theorem z_cpI {w0 w : jw} {T : List (Nat × Nat)} {U : List (Nat × Nat × Nat)} (h : zcs T U w0 w) (k b j : Nat) (hj : zfe U j b = j) {Q : jw → Prop} {f : jw → Option jw} (hf : ∀ w1, zcs T ((k, b, j) :: U) w0 w1 → ∃ w', f w1 = some w' ∧ Q w') : ∃ w', jl (jsetI w k b (w.1 j b)) f = some w' ∧ Q w' := by
  rw [z_jl]
  refine hf _ ⟨h.1, fun x y => ?_, h.2.2.1, h.2.2.2⟩
  show (if x = k ∧ y = b then w.1 j b else w.1 x y) = w0.1 (if x = k ∧ y = b then j else zfe U x y) y
  by_cases c : x = k ∧ y = b
  · rw [if_pos c, if_pos c, h.2.1 j b, hj, c.2]
  · rw [if_neg c, if_neg c, h.2.1 x y]
theorem z_cpB {w : jw} {Q R : jw → Prop} {x : Option jw} {f : jw → Option jw} (h : ∃ w1, x = some w1 ∧ R w1) (hf : ∀ w1, R w1 → ∃ w', f w1 = some w' ∧ Q w') : ∃ w', jbd x f = some w' ∧ Q w' := by
  obtain ⟨w1, e, r⟩ := h
  rw [e, z_jbd]
  exact hf w1 r

theorem z_hold_69_a (w : jw) : ∃ w', f_X6_copyFrom_69_17 w = some w' ∧ zcs [(85, 33), (83, 31), (81, 29), (79, 27), (77, 25), (75, 23), (73, 21), (71, 19)] [(70, 8, 18)] w w' := by
  unfold f_X6_copyFrom_69_17
  have h0 : zcs [] [] w w := ⟨fun _ => rfl, fun _ _ => rfl, rfl, rfl⟩
  refine z_cpI h0 70 8 18 rfl fun w1 h1 => ?_
  refine z_cpR h1 71 19 rfl fun w2 h2 => ?_
  refine z_cpR h2 73 21 rfl fun w3 h3 => ?_
  refine z_cpR h3 75 23 rfl fun w4 h4 => ?_
  refine z_cpR h4 77 25 rfl fun w5 h5 => ?_
  refine z_cpR h5 79 27 rfl fun w6 h6 => ?_
  refine z_cpR h6 81 29 rfl fun w7 h7 => ?_
  refine z_cpR h7 83 31 rfl fun w8 h8 => ?_
  refine z_cpR h8 85 33 rfl fun w9 h9 => ?_
  exact ⟨w9, rfl, h9⟩
theorem z_hold_69_b (w0 w : jw) (h0 : zcs [(85, 33), (83, 31), (81, 29), (79, 27), (77, 25), (75, 23), (73, 21), (71, 19)] [(70, 8, 18)] w0 w) : ∃ w', f_X2_copyFrom_69_17 w = some w' ∧ zcs [(94, 42), (92, 40), (90, 38), (88, 36), (85, 33), (83, 31), (81, 29), (79, 27), (77, 25), (75, 23), (73, 21), (71, 19)] [(87, 4, 35), (70, 8, 18)] w0 w' := by
  unfold f_X2_copyFrom_69_17
  refine z_cpI h0 87 4 35 rfl fun w1 h1 => ?_
  refine z_cpR h1 88 36 rfl fun w2 h2 => ?_
  refine z_cpR h2 90 38 rfl fun w3 h3 => ?_
  refine z_cpR h3 92 40 rfl fun w4 h4 => ?_
  refine z_cpR h4 94 42 rfl fun w5 h5 => ?_
  exact ⟨w5, rfl, h5⟩
theorem z_hold_69_c (w : jw) : ∃ w', f_X9_copyFrom_69_17 w = some w' ∧ zcs [(98, 46), (96, 44), (94, 42), (92, 40), (90, 38), (88, 36), (85, 33), (83, 31), (81, 29), (79, 27), (77, 25), (75, 23), (73, 21), (71, 19)] [(87, 4, 35), (70, 8, 18)] w w' := by
  unfold f_X9_copyFrom_69_17
  refine z_cpB (w := w) (z_hold_69_a w) fun w1 h1 => z_cpB (w := w) (z_hold_69_b w w1 h1) fun w2 h2 => ?_
  refine z_cpR h2 96 44 rfl fun w3 h3 => ?_
  refine z_cpR h3 98 46 rfl fun w4 h4 => ?_
  exact ⟨w4, rfl, h4⟩
theorem z_hold_69 (w : jw) : ∃ w', f_X9_copyFrom_69_17 w = some w' ∧ w'.2.1 = w.2.1 ∧ w'.2.2.1 = w.2.2.1 ∧ (∀ a, a ≠ 70 → a ≠ 87 → w'.1 a = w.1 a) ∧ (∀ k, k < 71 ∨ 98 < k → w'.2.2.2 k = w.2.2.2 k) ∧ ∀ S, zCi S w → zCi S (zsh 52 w') := by
  obtain ⟨w', e, h⟩ := z_hold_69_c w
  refine ⟨w', e, h.2.2.1, h.2.2.2, fun a a1 a2 => ?_, fun k hk => ?_, fun S hC => zCi_of ⟨h.2.1 70 8, h.2.1 87 4, h.1 71, h.1 73, h.1 75, h.1 77, h.1 79, h.1 81, h.1 83, h.1 85, h.1 88, h.1 90, h.1 92, h.1 94, h.1 96, h.1 98⟩ hC⟩
  · funext j
    rw [h.2.1 a j]
    simp only [zfe]
    rw [if_neg (show ¬ (a = 87 ∧ j = 4) from fun q => a2 q.1), if_neg (show ¬ (a = 70 ∧ j = 8) from fun q => a1 q.1)]
  · rw [h.1 k]
    simp only [zfd]
    rw [if_neg (show ¬ k = 98 by omega), if_neg (show ¬ k = 96 by omega), if_neg (show ¬ k = 94 by omega), if_neg (show ¬ k = 92 by omega), if_neg (show ¬ k = 90 by omega), if_neg (show ¬ k = 88 by omega), if_neg (show ¬ k = 85 by omega), if_neg (show ¬ k = 83 by omega), if_neg (show ¬ k = 81 by omega), if_neg (show ¬ k = 79 by omega), if_neg (show ¬ k = 77 by omega), if_neg (show ¬ k = 75 by omega), if_neg (show ¬ k = 73 by omega), if_neg (show ¬ k = 71 by omega)]
theorem z_rest_69_a (w : jw) : ∃ w', f_X6_copyFrom_17_69 w = some w' ∧ zcs [(33, 85), (31, 83), (29, 81), (27, 79), (25, 77), (23, 75), (21, 73), (19, 71)] [(18, 8, 70)] w w' := by
  unfold f_X6_copyFrom_17_69
  have h0 : zcs [] [] w w := ⟨fun _ => rfl, fun _ _ => rfl, rfl, rfl⟩
  refine z_cpI h0 18 8 70 rfl fun w1 h1 => ?_
  refine z_cpR h1 19 71 rfl fun w2 h2 => ?_
  refine z_cpR h2 21 73 rfl fun w3 h3 => ?_
  refine z_cpR h3 23 75 rfl fun w4 h4 => ?_
  refine z_cpR h4 25 77 rfl fun w5 h5 => ?_
  refine z_cpR h5 27 79 rfl fun w6 h6 => ?_
  refine z_cpR h6 29 81 rfl fun w7 h7 => ?_
  refine z_cpR h7 31 83 rfl fun w8 h8 => ?_
  refine z_cpR h8 33 85 rfl fun w9 h9 => ?_
  exact ⟨w9, rfl, h9⟩
theorem z_rest_69_b (w0 w : jw) (h0 : zcs [(33, 85), (31, 83), (29, 81), (27, 79), (25, 77), (23, 75), (21, 73), (19, 71)] [(18, 8, 70)] w0 w) : ∃ w', f_X2_copyFrom_17_69 w = some w' ∧ zcs [(42, 94), (40, 92), (38, 90), (36, 88), (33, 85), (31, 83), (29, 81), (27, 79), (25, 77), (23, 75), (21, 73), (19, 71)] [(35, 4, 87), (18, 8, 70)] w0 w' := by
  unfold f_X2_copyFrom_17_69
  refine z_cpI h0 35 4 87 rfl fun w1 h1 => ?_
  refine z_cpR h1 36 88 rfl fun w2 h2 => ?_
  refine z_cpR h2 38 90 rfl fun w3 h3 => ?_
  refine z_cpR h3 40 92 rfl fun w4 h4 => ?_
  refine z_cpR h4 42 94 rfl fun w5 h5 => ?_
  exact ⟨w5, rfl, h5⟩
theorem z_rest_69_c (w : jw) : ∃ w', f_X9_copyFrom_17_69 w = some w' ∧ zcs [(46, 98), (44, 96), (42, 94), (40, 92), (38, 90), (36, 88), (33, 85), (31, 83), (29, 81), (27, 79), (25, 77), (23, 75), (21, 73), (19, 71)] [(35, 4, 87), (18, 8, 70)] w w' := by
  unfold f_X9_copyFrom_17_69
  refine z_cpB (w := w) (z_rest_69_a w) fun w1 h1 => z_cpB (w := w) (z_rest_69_b w w1 h1) fun w2 h2 => ?_
  refine z_cpR h2 44 96 rfl fun w3 h3 => ?_
  refine z_cpR h3 46 98 rfl fun w4 h4 => ?_
  exact ⟨w4, rfl, h4⟩
theorem z_rest_69 (w : jw) : ∃ w', f_X9_copyFrom_17_69 w = some w' ∧ w'.2.1 = w.2.1 ∧ w'.2.2.1 = w.2.2.1 ∧ (∀ a, a ≠ 18 → a ≠ 35 → w'.1 a = w.1 a) ∧ (∀ k, k < 19 ∨ 46 < k → w'.2.2.2 k = w.2.2.2 k) ∧ ∀ S, zCi S (zsh 52 w) → zCi S w' := by
  obtain ⟨w', e, h⟩ := z_rest_69_c w
  refine ⟨w', e, h.2.2.1, h.2.2.2, fun a a1 a2 => ?_, fun k hk => ?_, fun S hC => zCi_of ⟨h.2.1 18 8, h.2.1 35 4, h.1 19, h.1 21, h.1 23, h.1 25, h.1 27, h.1 29, h.1 31, h.1 33, h.1 36, h.1 38, h.1 40, h.1 42, h.1 44, h.1 46⟩ hC⟩
  · funext j
    rw [h.2.1 a j]
    simp only [zfe]
    rw [if_neg (show ¬ (a = 35 ∧ j = 4) from fun q => a2 q.1), if_neg (show ¬ (a = 18 ∧ j = 8) from fun q => a1 q.1)]
  · rw [h.1 k]
    simp only [zfd]
    rw [if_neg (show ¬ k = 46 by omega), if_neg (show ¬ k = 44 by omega), if_neg (show ¬ k = 42 by omega), if_neg (show ¬ k = 40 by omega), if_neg (show ¬ k = 38 by omega), if_neg (show ¬ k = 36 by omega), if_neg (show ¬ k = 33 by omega), if_neg (show ¬ k = 31 by omega), if_neg (show ¬ k = 29 by omega), if_neg (show ¬ k = 27 by omega), if_neg (show ¬ k = 25 by omega), if_neg (show ¬ k = 23 by omega), if_neg (show ¬ k = 21 by omega), if_neg (show ¬ k = 19 by omega)]
theorem z_hold_100_a (w : jw) : ∃ w', f_X6_copyFrom_100_17 w = some w' ∧ zcs [(116, 33), (114, 31), (112, 29), (110, 27), (108, 25), (106, 23), (104, 21), (102, 19)] [(101, 8, 18)] w w' := by
  unfold f_X6_copyFrom_100_17
  have h0 : zcs [] [] w w := ⟨fun _ => rfl, fun _ _ => rfl, rfl, rfl⟩
  refine z_cpI h0 101 8 18 rfl fun w1 h1 => ?_
  refine z_cpR h1 102 19 rfl fun w2 h2 => ?_
  refine z_cpR h2 104 21 rfl fun w3 h3 => ?_
  refine z_cpR h3 106 23 rfl fun w4 h4 => ?_
  refine z_cpR h4 108 25 rfl fun w5 h5 => ?_
  refine z_cpR h5 110 27 rfl fun w6 h6 => ?_
  refine z_cpR h6 112 29 rfl fun w7 h7 => ?_
  refine z_cpR h7 114 31 rfl fun w8 h8 => ?_
  refine z_cpR h8 116 33 rfl fun w9 h9 => ?_
  exact ⟨w9, rfl, h9⟩
theorem z_hold_100_b (w0 w : jw) (h0 : zcs [(116, 33), (114, 31), (112, 29), (110, 27), (108, 25), (106, 23), (104, 21), (102, 19)] [(101, 8, 18)] w0 w) : ∃ w', f_X2_copyFrom_100_17 w = some w' ∧ zcs [(125, 42), (123, 40), (121, 38), (119, 36), (116, 33), (114, 31), (112, 29), (110, 27), (108, 25), (106, 23), (104, 21), (102, 19)] [(118, 4, 35), (101, 8, 18)] w0 w' := by
  unfold f_X2_copyFrom_100_17
  refine z_cpI h0 118 4 35 rfl fun w1 h1 => ?_
  refine z_cpR h1 119 36 rfl fun w2 h2 => ?_
  refine z_cpR h2 121 38 rfl fun w3 h3 => ?_
  refine z_cpR h3 123 40 rfl fun w4 h4 => ?_
  refine z_cpR h4 125 42 rfl fun w5 h5 => ?_
  exact ⟨w5, rfl, h5⟩
theorem z_hold_100_c (w : jw) : ∃ w', f_X9_copyFrom_100_17 w = some w' ∧ zcs [(129, 46), (127, 44), (125, 42), (123, 40), (121, 38), (119, 36), (116, 33), (114, 31), (112, 29), (110, 27), (108, 25), (106, 23), (104, 21), (102, 19)] [(118, 4, 35), (101, 8, 18)] w w' := by
  unfold f_X9_copyFrom_100_17
  refine z_cpB (w := w) (z_hold_100_a w) fun w1 h1 => z_cpB (w := w) (z_hold_100_b w w1 h1) fun w2 h2 => ?_
  refine z_cpR h2 127 44 rfl fun w3 h3 => ?_
  refine z_cpR h3 129 46 rfl fun w4 h4 => ?_
  exact ⟨w4, rfl, h4⟩
theorem z_hold_100 (w : jw) : ∃ w', f_X9_copyFrom_100_17 w = some w' ∧ w'.2.1 = w.2.1 ∧ w'.2.2.1 = w.2.2.1 ∧ (∀ a, a ≠ 101 → a ≠ 118 → w'.1 a = w.1 a) ∧ (∀ k, k < 102 ∨ 129 < k → w'.2.2.2 k = w.2.2.2 k) ∧ ∀ S, zCi S w → zCi S (zsh 83 w') := by
  obtain ⟨w', e, h⟩ := z_hold_100_c w
  refine ⟨w', e, h.2.2.1, h.2.2.2, fun a a1 a2 => ?_, fun k hk => ?_, fun S hC => zCi_of ⟨h.2.1 101 8, h.2.1 118 4, h.1 102, h.1 104, h.1 106, h.1 108, h.1 110, h.1 112, h.1 114, h.1 116, h.1 119, h.1 121, h.1 123, h.1 125, h.1 127, h.1 129⟩ hC⟩
  · funext j
    rw [h.2.1 a j]
    simp only [zfe]
    rw [if_neg (show ¬ (a = 118 ∧ j = 4) from fun q => a2 q.1), if_neg (show ¬ (a = 101 ∧ j = 8) from fun q => a1 q.1)]
  · rw [h.1 k]
    simp only [zfd]
    rw [if_neg (show ¬ k = 129 by omega), if_neg (show ¬ k = 127 by omega), if_neg (show ¬ k = 125 by omega), if_neg (show ¬ k = 123 by omega), if_neg (show ¬ k = 121 by omega), if_neg (show ¬ k = 119 by omega), if_neg (show ¬ k = 116 by omega), if_neg (show ¬ k = 114 by omega), if_neg (show ¬ k = 112 by omega), if_neg (show ¬ k = 110 by omega), if_neg (show ¬ k = 108 by omega), if_neg (show ¬ k = 106 by omega), if_neg (show ¬ k = 104 by omega), if_neg (show ¬ k = 102 by omega)]
theorem z_rest_100_a (w : jw) : ∃ w', f_X6_copyFrom_17_100 w = some w' ∧ zcs [(33, 116), (31, 114), (29, 112), (27, 110), (25, 108), (23, 106), (21, 104), (19, 102)] [(18, 8, 101)] w w' := by
  unfold f_X6_copyFrom_17_100
  have h0 : zcs [] [] w w := ⟨fun _ => rfl, fun _ _ => rfl, rfl, rfl⟩
  refine z_cpI h0 18 8 101 rfl fun w1 h1 => ?_
  refine z_cpR h1 19 102 rfl fun w2 h2 => ?_
  refine z_cpR h2 21 104 rfl fun w3 h3 => ?_
  refine z_cpR h3 23 106 rfl fun w4 h4 => ?_
  refine z_cpR h4 25 108 rfl fun w5 h5 => ?_
  refine z_cpR h5 27 110 rfl fun w6 h6 => ?_
  refine z_cpR h6 29 112 rfl fun w7 h7 => ?_
  refine z_cpR h7 31 114 rfl fun w8 h8 => ?_
  refine z_cpR h8 33 116 rfl fun w9 h9 => ?_
  exact ⟨w9, rfl, h9⟩
theorem z_rest_100_b (w0 w : jw) (h0 : zcs [(33, 116), (31, 114), (29, 112), (27, 110), (25, 108), (23, 106), (21, 104), (19, 102)] [(18, 8, 101)] w0 w) : ∃ w', f_X2_copyFrom_17_100 w = some w' ∧ zcs [(42, 125), (40, 123), (38, 121), (36, 119), (33, 116), (31, 114), (29, 112), (27, 110), (25, 108), (23, 106), (21, 104), (19, 102)] [(35, 4, 118), (18, 8, 101)] w0 w' := by
  unfold f_X2_copyFrom_17_100
  refine z_cpI h0 35 4 118 rfl fun w1 h1 => ?_
  refine z_cpR h1 36 119 rfl fun w2 h2 => ?_
  refine z_cpR h2 38 121 rfl fun w3 h3 => ?_
  refine z_cpR h3 40 123 rfl fun w4 h4 => ?_
  refine z_cpR h4 42 125 rfl fun w5 h5 => ?_
  exact ⟨w5, rfl, h5⟩
theorem z_rest_100_c (w : jw) : ∃ w', f_X9_copyFrom_17_100 w = some w' ∧ zcs [(46, 129), (44, 127), (42, 125), (40, 123), (38, 121), (36, 119), (33, 116), (31, 114), (29, 112), (27, 110), (25, 108), (23, 106), (21, 104), (19, 102)] [(35, 4, 118), (18, 8, 101)] w w' := by
  unfold f_X9_copyFrom_17_100
  refine z_cpB (w := w) (z_rest_100_a w) fun w1 h1 => z_cpB (w := w) (z_rest_100_b w w1 h1) fun w2 h2 => ?_
  refine z_cpR h2 44 127 rfl fun w3 h3 => ?_
  refine z_cpR h3 46 129 rfl fun w4 h4 => ?_
  exact ⟨w4, rfl, h4⟩
theorem z_rest_100 (w : jw) : ∃ w', f_X9_copyFrom_17_100 w = some w' ∧ w'.2.1 = w.2.1 ∧ w'.2.2.1 = w.2.2.1 ∧ (∀ a, a ≠ 18 → a ≠ 35 → w'.1 a = w.1 a) ∧ (∀ k, k < 19 ∨ 46 < k → w'.2.2.2 k = w.2.2.2 k) ∧ ∀ S, zCi S (zsh 83 w) → zCi S w' := by
  obtain ⟨w', e, h⟩ := z_rest_100_c w
  refine ⟨w', e, h.2.2.1, h.2.2.2, fun a a1 a2 => ?_, fun k hk => ?_, fun S hC => zCi_of ⟨h.2.1 18 8, h.2.1 35 4, h.1 19, h.1 21, h.1 23, h.1 25, h.1 27, h.1 29, h.1 31, h.1 33, h.1 36, h.1 38, h.1 40, h.1 42, h.1 44, h.1 46⟩ hC⟩
  · funext j
    rw [h.2.1 a j]
    simp only [zfe]
    rw [if_neg (show ¬ (a = 35 ∧ j = 4) from fun q => a2 q.1), if_neg (show ¬ (a = 18 ∧ j = 8) from fun q => a1 q.1)]
  · rw [h.1 k]
    simp only [zfd]
    rw [if_neg (show ¬ k = 46 by omega), if_neg (show ¬ k = 44 by omega), if_neg (show ¬ k = 42 by omega), if_neg (show ¬ k = 40 by omega), if_neg (show ¬ k = 38 by omega), if_neg (show ¬ k = 36 by omega), if_neg (show ¬ k = 33 by omega), if_neg (show ¬ k = 31 by omega), if_neg (show ¬ k = 29 by omega), if_neg (show ¬ k = 27 by omega), if_neg (show ¬ k = 25 by omega), if_neg (show ¬ k = 23 by omega), if_neg (show ¬ k = 21 by omega), if_neg (show ¬ k = 19 by omega)]
theorem z_hold_131_a (w : jw) : ∃ w', f_X6_copyFrom_131_17 w = some w' ∧ zcs [(147, 33), (145, 31), (143, 29), (141, 27), (139, 25), (137, 23), (135, 21), (133, 19)] [(132, 8, 18)] w w' := by
  unfold f_X6_copyFrom_131_17
  have h0 : zcs [] [] w w := ⟨fun _ => rfl, fun _ _ => rfl, rfl, rfl⟩
  refine z_cpI h0 132 8 18 rfl fun w1 h1 => ?_
  refine z_cpR h1 133 19 rfl fun w2 h2 => ?_
  refine z_cpR h2 135 21 rfl fun w3 h3 => ?_
  refine z_cpR h3 137 23 rfl fun w4 h4 => ?_
  refine z_cpR h4 139 25 rfl fun w5 h5 => ?_
  refine z_cpR h5 141 27 rfl fun w6 h6 => ?_
  refine z_cpR h6 143 29 rfl fun w7 h7 => ?_
  refine z_cpR h7 145 31 rfl fun w8 h8 => ?_
  refine z_cpR h8 147 33 rfl fun w9 h9 => ?_
  exact ⟨w9, rfl, h9⟩
theorem z_hold_131_b (w0 w : jw) (h0 : zcs [(147, 33), (145, 31), (143, 29), (141, 27), (139, 25), (137, 23), (135, 21), (133, 19)] [(132, 8, 18)] w0 w) : ∃ w', f_X2_copyFrom_131_17 w = some w' ∧ zcs [(156, 42), (154, 40), (152, 38), (150, 36), (147, 33), (145, 31), (143, 29), (141, 27), (139, 25), (137, 23), (135, 21), (133, 19)] [(149, 4, 35), (132, 8, 18)] w0 w' := by
  unfold f_X2_copyFrom_131_17
  refine z_cpI h0 149 4 35 rfl fun w1 h1 => ?_
  refine z_cpR h1 150 36 rfl fun w2 h2 => ?_
  refine z_cpR h2 152 38 rfl fun w3 h3 => ?_
  refine z_cpR h3 154 40 rfl fun w4 h4 => ?_
  refine z_cpR h4 156 42 rfl fun w5 h5 => ?_
  exact ⟨w5, rfl, h5⟩
theorem z_hold_131_c (w : jw) : ∃ w', f_X9_copyFrom_131_17 w = some w' ∧ zcs [(160, 46), (158, 44), (156, 42), (154, 40), (152, 38), (150, 36), (147, 33), (145, 31), (143, 29), (141, 27), (139, 25), (137, 23), (135, 21), (133, 19)] [(149, 4, 35), (132, 8, 18)] w w' := by
  unfold f_X9_copyFrom_131_17
  refine z_cpB (w := w) (z_hold_131_a w) fun w1 h1 => z_cpB (w := w) (z_hold_131_b w w1 h1) fun w2 h2 => ?_
  refine z_cpR h2 158 44 rfl fun w3 h3 => ?_
  refine z_cpR h3 160 46 rfl fun w4 h4 => ?_
  exact ⟨w4, rfl, h4⟩
theorem z_hold_131 (w : jw) : ∃ w', f_X9_copyFrom_131_17 w = some w' ∧ w'.2.1 = w.2.1 ∧ w'.2.2.1 = w.2.2.1 ∧ (∀ a, a ≠ 132 → a ≠ 149 → w'.1 a = w.1 a) ∧ (∀ k, k < 133 ∨ 160 < k → w'.2.2.2 k = w.2.2.2 k) ∧ ∀ S, zCi S w → zCi S (zsh 114 w') := by
  obtain ⟨w', e, h⟩ := z_hold_131_c w
  refine ⟨w', e, h.2.2.1, h.2.2.2, fun a a1 a2 => ?_, fun k hk => ?_, fun S hC => zCi_of ⟨h.2.1 132 8, h.2.1 149 4, h.1 133, h.1 135, h.1 137, h.1 139, h.1 141, h.1 143, h.1 145, h.1 147, h.1 150, h.1 152, h.1 154, h.1 156, h.1 158, h.1 160⟩ hC⟩
  · funext j
    rw [h.2.1 a j]
    simp only [zfe]
    rw [if_neg (show ¬ (a = 149 ∧ j = 4) from fun q => a2 q.1), if_neg (show ¬ (a = 132 ∧ j = 8) from fun q => a1 q.1)]
  · rw [h.1 k]
    simp only [zfd]
    rw [if_neg (show ¬ k = 160 by omega), if_neg (show ¬ k = 158 by omega), if_neg (show ¬ k = 156 by omega), if_neg (show ¬ k = 154 by omega), if_neg (show ¬ k = 152 by omega), if_neg (show ¬ k = 150 by omega), if_neg (show ¬ k = 147 by omega), if_neg (show ¬ k = 145 by omega), if_neg (show ¬ k = 143 by omega), if_neg (show ¬ k = 141 by omega), if_neg (show ¬ k = 139 by omega), if_neg (show ¬ k = 137 by omega), if_neg (show ¬ k = 135 by omega), if_neg (show ¬ k = 133 by omega)]
theorem z_rest_131_a (w : jw) : ∃ w', f_X6_copyFrom_17_131 w = some w' ∧ zcs [(33, 147), (31, 145), (29, 143), (27, 141), (25, 139), (23, 137), (21, 135), (19, 133)] [(18, 8, 132)] w w' := by
  unfold f_X6_copyFrom_17_131
  have h0 : zcs [] [] w w := ⟨fun _ => rfl, fun _ _ => rfl, rfl, rfl⟩
  refine z_cpI h0 18 8 132 rfl fun w1 h1 => ?_
  refine z_cpR h1 19 133 rfl fun w2 h2 => ?_
  refine z_cpR h2 21 135 rfl fun w3 h3 => ?_
  refine z_cpR h3 23 137 rfl fun w4 h4 => ?_
  refine z_cpR h4 25 139 rfl fun w5 h5 => ?_
  refine z_cpR h5 27 141 rfl fun w6 h6 => ?_
  refine z_cpR h6 29 143 rfl fun w7 h7 => ?_
  refine z_cpR h7 31 145 rfl fun w8 h8 => ?_
  refine z_cpR h8 33 147 rfl fun w9 h9 => ?_
  exact ⟨w9, rfl, h9⟩
theorem z_rest_131_b (w0 w : jw) (h0 : zcs [(33, 147), (31, 145), (29, 143), (27, 141), (25, 139), (23, 137), (21, 135), (19, 133)] [(18, 8, 132)] w0 w) : ∃ w', f_X2_copyFrom_17_131 w = some w' ∧ zcs [(42, 156), (40, 154), (38, 152), (36, 150), (33, 147), (31, 145), (29, 143), (27, 141), (25, 139), (23, 137), (21, 135), (19, 133)] [(35, 4, 149), (18, 8, 132)] w0 w' := by
  unfold f_X2_copyFrom_17_131
  refine z_cpI h0 35 4 149 rfl fun w1 h1 => ?_
  refine z_cpR h1 36 150 rfl fun w2 h2 => ?_
  refine z_cpR h2 38 152 rfl fun w3 h3 => ?_
  refine z_cpR h3 40 154 rfl fun w4 h4 => ?_
  refine z_cpR h4 42 156 rfl fun w5 h5 => ?_
  exact ⟨w5, rfl, h5⟩
theorem z_rest_131_c (w : jw) : ∃ w', f_X9_copyFrom_17_131 w = some w' ∧ zcs [(46, 160), (44, 158), (42, 156), (40, 154), (38, 152), (36, 150), (33, 147), (31, 145), (29, 143), (27, 141), (25, 139), (23, 137), (21, 135), (19, 133)] [(35, 4, 149), (18, 8, 132)] w w' := by
  unfold f_X9_copyFrom_17_131
  refine z_cpB (w := w) (z_rest_131_a w) fun w1 h1 => z_cpB (w := w) (z_rest_131_b w w1 h1) fun w2 h2 => ?_
  refine z_cpR h2 44 158 rfl fun w3 h3 => ?_
  refine z_cpR h3 46 160 rfl fun w4 h4 => ?_
  exact ⟨w4, rfl, h4⟩
theorem z_rest_131 (w : jw) : ∃ w', f_X9_copyFrom_17_131 w = some w' ∧ w'.2.1 = w.2.1 ∧ w'.2.2.1 = w.2.2.1 ∧ (∀ a, a ≠ 18 → a ≠ 35 → w'.1 a = w.1 a) ∧ (∀ k, k < 19 ∨ 46 < k → w'.2.2.2 k = w.2.2.2 k) ∧ ∀ S, zCi S (zsh 114 w) → zCi S w' := by
  obtain ⟨w', e, h⟩ := z_rest_131_c w
  refine ⟨w', e, h.2.2.1, h.2.2.2, fun a a1 a2 => ?_, fun k hk => ?_, fun S hC => zCi_of ⟨h.2.1 18 8, h.2.1 35 4, h.1 19, h.1 21, h.1 23, h.1 25, h.1 27, h.1 29, h.1 31, h.1 33, h.1 36, h.1 38, h.1 40, h.1 42, h.1 44, h.1 46⟩ hC⟩
  · funext j
    rw [h.2.1 a j]
    simp only [zfe]
    rw [if_neg (show ¬ (a = 35 ∧ j = 4) from fun q => a2 q.1), if_neg (show ¬ (a = 18 ∧ j = 8) from fun q => a1 q.1)]
  · rw [h.1 k]
    simp only [zfd]
    rw [if_neg (show ¬ k = 46 by omega), if_neg (show ¬ k = 44 by omega), if_neg (show ¬ k = 42 by omega), if_neg (show ¬ k = 40 by omega), if_neg (show ¬ k = 38 by omega), if_neg (show ¬ k = 36 by omega), if_neg (show ¬ k = 33 by omega), if_neg (show ¬ k = 31 by omega), if_neg (show ¬ k = 29 by omega), if_neg (show ¬ k = 27 by omega), if_neg (show ¬ k = 25 by omega), if_neg (show ¬ k = 23 by omega), if_neg (show ¬ k = 21 by omega), if_neg (show ¬ k = 19 by omega)]
end
