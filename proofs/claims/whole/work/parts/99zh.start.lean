section
/-! the world behind both makers -/
theorem z_start : ∃ wc w : jw, f_X9_reset_c 8 jw0 = some wc ∧ f_X12_tail (jwj wc) = some w ∧ zTop 401 (zS0 8) w := by
  obtain ⟨wc, c1, c2, c3, c4, c5, c6⟩ := z_resetK (B := 8) (by decide) rfl jw0
  obtain ⟨w, t1, t2, t3, t4, t5, t6, t7, t8⟩ := z_tail (jwj wc)
  refine ⟨wc, w, c1, t1, ?_⟩
  have eI : ∀ a, a < 162 → w.1 a = wc.1 a := fun a ha => by
    rw [t5]
    funext j
    show (if a < 162 then wc.1 a j else _) = _
    rw [if_pos ha]
  have eM : ∀ j, w.1 162 j = if j = 17 then -1 else 0 := fun j => by
    rw [t5]
    show (if (162 : Nat) < 162 then wc.1 162 j else if (162 : Nat) = 162 ∧ j = 17 then (-1 : Int32) else 0) = _
    rw [if_neg (by decide)]
    simp
  have eR : w.2.2.2 = wc.2.2.2 := t6
  have e0 : ∀ j, w.1 0 j = if j = 9 then -1 else 0 := fun j => by
    rw [eI 0 (by decide), c3 0 (by decide) (by decide)]
    show (if (0 : Nat) = 0 ∧ j = 9 then (-1 : Int32) else (jgo 0 j).2) = _
    by_cases g : j = 9
    · rw [if_pos ⟨rfl, g⟩, if_pos g]
    · rw [if_neg (fun z => g z.2), if_neg g]
      show (if kd 0 = some (0, 6) ∧ j = 8 then (8 : Int32) else 0) = 0
      rw [if_neg (fun z => absurd z.1 (by decide +kernel))]
  have eS : ∀ i, i < 3 → w.1 (69 + 31 * i) 4 = 0 := fun i hi => by
    rw [eI _ (by omega), c3 _ (by omega) (by omega)]
    show (if (69 + 31 * i) = 0 ∧ 4 = 9 then (-1 : Int32) else (if kd (69 + 31 * i) = some (0, 6) ∧ 4 = 8 then (8 : Int32) else 0)) = 0
    rw [if_neg (fun z => absurd z.2 (by decide)), if_neg (fun z => absurd z.2 (by decide))]
  have eX : w.2.1 191 = fun _ => 0 := by
    rw [t7 191 (by decide)]
    rfl
  have r1 : w.2.2.2 1 = [] := by
    rw [eR, c6 1 (by omega)]
    rfl
  obtain ⟨d1, d2, d3⟩ := c2
  refine ⟨zIn_0 (by decide) (by decide), (by show 1 ≤ 401; decide), ⟨?_, ?_, ?_⟩, t2, ⟨by rw [r1]; decide, by rw [r1, eM]; rfl, fun i x hx => by rw [r1] at hx; cases hx⟩, ?_, ?_, ?_, fun i hi => ⟨by rw [eS i hi, eX], fun q => absurd (by rw [eX]) q⟩, t8⟩
  · unfold zCw at d1 ⊢
    rw [eI 18 (by decide), eR]
    exact d1
  · unfold zCr at d2 ⊢
    rw [eR]
    exact d2
  · unfold zCh at d3 ⊢
    rw [eI 35 (by decide), eR]
    exact d3
  · rw [e0, t3]; rfl
  · rw [e0, t4]; rfl
  · rw [e0, eM]; rfl
end
