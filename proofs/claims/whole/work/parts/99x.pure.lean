section
/-! the start: an empty index -/
def zpg0 : Nat → zP := zup (fun _ => (0, 0, 0, [])) 0 (1, 0, -2, [])
def zS0 (B : Nat) : zS := (B, 1, zpg0, [(0, nI 0)], [(0, -1, 0, 0)])
theorem zpg00 : zpg0 0 = (1, 0, -2, []) := rfl
theorem zIn_0 {B : Nat} (h6 : 6 ≤ B) (h12 : B ≤ 12) : zIn (zS0 B) := by
  have x0 : ∀ x, x < 1 → x = 0 := fun x hx => by omega
  have wf : ∀ A : Nat → Prop, A 0 → (∀ x, A x → x < 1) → ∀ L : Nat → List zE, L 0 = [] → zWf A L (zKd zpg0) 0 (fun _ => 0) (fun _ => 1000) (fun _ => 0) := fun A A0 A1 L L0 => by
    refine ⟨A0, rfl, rfl, fun x hx => Or.inr (x0 x (A1 x hx)), fun x y hx hy _ => Or.inl (by rw [x0 x (A1 x hx), x0 y (A1 y hy)]), fun x hx => ?_⟩
    rw [x0 x (A1 x hx)]
    refine ⟨by decide, by decide, by decide, ?_, by decide, ?_, fun e he => ?_, fun z => absurd rfl z⟩
    · show (zpg0 0).1 = _
      rw [zpg00, if_pos rfl]
    · rw [L0]; exact List.nodup_nil
    · rw [L0] at he; cases he
  have lv : ∀ f : zE → Bool, (zpg0 0).2.2.2.filter f = [] := fun f => by rw [zpg00]; rfl
  refine ⟨⟨h6, h12, by show 0 < 100000; decide, by show 1 ≤ 320; decide, Nat.le_refl _, ⟨(0, nI 0), rfl, rfl⟩, fun x hx => ?_, ⟨0, fun _ => 0, fun _ => 1000, fun _ => 0, [], 0, wf _ ⟨by show 0 < 1; decide, by rw [show (zS0 B).2.2.1 = zpg0 from rfl, zpg00]⟩ (fun x hx => hx.1) _ (lv _), ?_, rfl, (by decide : (0 : Int32) ≤ nI 0)⟩, fun τ hτ => ?_⟩, rfl, by show 1 < 100000; decide, fun i h h1 h2 => ?_, fun i h h1 h2 => ?_⟩
  · rw [x0 x hx, show (zS0 B).2.2.1 0 = (1, 0, -2, []) from rfl]
    exact ⟨Nat.zero_le _, (fun (e : zE) (he : e ∈ ([] : List zE)) => by cases he), (by decide : (0 : Int32) ≤ nI 0), Or.inl rfl⟩
  · show zba 0 + zcc 0 * min ((zLv zpg0 0).length - 2) 3 + zsm 1 (zcr B zpg0 0 (fun _ => 0)) ≤ 1
    have : zsm 1 (zcr B zpg0 0 (fun _ => 0)) = 0 := by
      show 0 + zcr B zpg0 0 (fun _ => 0) 0 = 0
      unfold zcr
      rw [if_neg (fun z => z.2.1 rfl)]
    rw [this, show zcc 0 = 0 from rfl, Nat.zero_mul]
    decide
  · have t0 : τ = 0 := by
      have : τ ≤ 0 := hτ
      omega
    rw [t0]
    exact ⟨0, fun _ => 0, fun _ => 1000, fun _ => 0, wf _ ⟨by show 0 < 1; decide, by rw [show (zS0 B).2.2.1 = zpg0 from rfl, zpg00]; decide, Or.inl (by rw [show (zS0 B).2.2.1 = zpg0 from rfl, zpg00])⟩ (fun x hx => hx.1) _ (lv _), by decide, (by decide : zrt [(0, nI 0)] (nI 0) = nI 0)⟩
  · have : i < 1 := (List.getElem?_eq_some_iff.mp h2).1
    omega
  · have il : i < 1 := (List.getElem?_eq_some_iff.mp h1).1
    have i0 : i = 0 := by omega
    subst i0
    cases h1
    exact absurd h2 (by decide)
/-- what a new beginning changes in the class -/
def zfRs (w w' : jw) : Prop := (∀ a, a ≠ 18 → a ≠ 35 → w'.1 a = w.1 a) ∧ w'.2.1 = w.2.1 ∧ w'.2.2.1 = w.2.2.1 ∧ ∀ k, (k < 19 ∨ 46 < k) → w'.2.2.2 k = w.2.2.2 k
theorem z_resetC {B : Nat} (h12 : B ≤ 12) (w : jw) : ∃ w', f_X9_reset (nI B) w = some w' ∧ zCi (zS0 B) w' ∧ zfRs w w' := by
  have c0 : ∀ l : List Int32, rcut l 0 = [] := fun l => by unfold rcut; simp
  have r6 : ∃ v, f_X6_reset (nI B) w = some v ∧ zCw B 0 (fun _ => (0, 0, 0, [])) v ∧ zfRs w v := by
    refine ⟨jsetR (jsetR (jsetR (jsetR (jsetR (jsetR (jsetR (jsetR (jsetI w 18 8 (nI B)) 19 []) 21 []) 23 []) 25 []) 27 []) 29 []) 31 []) 33 [], ?_, ⟨?_, ?_⟩, ⟨fun a h1 _ => by show (jsetI w 18 8 (nI B)).1 a = _; rw [z_jI2 h1], rfl, rfl, fun k hk => ?_⟩⟩
    · unfold f_X6_reset
      rw [z_jl, c0, z_jl, c0, z_jl, c0, z_jl, c0, z_jl, c0, z_jl, c0, z_jl, c0, z_jl, c0, z_jl]
    · show (jsetI w 18 8 (nI B)).1 18 8 = _
      rw [zI_eq]
    · refine ⟨rfl, rfl, rfl, rfl, ?_, ?_, ?_, ?_, fun p hp => by omega⟩ <;> rw [Nat.zero_mul] <;> rfl
    · rw [z_jR2 (by omega), z_jR2 (by omega), z_jR2 (by omega), z_jR2 (by omega), z_jR2 (by omega), z_jR2 (by omega), z_jR2 (by omega), z_jR2 (by omega)]; rfl
  obtain ⟨v, r1, r2, r3⟩ := r6
  unfold f_X9_reset
  rw [r1, z_jbd]
  have r5 : ∃ u, (jbd (f_X2_reset v) fun q2 => jl (jsetR q2 44 (rcut (q2.2.2.2 44) 0)) fun w3 => jl (jsetR w3 46 (rcut (w3.2.2.2 46) 0)) fun w4 => some w4) = some u ∧ zCw B 0 (fun _ => (0, 0, 0, [])) u ∧ zCh [(0, -1, 0, 0)] u ∧ u.2.2.2 44 = [] ∧ u.2.2.2 46 = [] ∧ zfRs w u := by
    refine ⟨jsetR (jsetR (jsetR (jsetR (jsetR (jsetR (jsetI v 35 4 0) 36 (List.replicate 1 (-1))) 38 (List.replicate 1 0)) 40 (List.replicate 1 0)) 42 (List.replicate 1 0)) 44 []) 46 [], ?_, ⟨?_, r2.2⟩, ⟨rfl, rfl, rfl, rfl, ?_⟩, rfl, rfl, ⟨fun a h1 h2 => ?_, r3.2.1, r3.2.2.1, fun k hk => ?_⟩⟩
    · unfold f_X2_reset
      rw [z_jl, z_jl, z_jl, z_jl, z_jl, z_jbd, c0, z_jl, c0, z_jl]
    · show (jsetI v 35 4 0).1 18 8 = _
      rw [z_jI2 (by decide)]; exact r2.1
    · show (jsetI v 35 4 0).1 35 4 = _
      rw [zI_eq]; rfl
    · show (jsetI v 35 4 0).1 a = _
      rw [z_jI2 h2]; exact r3.1 a h1 h2
    · rw [z_jR2 (by omega), z_jR2 (by omega), z_jR2 (by omega), z_jR2 (by omega), z_jR2 (by omega), z_jR2 (by omega)]; exact r3.2.2.2 k hk
  obtain ⟨u, s1, s2, s3, s4, s5, s6⟩ := r5
  obtain ⟨v2, hv2⟩ : ∃ v2, f_X2_reset v = some v2 := ⟨_, rfl⟩
  rw [hv2, z_jbd, z_jl, z_jl] at s1
  rw [hv2, z_jbd, z_jl, z_jl]
  have su := Option.some.inj s1
  rw [su]
  obtain ⟨w7, o1, o2, o3⟩ := z_open (P := 0) 1 0 s2 h12 (by omega) (by omega)
  rw [o1, z_jbd2]
  unfold f_X9_addRoot
  have f44 : w7.2.2.2 44 = [] := by rw [o2.2.2.2 44 (by omega)]; exact s4
  have f46 : w7.2.2.2 46 = [] := by rw [o2.2.2.2 46 (by omega)]; exact s5
  rw [f44, z_jg (by rfl), z_jl, z_jR2 (show 46 ≠ 44 by decide), f46, z_jg (by rfl), z_jl, z_jbd]
  refine ⟨_, rfl, ⟨o3, ⟨rfl, rfl⟩, ⟨?_, ?_, ?_, ?_, ?_⟩⟩, ⟨fun a h1 h2 => ?_, ?_, ?_, fun k hk => ?_⟩⟩
  · rw [z_jR2 (by decide), z_jR2 (by decide), o2.2.2.2 36 (by omega)]; exact s3.1
  · rw [z_jR2 (by decide), z_jR2 (by decide), o2.2.2.2 38 (by omega)]; exact s3.2.1
  · rw [z_jR2 (by decide), z_jR2 (by decide), o2.2.2.2 40 (by omega)]; exact s3.2.2.1
  · rw [z_jR2 (by decide), z_jR2 (by decide), o2.2.2.2 42 (by omega)]; exact s3.2.2.2.1
  · show w7.1 35 4 = _; rw [o2.1]; exact s3.2.2.2.2
  · show w7.1 a = _; rw [o2.1]; exact s6.1 a h1 h2
  · show w7.2.1 = _; rw [o2.2.1]; exact s6.2.1
  · show w7.2.2.1 = _; rw [o2.2.2.1]; exact s6.2.2.1
  · rw [z_jR2 (by omega), z_jR2 (by omega), o2.2.2.2 k (by omega)]; exact s6.2.2.2 k hk
end
