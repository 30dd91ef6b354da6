section
/-! read: places of tokens; the reference up to its parsing -/
theorem ztk_pl (bs : List Int32) (p : Nat) : (ztk bs p).1.2.1 = nI p := by
  unfold ztk
  split
  · rfl
  · split
    · rfl
    · split <;> rfl
theorem zlxc_pl (bs : List Int32) : ∀ (m i : Nat), i ≤ bs.length → ∃ f : Nat → Nat, (∀ j, j < (zlxc bs m i).length → (zt (zlxc bs m i) j).2.1 = nI (f j) ∧ i ≤ f j ∧ f j ≤ bs.length) ∧ ∀ a b, a < b → b < (zlxc bs m i).length → f a < f b := by
  intro m
  induction m with
  | zero => intro i _; exact ⟨fun _ => 0, (fun j hj => absurd hj (Nat.not_lt_zero j)), fun a b _ hb => absurd hb (Nat.not_lt_zero b)⟩
  | succ m ih =>
    intro i hi
    have p1 := zrn_ge zBl bs i
    have p2 := zrn_le (f := zBl) hi
    by_cases c : (ztk bs (zrn zBl bs i)).1.1 = kStop ∨ (ztk bs (zrn zBl bs i)).1.1 = kNo
    · have e : zlxc bs (m + 1) i = [(ztk bs (zrn zBl bs i)).1] := by rw [zlxc, if_pos c]
      rw [e]
      refine ⟨fun _ => zrn zBl bs i, fun j hj => ?_, fun a b h1 h2 => ?_⟩
      · have : j = 0 := by simp at hj; omega
        subst this
        exact ⟨ztk_pl bs _, p1, p2⟩
      · simp at h2; omega
    · have e : zlxc bs (m + 1) i = (ztk bs (zrn zBl bs i)).1 :: zlxc bs m (ztk bs (zrn zBl bs i)).2 := by rw [zlxc, if_neg c]
      have nn := ztk_n (bs := bs) (p := zrn zBl bs i) (by omega)
      have ns : (ztk bs (zrn zBl bs i)).1.1 ≠ kStop := fun z => c (Or.inl z)
      obtain ⟨f, f1, f2⟩ := ih (ztk bs (zrn zBl bs i)).2 (nn.2.1 ns)
      rw [e]
      refine ⟨fun j => if j = 0 then zrn zBl bs i else f (j - 1), fun j hj => ?_, fun a b h1 h2 => ?_⟩
      · rw [List.length_cons] at hj
        cases j with
        | zero => exact ⟨ztk_pl bs _, p1, p2⟩
        | succ j =>
          have := f1 j (by omega)
          exact ⟨this.1, by show i ≤ f j; have := nn.1; omega, this.2.2⟩
      · rw [List.length_cons] at h2
        obtain ⟨b', rfl⟩ : ∃ b', b = b' + 1 := ⟨b - 1, by omega⟩
        cases a with
        | zero =>
          show zrn zBl bs i < f b'
          have := (f1 b' (by omega)).2.1
          have := nn.1
          omega
        | succ a =>
          show f a < f b'
          exact f2 a b' (by omega) (by omega)
theorem zlxc_Pl {bs : List Int32} (hl : bs.length ≤ 2000) : zPl (zlxc bs 401 0) := by
  obtain ⟨f, f1, f2⟩ := zlxc_pl bs 401 0 (by omega)
  exact ⟨f, fun j hj => ⟨(f1 j hj).1, by have := (f1 j hj).2.2; omega⟩, f2⟩
theorem z_b255 : ∀ k : Fin 256, (Int32.toInt8 ((Int32.toInt8 (nI k.1)).toInt32)).toInt32 &&& 255 = nI k.1 := by decide +kernel
theorem z_b25 {x : Int32} (h : x &&& 255 = x) : (Int32.toInt8 ((Int32.toInt8 x).toInt32)).toInt32 &&& 255 = x := by
  obtain ⟨k, k1, k2⟩ := z_255 h
  rw [k2]
  exact z_b255 ⟨k, k1⟩
/-- the reference's text, once copied -/
def zr47 (nf : Nat) (w : jw) : Option (Int32 × jw) := jl (jsetI w 162 2 0) fun w39 => jbd (f_X12_cutsUp w39) fun q40 => jl (jsetI q40 162 11 0) fun w41 => jl (jsetI w41 162 12 0) fun w42 => jl (jsetI w42 162 13 0) fun w43 => jl (jsetI w43 162 15 0) fun w44 => jl (jsetI w44 162 18 0) fun w45 => jl (jsetI w45 162 24 0) fun w46 => jl (jsetI w46 162 26 0) fun w47 => zrP nf w47
theorem z_r10 {L : Nat} (hL : L ≤ 2000) : ∀ (d n j : Nat) (u : jw), j + d = L → d < n → u.1 162 4 = nI L → ∃ u', (∀ nf, l_X12_read_10F nf n (nI j) u = zr47 nf u') ∧ zfA 164 u u' ∧ ∀ q, u'.2.1 164 q = if j ≤ q ∧ q < L then (Int32.toInt8 (u.2.1 163 q)).toInt32 else u.2.1 164 q := by
  intro d
  induction d with
  | zero =>
    intro n j u h1 h2 h4
    obtain ⟨n, rfl⟩ : ∃ k, n = k + 1 := ⟨n - 1, by omega⟩
    refine ⟨u, fun nf => ?_, zfA_rfl 164 u, fun q => by rw [if_neg (by omega)]⟩
    rw [show l_X12_read_10F nf (n + 1) (nI j) u = _ from by unfold l_X12_read_10F; exact rfl]
    rw [h4, if_pos (nI_le (by omega) (by omega))]
    rfl
  | succ d ih =>
    intro n j u h1 h2 h4
    obtain ⟨n, rfl⟩ : ∃ k, n = k + 1 := ⟨n - 1, by omega⟩
    obtain ⟨u', r1, r2, r3⟩ := ih n (j + 1) (jsetX u 164 j ((Int32.toInt8 (u.2.1 163 j)).toInt32)) (by omega) (by omega) h4
    refine ⟨u', fun nf => ?_, zfA_trans (zfA_X u 164 _ _) r2, fun q => ?_⟩
    · rw [show l_X12_read_10F nf (n + 1) (nI j) u = _ from by unfold l_X12_read_10F; exact rfl]
      rw [h4, if_neg (nI_ge (by omega) (by omega)), z_jg (z_in (by omega) (by decide)), z_jg (z_in (by omega) (by decide)), nI_clamp (by omega), z_jl, z_jl, nI_1]
      exact r1 nf
    · rw [r3 q, z_jX1, z_jX2 (by decide)]
      by_cases c : q = j
      · rw [c, zup_eq, if_neg (by omega), if_pos (by omega)]
      · rw [zup_ne c]
        by_cases k : j + 1 ≤ q ∧ q < L
        · rw [if_pos k, if_pos (by omega)]
        · rw [if_neg k, if_neg (by omega)]
/-- what reading leaves alone in the reference, up to parsing -/
def zfRd (w w' : jw) : Prop := w'.2.2.2 = w.2.2.2 ∧ (∀ a, a ≠ 162 → w'.1 a = w.1 a) ∧ w'.1 162 2 = 0 ∧ w'.1 162 17 = w.1 162 17 ∧ (∀ p, p ≠ 164 → p ≠ 165 → p ≠ 166 → p ≠ 167 → w'.2.1 p = w.2.1 p) ∧ ∀ p, p ≠ 168 → w'.2.2.1 p = w.2.2.1 p
theorem z_readM {bs : List Int32} {u : jw} (hl : bs.length ≤ 2000) (hx : ∀ x ∈ bs, x &&& 255 = x) (h2 : u.1 162 2 = nI bs.length) (h163 : ∀ (i : Nat) (x : Int32), bs[i]? = some x → u.2.1 163 i = (Int32.toInt8 x).toInt32) (hk : zKy u) : ∃ wm, (∀ nf, f_X12_readF nf u = zrP nf wm) ∧ zR0 (zlxc bs 401 0) wm ∧ zfRd u wm := by
  obtain ⟨u1, r1, r2, r3⟩ := z_r10 hl bs.length jfu 0 (jsetI u 162 4 (u.1 162 2)) (by omega) (show _ < 40000 by omega) (by rw [zI_eq]; exact h2)
  have tx : zTx bs (jsetI u1 162 2 0) := by
    refine ⟨?_, fun i x hi => ?_⟩
    · rw [zI_ne (by decide), r2.1, zI_eq]; exact h2
    · have il : i < bs.length := (List.getElem?_eq_some_iff.mp hi).1
      show u1.2.1 164 i &&& 255 = x
      rw [r3 i, if_pos (by omega), show (jsetI u 162 4 (u.1 162 2)).2.1 163 i = (Int32.toInt8 x).toInt32 from h163 i x hi]
      exact z_b25 (hx x (List.mem_of_getElem? hi))
  have ky : zKy (jsetI u1 162 2 0) := fun i hi => by
    show u1.2.2.1 169 i = _
    rw [r2.2.1]; exact hk i hi
  obtain ⟨q, c1, c2, c3⟩ := z_lexR hl tx ky
  obtain ⟨r, hr⟩ := zlx_pre bs 401 0
  have trx : zTRx (zlxc bs 401 0) q := fun i x hx => by
    have il := (List.getElem?_eq_some_iff.mp hx).1
    exact c2.2 i x (by rw [← hr, List.getElem?_append_left il]; exact hx)
  refine ⟨jsetI (jsetI (jsetI (jsetI (jsetI (jsetI (jsetI q 162 11 0) 162 12 0) 162 13 0) 162 15 0) 162 18 0) 162 24 0) 162 26 0, fun nf => ?_, ⟨?_, ?_, ?_, ?_, ?_, ?_, zI_eq _ _ _ _, trx⟩, ⟨?_, fun a ha => ?_, ?_, ?_, fun p p1 p2 p3 p4 => ?_, fun p hp => ?_⟩⟩
  · show jl (jsetI u 162 4 (u.1 162 2)) (fun w61 => l_X12_read_10F nf jfu 0 w61) = _
    rw [z_jl, show l_X12_read_10F nf jfu 0 (jsetI u 162 4 (u.1 162 2)) = _ from r1 nf]
    unfold zr47
    rw [z_jl, c1, z_jbd, z_jl, z_jl, z_jl, z_jl, z_jl, z_jl, z_jl]
  · rw [zI_ne (by decide), zI_ne (by decide), zI_ne (by decide), zI_ne (by decide), zI_ne (by decide), zI_ne (by decide), zI_eq]
  · rw [zI_ne (by decide), zI_ne (by decide), zI_ne (by decide), zI_ne (by decide), zI_ne (by decide), zI_eq]
  · rw [zI_ne (by decide), zI_ne (by decide), zI_ne (by decide), zI_ne (by decide), zI_eq]
  · rw [zI_ne (by decide), zI_ne (by decide), zI_ne (by decide), zI_eq]
  · rw [zI_ne (by decide), zI_ne (by decide), zI_eq]
  · rw [zI_ne (by decide), zI_eq]
  · show q.2.2.2 = _
    rw [c3.1]; show u1.2.2.2 = _; rw [r2.2.1]; rfl
  · rw [z_jI2 ha, z_jI2 ha, z_jI2 ha, z_jI2 ha, z_jI2 ha, z_jI2 ha, z_jI2 ha, c3.2.1 a ha, z_jI2 ha, r2.1, z_jI2 ha]
  · rw [zI_ne (by decide), zI_ne (by decide), zI_ne (by decide), zI_ne (by decide), zI_ne (by decide), zI_ne (by decide), zI_ne (by decide), c3.2.2.1 2 (by decide), zI_eq]
  · rw [zI_ne (by decide), zI_ne (by decide), zI_ne (by decide), zI_ne (by decide), zI_ne (by decide), zI_ne (by decide), zI_ne (by decide), c3.2.2.1 17 (by decide), zI_ne (by decide), r2.1, zI_ne (by decide)]
  · show q.2.1 p = _
    rw [c3.2.2.2.1 p p2 p3 p4]; show u1.2.1 p = _; rw [r2.2.2 p p1]; rfl
  · show q.2.2.1 p = _
    rw [c3.2.2.2.2 p hp]; show u1.2.2.1 p = _; rw [r2.2.1]; rfl
end
