section
/-! read, on both sides -/
theorem z_empty (w : jw) : f_X11_emptySlots w = some (jsetI (jsetI (jsetI w 69 4 0) 100 4 0) 131 4 0) := by
  show l_X11_emptySlots (39996 + 1 + 1 + 1 + 1) 0 w = _
  rw [show l_X11_emptySlots (39996 + 1 + 1 + 1 + 1) 0 w = _ from by unfold l_X11_emptySlots; exact rfl]
  rw [if_neg (by decide), z_slot0, z_jbd2, if_neg (show ¬ jb true = 0 by decide), if_pos (by decide), z_jl, z_jl]
  show l_X11_emptySlots (39996 + 1 + 1 + 1) 1 (jsetI w 69 4 0) = _
  rw [show l_X11_emptySlots (39996 + 1 + 1 + 1) 1 (jsetI w 69 4 0) = _ from by unfold l_X11_emptySlots; exact rfl]
  rw [if_neg (by decide), z_slot1, z_jbd2, if_neg (show ¬ jb true = 0 by decide), if_neg (by decide), if_pos (by decide), z_jl, z_jl]
  show l_X11_emptySlots (39996 + 1 + 1) 2 (jsetI (jsetI w 69 4 0) 100 4 0) = _
  rw [show l_X11_emptySlots (39996 + 1 + 1) 2 (jsetI (jsetI w 69 4 0) 100 4 0) = _ from by unfold l_X11_emptySlots; exact rfl]
  rw [if_neg (by decide), z_slot2, z_jbd2, if_neg (show ¬ jb true = 0 by decide), if_neg (by decide), if_neg (by decide), if_pos (by decide), z_jl, z_jl]
  show l_X11_emptySlots (39996 + 1) 3 (jsetI (jsetI (jsetI w 69 4 0) 100 4 0) 131 4 0) = _
  rw [show l_X11_emptySlots (39996 + 1) 3 (jsetI (jsetI (jsetI w 69 4 0) 100 4 0) 131 4 0) = _ from by unfold l_X11_emptySlots; exact rfl]
  rw [if_pos (by decide)]
theorem z_r215 (nf : Nat) (b1 : Int32) (q : jw) : l_X12_read_215F nf jfu b1 0 q = jbd (l_X12_runs nf 0 0 0 (jsetX (jsetX (jsetX q 191 0 0) 191 1 0) 191 2 0)) fun q2 => some (0, q2) := by
  show l_X12_read_215F nf (39996 + 1 + 1 + 1 + 1) b1 0 q = _
  rw [show l_X12_read_215F nf (39996 + 1 + 1 + 1 + 1) b1 0 q = _ from by unfold l_X12_read_215F; exact rfl]
  rw [if_neg (by decide), z_jg (show jin 0 3 = true by decide), z_jl, z_jl]
  show l_X12_read_215F nf (39996 + 1 + 1 + 1) b1 1 (jsetX q 191 0 0) = _
  rw [show l_X12_read_215F nf (39996 + 1 + 1 + 1) b1 1 (jsetX q 191 0 0) = _ from by unfold l_X12_read_215F; exact rfl]
  rw [if_neg (by decide), z_jg (show jin 1 3 = true by decide), z_jl, z_jl]
  show l_X12_read_215F nf (39996 + 1 + 1) b1 2 (jsetX (jsetX q 191 0 0) 191 1 0) = _
  rw [show l_X12_read_215F nf (39996 + 1 + 1) b1 2 (jsetX (jsetX q 191 0 0) 191 1 0) = _ from by unfold l_X12_read_215F; exact rfl]
  rw [if_neg (by decide), z_jg (show jin 2 3 = true by decide), z_jl, z_jl]
  show l_X12_read_215F nf (39996 + 1) b1 3 (jsetX (jsetX (jsetX q 191 0 0) 191 1 0) 191 2 0) = _
  rw [show l_X12_read_215F nf (39996 + 1) b1 3 (jsetX (jsetX (jsetX q 191 0 0) 191 1 0) 191 2 0) = _ from by unfold l_X12_read_215F; exact rfl]
  rw [if_pos (by decide)]
/-- what reading leaves alone in the class -/
def zfYc (w w' : jw) : Prop := w'.1 162 = w.1 162 ∧ (∀ a, 69 ≤ a → a ≤ 161 → ∀ j, j ≠ 4 → w'.1 a j = w.1 a j) ∧ (∀ p, p ≠ 55 → p ≠ 56 → p ≠ 57 → w'.2.1 p = w.2.1 p) ∧ w'.2.2.1 = w.2.2.1 ∧ (∀ k, 69 ≤ k → k ≤ 161 → w'.2.2.2 k = w.2.2.2 k) ∧ w'.2.2.2 1 = []
def zfYm (u u' : jw) : Prop := u'.2.2.2 = u.2.2.2 ∧ (∀ a, a ≠ 162 → u'.1 a = u.1 a) ∧ u'.1 162 2 = 0 ∧ u'.2.1 192 = u.2.1 192 ∧ u'.2.1 163 = u.2.1 163 ∧ u'.2.2.1 169 = u.2.2.1 169
def zRdJ (w u : jw) : Prop := ∃ nf v w1 u2, f_X11_read w = some (v, w1) ∧ f_X12_readF nf u = some (v, u2) ∧ zfYc w w1 ∧ zfYm u u2 ∧ w1.1 0 9 = u2.1 162 17 ∧
  ((v ≠ 0 ∧ (∀ a, a ≠ 0 → a ≠ 10 → w1.1 a = w.1 a) ∧ (∀ j, j ≠ 9 → w1.1 0 j = w.1 0 j) ∧ (∀ k, 19 ≤ k → w1.2.2.2 k = w.2.2.2 k) ∧ u2.2.1 182 = u.2.1 182 ∧ u2.2.1 191 = u.2.1 191) ∨
  (v = 0 ∧ ∃ S', zIn S' ∧ zCi S' w1 ∧ zMi S' (u2.2.1 182) ∧ S'.2.2.2.2.length ≤ 401 ∧ w1.1 0 10 = u2.2.1 182 5 ∧ w1.1 0 11 = u2.2.1 182 6 ∧ (∀ i, i < 3 → w1.1 (69 + 31 * i) 4 = 0 ∧ u2.2.1 191 i = 0)))
theorem z_readJ {bs : List Int32} {w u : jw} (hb : w.2.2.2 1 = bs) (hl : bs.length ≤ 2000) (hx : ∀ x ∈ bs, x &&& 255 = x) (h2 : u.1 162 2 = nI bs.length) (h163 : ∀ (i : Nat) (x : Int32), bs[i]? = some x → u.2.1 163 i = (Int32.toInt8 x).toInt32) (hk : zKy u) : zRdJ w u := by
  have tk := zlxc_tok bs
  have pl := zlxc_Pl hl
  obtain ⟨wa, a1, a2, a3⟩ := z_lexC hl hx hb
  obtain ⟨wm, m1, m2, m3⟩ := z_readM hl hx h2 h163 hk
  have c0 : ∀ l : List Int32, rcut l 0 = [] := fun l => by unfold rcut; simp
  have cl : ∀ v, f_X7_parseAll wa = some v → f_X11_read w = if v.1 10 6 = 0 then jbd (f_X9_reset (v.1 10 8) (jsetI (jsetR v 1 []) 0 9 (v.1 10 7))) (fun q6 => jbd (f_X11_emptySlots q6) fun q7 => jbd (f_X11_tellAll q7) fun q8 => some (0, q8)) else some (v.1 10 6, jsetI (jsetR v 1 []) 0 9 (v.1 10 7)) := fun v hv => by
    unfold f_X11_read
    rw [a1, z_jbd, hv, z_jbd, c0, z_jl, z_jl]
    have e6 : (jsetI (jsetR v 1 []) 0 9 ((jsetR v 1 []).1 10 7)).1 10 6 = v.1 10 6 := by rw [z_jI2 (by decide)]; rfl
    have e8 : (jsetI (jsetR v 1 []) 0 9 ((jsetR v 1 []).1 10 7)).1 10 8 = v.1 10 8 := by rw [z_jI2 (by decide)]; rfl
    rw [e6, e8]
    rfl
  rcases z_parse tk pl a2 m2 with ⟨B, N, P, cb, v, wm', b1, b2, b3, b4, b5, b6, b7, b8, b9, b10, b11, b12⟩ | ⟨f, p, v, wm', b1, b2, b3, b4, b5, b6, b7, b8⟩
  · -- a good text
    obtain ⟨hg, hwc, hwm, h11, h13, hwr, hi, h2n, hs3, hC, hT, h00, h01⟩ := b8
    have hl1 := tk.2.1
    have hP : zPq (zlxc bs 401 0) N P := ⟨hg, hwm.2.2.2.2.2.2.2.2.2.2 b10, by omega, b9, hi, hwc.2.2.2.2.2.2⟩
    obtain ⟨q6, s1, s2, s3⟩ := z_resetC b6 (jsetI (jsetR v 1 []) 0 9 (v.1 10 7))
    obtain ⟨qb, t1, t2, t3, t4, t5⟩ := z_begM b6 (jsetI wm' 162 17 (-1))
    -- the class's world when the telling begins
    have ws : ∃ x, f_X11_tellAll (jsetI (jsetI (jsetI q6 69 4 0) 100 4 0) 131 4 0) = l_X11_tellAll jfu 0 x ∧ x.1 48 4 = nI (zbeg (zlxc bs 401 0)) ∧ x.1 48 5 = 0 ∧ x.2.2.2 49 = [] ∧ x.1 0 10 = 0 ∧ x.1 0 11 = 0 ∧ (∀ j, j ≠ 10 → j ≠ 11 → x.1 0 j = q6.1 0 j) ∧ (∀ a, a ≠ 0 → a ≠ 48 → a ≠ 69 → a ≠ 100 → a ≠ 131 → x.1 a = q6.1 a) ∧ (∀ i, i < 3 → x.1 (69 + 31 * i) 4 = 0) ∧ (∀ a, 69 ≤ a → ∀ j, j ≠ 4 → x.1 a j = q6.1 a j) ∧ x.2.1 = q6.2.1 ∧ x.2.2.1 = q6.2.2.1 ∧ ∀ k, k ≠ 49 → x.2.2.2 k = q6.2.2.2 k := by
      have r4 : rat ((jsetI (jsetI (jsetI (jsetI (jsetI q6 69 4 0) 100 4 0) 131 4 0) 0 10 0) 0 11 0).2.2.2 4) 0 = zkC (zt (zlxc bs 401 0) 0).1 := by
        show rat (q6.2.2.2 4) (nI 0) = _
        have : zTC (zlxc bs 401 0) q6 := by
          have e : ∀ k, k = 4 ∨ k = 6 ∨ k = 8 → q6.2.2.2 k = v.2.2.2 k := fun k hk => by rw [s3.2.2.2 k (by omega)]; exact z_jR2 (by omega)
          exact ⟨by rw [e 4 (by omega)]; exact hC.1, by rw [e 6 (by omega)]; exact hC.2.1, by rw [e 8 (by omega)]; exact hC.2.2⟩
        exact zTC_k this (by decide)
      have F : ∀ y : Int32, ∀ x, x = jsetR (jsetI (jsetI (jsetI (jsetI (jsetI (jsetI (jsetI q6 69 4 0) 100 4 0) 131 4 0) 0 10 0) 0 11 0) 48 4 y) 48 5 0) 49 [] → x.1 48 4 = y ∧ x.1 48 5 = 0 ∧ x.2.2.2 49 = [] ∧ x.1 0 10 = 0 ∧ x.1 0 11 = 0 ∧ (∀ j, j ≠ 10 → j ≠ 11 → x.1 0 j = q6.1 0 j) ∧ (∀ a, a ≠ 0 → a ≠ 48 → a ≠ 69 → a ≠ 100 → a ≠ 131 → x.1 a = q6.1 a) ∧ (∀ i, i < 3 → x.1 (69 + 31 * i) 4 = 0) ∧ (∀ a, 69 ≤ a → ∀ j, j ≠ 4 → x.1 a j = q6.1 a j) ∧ x.2.1 = q6.2.1 ∧ x.2.2.1 = q6.2.2.1 ∧ ∀ k, k ≠ 49 → x.2.2.2 k = q6.2.2.2 k := fun y x hx => by
        have g : ∀ a j, x.1 a j = if a = 48 ∧ j = 5 then 0 else if a = 48 ∧ j = 4 then y else if a = 0 ∧ j = 11 then 0 else if a = 0 ∧ j = 10 then 0 else if a = 131 ∧ j = 4 then 0 else if a = 100 ∧ j = 4 then 0 else if a = 69 ∧ j = 4 then 0 else q6.1 a j := fun a j => by rw [hx]; rfl
        refine ⟨by rw [g]; rfl, by rw [g]; rfl, by rw [hx]; rfl, by rw [g]; rfl, by rw [g]; rfl, fun j j1 j2 => ?_, fun a h1 h2 h3 h4 h5 => ?_, fun i hi => ?_, fun a ha j hj => ?_, by rw [hx]; rfl, by rw [hx]; rfl, fun k hk => by rw [hx]; exact z_jR2 hk⟩
        · rw [g, if_neg (by omega), if_neg (by omega), if_neg (by omega), if_neg (by omega), if_neg (by omega), if_neg (by omega), if_neg (by omega)]
        · funext j
          rw [g, if_neg (by omega), if_neg (by omega), if_neg (by omega), if_neg (by omega), if_neg (by omega), if_neg (by omega), if_neg (by omega)]
        · have : i = 0 ∨ i = 1 ∨ i = 2 := by omega
          rcases this with z | z | z <;> subst z <;> rw [g] <;> rfl
        · rw [g, if_neg (by omega), if_neg (by omega), if_neg (by omega), if_neg (by omega), if_neg (by omega), if_neg (by omega), if_neg (by omega)]
      have E : ∀ y, f_X10_start (jsetI (jsetI (jsetI (jsetI (jsetI q6 69 4 0) 100 4 0) 131 4 0) 0 10 0) 0 11 0) = some (jsetR (jsetI (jsetI (jsetI (jsetI (jsetI (jsetI (jsetI q6 69 4 0) 100 4 0) 131 4 0) 0 10 0) 0 11 0) 48 4 y) 48 5 0) 49 []) → f_X11_tellAll (jsetI (jsetI (jsetI q6 69 4 0) 100 4 0) 131 4 0) = l_X11_tellAll jfu 0 (jsetR (jsetI (jsetI (jsetI (jsetI (jsetI (jsetI (jsetI q6 69 4 0) 100 4 0) 131 4 0) 0 10 0) 0 11 0) 48 4 y) 48 5 0) 49 []) := fun y hy => by
        unfold f_X11_tellAll
        rw [z_jl, z_jl, hy, z_jbd]
      by_cases c : (zt (zlxc bs 401 0) 0).1 = kPage
      · refine ⟨_, E (nI 3) ?_, ?_⟩
        · unfold f_X10_start
          rw [r4, if_pos (by rw [c]; rfl), z_jl, z_jl, c0, z_jl]
          rfl
        · have := F (nI 3) _ rfl
          rwa [show nI (zbeg (zlxc bs 401 0)) = nI 3 from by unfold zbeg; rw [if_pos c]]
      · refine ⟨_, E (nI 0) ?_, ?_⟩
        · unfold f_X10_start
          rw [r4, if_neg (show ¬ zkC (zt (zlxc bs 401 0) 0).1 = 3 from fun z => c (zkC_eq.mp z)), z_jl, z_jl, c0, z_jl]
          rfl
        · have := F (nI 0) _ rfl
          rwa [show nI (zbeg (zlxc bs 401 0)) = nI 0 from by unfold zbeg; rw [if_neg c]]
    obtain ⟨x, e1, e2, e3, e4, e5, e6, e7, e8, e9, e10, e11, e12, e13⟩ := ws
    -- the two worlds at the start of the run
    have rows : ∀ k, (k < 19 ∨ 46 < k) → k ≠ 49 → k ≠ 1 → x.2.2.2 k = v.2.2.2 k := fun k k1 k2 k3 => by rw [e13 k k2, s3.2.2.2 k k1]; exact z_jR2 k3
    let um : jw := jsetX (jsetX (jsetX qb 191 0 0) 191 1 0) 191 2 0
    have um0 : ∀ p, p ≠ 182 → p ≠ 191 → um.2.1 p = wm'.2.1 p := fun p p1 p2 => by
      show (jsetX (jsetX (jsetX qb 191 0 0) 191 1 0) 191 2 0).2.1 p = _
      rw [z_jX2 p2, z_jX2 p2, z_jX2 p2, t5.2.2 p p1]; rfl
    have um182 : um.2.1 182 = qb.2.1 182 := by
      show (jsetX (jsetX (jsetX qb 191 0 0) 191 1 0) 191 2 0).2.1 182 = _
      rw [z_jX2 (by decide), z_jX2 (by decide), z_jX2 (by decide)]
    have um191 : ∀ i, i < 3 → um.2.1 191 i = 0 := fun i hi => by
      show (jsetX (jsetX (jsetX qb 191 0 0) 191 1 0) 191 2 0).2.1 191 i = 0
      rw [z_jX1, z_jX1, z_jX1]
      have : i = 0 ∨ i = 1 ∨ i = 2 := by omega
      rcases this with z | z | z <;> subst z <;> rfl
    have umI : um.1 = (jsetI wm' 162 17 (-1)).1 := t5.1
    have umL : um.2.2 = wm'.2.2 := by show qb.2.2 = _; rw [t5.2.1]; rfl
    have pm : zPm N P um := by
      obtain ⟨x1, x2, x3, x4, x5, x6, x7, x8, x9, x10, x11⟩ := hwm
      refine ⟨by rw [umI, zI_ne (by decide)]; exact x1, fun p hp => by rw [um0 170 (by decide) (by decide)]; exact x6 p hp, fun p hp s => ?_, fun p hp s => by rw [um0 171 (by decide) (by decide)]; exact x8 p hp s, fun p hp s => by rw [um0 174 (by decide) (by decide)]; exact x9 p hp s, by rw [um182, t3]; decide⟩
      obtain ⟨y1, y2, y3, y4, y5, y6⟩ := x7 p hp s
      have cm : ∀ f c, zCm f c wm' → zCm f c um := fun f c hc i z hz => by rw [um0 176 (by decide) (by decide), um0 177 (by decide) (by decide)]; exact hc i z hz
      exact ⟨by rw [um0 171 (by decide) (by decide)]; exact y1, by rw [um0 172 (by decide) (by decide)]; exact y2, by rw [um0 173 (by decide) (by decide)]; exact y3, cm _ _ y4, cm _ _ y5, by omega⟩
    have rn : zRn (zlxc bs 401 0) N P 0 [] 0 0 (zS0 B) x um := by
      refine ⟨⟨⟨⟨?_, ?_, ?_⟩, ?_, ?_⟩, by rw [h00]; exact e2, e4⟩, fun _ => ⟨pm, fun i y hy => by cases hy⟩, zIn_0 b5 b6, zCi_fr (fun a ha => e8 a (by omega) (by omega) (by omega) (by omega) (by omega)) (fun k k1 k2 => e13 k (by omega)) s2, by rw [um182]; exact t2, Nat.le_refl _, e5, by rw [um182]; exact t3, by rw [e6, um182, t4], e3.symm⟩
      · rw [rows 4 (by omega) (by decide) (by decide)]; exact hC.1
      · rw [rows 6 (by omega) (by decide) (by decide)]; exact hC.2.1
      · rw [rows 8 (by omega) (by decide) (by decide)]; exact hC.2.2
      · rw [rows 13 (by omega) (by decide) (by decide)]; exact hwc.2.2.2.1
      · rw [rows 15 (by omega) (by decide) (by decide)]; exact hwc.2.2.2.2.1
    obtain ⟨nf, w1, u2, S', g1, g2, g3, g4, g5, g6, g7, g8, g9, g10⟩ := z_run hP hl1 400 0 0 [] [] 0 (zS0 B) x um rfl (Nat.zero_le _) ⟨by have := hg.2.2.2.2.2.2.2.1 0 (Nat.zero_le _); omega, hg.2.2.2.2.2.2.2.2⟩ (fun d hd => by cases hd) rfl rn
    refine ⟨nf, 0, w1, u2, ?_, ?_, ⟨?_, fun a a1 a2 j hj => ?_, fun p p1 p2 p3 => ?_, ?_, fun k k1 k2 => ?_, ?_⟩, ⟨?_, fun a ha => ?_, ?_, ?_, ?_, ?_⟩, ?_, Or.inr ⟨rfl, S', g3, g4, g5, g6, g7, g8, fun i hi => ⟨?_, ?_⟩⟩⟩
    · rw [cl v b1, if_pos b2, b4, s1, z_jbd, z_empty, z_jbd, e1, show l_X11_tellAll jfu 0 x = _ from g1 jfu (by decide), z_jbd]
    · rw [m1, b7]
      unfold zRt
      rw [h13, if_pos (by decide), b10, if_pos (by decide), z_jbd, z_jl, show (jsetI wm' 162 17 (-1)).1 162 13 = 0 from by rw [zI_ne (by decide)]; exact h13, if_pos (by decide), show (jsetI wm' 162 17 (-1)).1 162 15 = 0 from by rw [zI_ne (by decide)]; exact b10, if_pos (by decide), t1, z_jbd, z_r215]
      rw [show l_X12_runs nf 0 0 0 (jsetX (jsetX (jsetX qb 191 0 0) 191 1 0) 191 2 0) = _ from g2, z_jbd]
    · rw [g9.1 162 (by decide) (by decide) (by decide) (by decide) (by decide), e8 162 (by decide) (by decide) (by decide) (by decide) (by decide), s3.1 162 (by decide) (by decide), z_jI2 (by decide)]
      show v.1 162 = _
      rw [b11.1 162 (by decide), a3.1]
    · rw [g9.1 a (by omega) (by omega) (by omega) (by omega) (by omega), e10 a a1 j hj, s3.1 a (by omega) (by omega), z_jI2 (by omega)]
      show v.1 a j = _
      rw [b11.1 a (by omega), a3.1]
    · rw [g9.2.2.1 p p1 p2 p3, e11, s3.2.1]
      show v.2.1 p = _
      rw [b11.2.1, a3.2.1]
    · rw [g9.2.2.2.1, e12, s3.2.2.1]
      show v.2.2.1 = _
      rw [b11.2.2.1, a3.2.2.1]
    · rw [g9.2.2.2.2 k (by omega), rows k (by omega) (by omega) (by omega), b11.2.2.2 k (by omega) (by omega) (by omega), a3.2.2.2 k (by omega) (by omega) (by omega)]
    · rw [g9.2.2.2.2 1 (by omega), e13 1 (by decide), s3.2.2.2 1 (by omega)]
      exact z_jR1 _ _ _
    · rw [show u2.2.2.2 = um.2.2.2 from by rw [g10.1], umL, show wm'.2.2.2 = wm.2.2.2 from by rw [b12.1], m3.1]
    · rw [g10.2.1 a ha, umI, z_jI2 ha, b12.2.1 a ha, m3.2.1 a ha]
    · rw [g10.2.2.1 2 (by decide) (by decide), umI, zI_ne (by decide), b12.2.2.1, m3.2.2.1]
    · rw [g10.2.2.2 192 (by omega), um0 192 (by decide) (by decide), b12.2.2.2.2 192 (by omega), m3.2.2.2.2.1 192 (by decide) (by decide) (by decide) (by decide)]
    · rw [g10.2.2.2 163 (by omega), um0 163 (by decide) (by decide), b12.2.2.2.2 163 (by omega), m3.2.2.2.2.1 163 (by decide) (by decide) (by decide) (by decide)]
    · rw [show u2.2.2.1 = um.2.2.1 from by rw [g10.1], umL, show wm'.2.2.1 = wm.2.2.1 from by rw [b12.1], m3.2.2.2.2.2 169 (by decide)]
    · rw [g9.2.1 9 (by decide) (by decide), e7 9 (by decide) (by decide), s3.1 0 (by decide) (by decide), zI_eq, b3, g10.2.2.1 17 (by decide) (by decide), umI, zI_eq]
    · rw [g9.1 _ (by omega) (by omega) (by omega) (by omega) (by omega)]
      exact e9 i hi
    · rw [g10.2.2.2 191 (by omega)]
      exact um191 i hi
  · -- a fault
    refine ⟨0, f, jsetI (jsetR v 1 []) 0 9 (v.1 10 7), wm', ?_, by rw [m1, b5], ⟨?_, fun a a1 a2 j _ => ?_, fun p _ _ _ => ?_, ?_, fun k k1 k2 => ?_, z_jR1 _ _ _⟩, ⟨?_, fun a ha => ?_, ?_, ?_, ?_, ?_⟩, by rw [zI_eq, b4, b6], Or.inl ⟨b1, fun a h1 h2 => ?_, fun j hj => ?_, fun k hk => ?_, ?_, ?_⟩⟩
    · rw [cl v b2, if_neg (by rw [b3]; exact b1), b3]
    · rw [z_jI2 (by decide)]; show v.1 162 = _; rw [b7.1 162 (by decide), a3.1]
    · rw [z_jI2 (by omega)]; show v.1 a j = _; rw [b7.1 a (by omega), a3.1]
    · show v.2.1 p = _; rw [b7.2.1, a3.2.1]
    · show v.2.2.1 = _; rw [b7.2.2.1, a3.2.2.1]
    · rw [show (jsetI (jsetR v 1 []) 0 9 (v.1 10 7)).2.2.2 k = v.2.2.2 k from z_jR2 (by omega), b7.2.2.2 k (by omega) (by omega) (by omega), a3.2.2.2 k (by omega) (by omega) (by omega)]
    · rw [show wm'.2.2.2 = wm.2.2.2 from by rw [b8.1], m3.1]
    · rw [b8.2.1 a ha, m3.2.1 a ha]
    · rw [b8.2.2.1, m3.2.2.1]
    · rw [b8.2.2.2 192 (by omega), m3.2.2.2.2.1 192 (by decide) (by decide) (by decide) (by decide)]
    · rw [b8.2.2.2 163 (by omega), m3.2.2.2.2.1 163 (by decide) (by decide) (by decide) (by decide)]
    · rw [show wm'.2.2.1 = wm.2.2.1 from by rw [b8.1], m3.2.2.2.2.2 169 (by decide)]
    · rw [z_jI2 h1]; show v.1 a = _; rw [b7.1 a h2, a3.1]
    · rw [zI_ne hj]; show v.1 0 j = _; rw [b7.1 0 (by decide), a3.1]
    · rw [show (jsetI (jsetR v 1 []) 0 9 (v.1 10 7)).2.2.2 k = v.2.2.2 k from z_jR2 (by omega), b7.2.2.2 k (by omega) (by omega) (by omega), a3.2.2.2 k (by omega) (by omega) (by omega)]
    · rw [b8.2.2.2 182 (by omega), m3.2.2.2.2.1 182 (by decide) (by decide) (by decide) (by decide)]
    · rw [b8.2.2.2 191 (by omega), m3.2.2.2.2.1 191 (by decide) (by decide) (by decide) (by decide)]
end
