section
/-! a put or a cut told and done, on both sides -/
theorem zSm_56 {N N' : Nat → Int32} {a : Nat} {es : List zE} (h : ∀ q, q ≠ 5 → q ≠ 6 → N' q = N q) (ha : 7 ≤ a) (hM : zSm N a es) : zSm N' a es := fun i e he => by
  obtain ⟨r1, r2, r3, r4⟩ := hM i e he
  exact ⟨by rw [h _ (by omega) (by omega)]; exact r1, by rw [h _ (by omega) (by omega)]; exact r2, by rw [h _ (by omega) (by omega)]; exact r3, by rw [h _ (by omega) (by omega)]; exact r4⟩
theorem zMi_56 {S : zS} {N N' : Nat → Int32} (h : ∀ q, q ≠ 5 → q ≠ 6 → N' q = N q) (hM : zMi S N) : zMi S N' := by
  obtain ⟨⟨a1, a2, a3, a4⟩, ⟨b1, b2⟩, ⟨c1, c2, c3, c4⟩, d⟩ := hM
  refine ⟨⟨by rw [h _ (by omega) (by omega)]; exact a1, by rw [h _ (by omega) (by omega)]; exact a2, a3, fun p hp => ?_⟩, ⟨by rw [h _ (by omega) (by omega)]; exact b1, fun i q hq => ?_⟩, ⟨zSm_56 h (by omega) c1, by rw [h _ (by omega) (by omega)]; exact c2, by rw [h _ (by omega) (by omega)]; exact c3, fun k hk => by rw [h _ (by omega) (by omega)]; exact c4 k hk⟩, by rw [h _ (by omega) (by omega)]; exact d⟩
  · obtain ⟨e1, e2, e3, e4, e5, e6⟩ := a4 p hp
    exact ⟨by rw [h _ (by omega) (by omega)]; exact e1, by rw [h _ (by omega) (by omega)]; exact e2, by rw [h _ (by omega) (by omega)]; exact e3, by rw [h _ (by omega) (by omega)]; exact e4, e5, zSm_56 h (by omega) e6⟩
  · rw [h _ (by omega) (by omega), h _ (by omega) (by omega)]
    exact b2 i q hq
/-- either whole operation, as it is told -/
theorem z_doPut {S : zS} {k : Nat} {v : Int32} {w wm : jw} (hI : zIn S) (hl : S.2.2.2.2.length ≤ 2900) (hk : k < 1000) (hC : zCi S w) (hM : zMi S (wm.2.1 182)) : ∃ S' b w' wm', f_X1_bring (nI k) v w = some (b, w') ∧ f_X12_puts (nI k) v wm = some (b, wm') ∧ zIn S' ∧ S'.2.2.2.2.length ≤ S.2.2.2.2.length + 1 ∧ zCi S' w' ∧ zMi S' (wm'.2.1 182) ∧ zfC w w' ∧ zfM wm wm' := by
  by_cases c : S.2.1 < 280
  · obtain ⟨S', w', wm', e1, e2, e3, e4, e5, e6, e7, e8, e9⟩ := z_PUT (v := v) hI c hl hk hC hM
    exact ⟨S', true, w', wm', e1, e2, e3, by rw [e5, zhap_len]; exact Nat.le_refl _, e6, e7, e8, e9⟩
  · obtain ⟨e1, e2⟩ := z_PUT0 (k := k) (v := v) (by omega) hI hC hM
    exact ⟨S, false, w, wm, e1, e2, hI, by omega, hC, hM, zfC_rfl w, zfM_rfl wm⟩
theorem z_doCut {S : zS} {k : Nat} {w wm : jw} (hI : zIn S) (hl : S.2.2.2.2.length ≤ 2900) (hk : k < 1000) (hC : zCi S w) (hM : zMi S (wm.2.1 182)) : ∃ S' b w' wm', f_X1_drop (nI k) w = some (b, w') ∧ f_X12_cuts (nI k) wm = some (b, wm') ∧ zIn S' ∧ S'.2.2.2.2.length ≤ S.2.2.2.2.length + 1 ∧ zCi S' w' ∧ zMi S' (wm'.2.1 182) ∧ zfC w w' ∧ zfM wm wm' := by
  have no : (280 ≤ S.2.1 ∨ zlf S.2.2.2.2 (nI k) (S.2.2.2.2.length - 1) = none) → ∃ S' b w' wm', f_X1_drop (nI k) w = some (b, w') ∧ f_X12_cuts (nI k) wm = some (b, wm') ∧ zIn S' ∧ S'.2.2.2.2.length ≤ S.2.2.2.2.length + 1 ∧ zCi S' w' ∧ zMi S' (wm'.2.1 182) ∧ zfC w w' ∧ zfM wm wm' := fun hn => by
    obtain ⟨e1, e2⟩ := z_CUT0 hI hl hk hn hC hM
    exact ⟨S, false, w, wm, e1, e2, hI, by omega, hC, hM, zfC_rfl w, zfM_rfl wm⟩
  by_cases c : S.2.1 < 280
  · cases hz : zlf S.2.2.2.2 (nI k) (S.2.2.2.2.length - 1) with
    | none => exact no (Or.inr hz)
    | some f0 =>
      obtain ⟨S', w', wm', e1, e2, e3, e4, e5, e6, e7, e8, e9⟩ := z_CUT hI c hl hk hz hC hM
      exact ⟨S', true, w', wm', e1, e2, e3, by rw [e5, zhap_len]; exact Nat.le_refl _, e6, e7, e8, e9⟩
  · exact no (Or.inl (by omega))
def zTl (w4 : jw) : Option jw := if (w4.1 48 6) = 4 then jbd2 (f_X1_bring (w4.1 48 7) (w4.1 48 8) w4) fun x17 w18 => jl (jb x17 : Int32) fun x19 => jl (jsetI w18 0 10 ((w18.1 0 10) + 1)) fun w20 => (if x19 = 0 then jl (jsetI w20 0 11 ((w20.1 0 11) + 1)) fun w23 => some w23 else some w20) else jbd2 (f_X1_drop (w4.1 48 7) w4) fun x8 w9 => jl (jb x8 : Int32) fun x10 => jl (jsetI w9 0 10 ((w9.1 0 10) + 1)) fun w11 => (if x10 = 0 then jl (jsetI w11 0 11 ((w11.1 0 11) + 1)) fun w14 => some w14 else some w11)
/-- the state of a run, on both sides -/
def zRn (T : List zT) (N : Nat) (P : zPrg) (k : Nat) (rr : List Int32) (l : Int32) (b : Nat) (S : zS) (w wm : jw) : Prop := zCs T N P k rr w ∧ (b < 400 → zMs N P rr wm) ∧ zIn S ∧ zCi S w ∧ zMi S (wm.2.1 182) ∧ S.2.2.2.2.length ≤ b + 1 ∧ w.1 0 10 = nI b ∧ wm.2.1 182 5 = nI b ∧ w.1 0 11 = wm.2.1 182 6 ∧ l = w.1 48 5
/-- what a run leaves alone -/
def zfRc (w w' : jw) : Prop := (∀ a, a ≠ 0 → a ≠ 35 → a ≠ 48 → a ≠ 51 → a ≠ 54 → w'.1 a = w.1 a) ∧ (∀ j, j ≠ 10 → j ≠ 11 → w'.1 0 j = w.1 0 j) ∧ (∀ p, p ≠ 55 → p ≠ 56 → p ≠ 57 → w'.2.1 p = w.2.1 p) ∧ w'.2.2.1 = w.2.2.1 ∧ ∀ k, (k < 19 ∨ 52 < k) → w'.2.2.2 k = w.2.2.2 k
def zfRm (w w' : jw) : Prop := w'.2.2 = w.2.2 ∧ (∀ a, a ≠ 162 → w'.1 a = w.1 a) ∧ (∀ j, j ≠ 36 → j ≠ 37 → w'.1 162 j = w.1 162 j) ∧ ∀ p, (p < 179 ∨ 186 < p) → w'.2.1 p = w.2.1 p
theorem zfRc_trans {a b c : jw} (h : zfRc a b) (g : zfRc b c) : zfRc a c := ⟨fun x h1 h2 h3 h4 h5 => (g.1 x h1 h2 h3 h4 h5).trans (h.1 x h1 h2 h3 h4 h5), fun j h1 h2 => (g.2.1 j h1 h2).trans (h.2.1 j h1 h2), fun p h1 h2 h3 => (g.2.2.1 p h1 h2 h3).trans (h.2.2.1 p h1 h2 h3), g.2.2.2.1.trans h.2.2.2.1, fun k hk => (g.2.2.2.2 k hk).trans (h.2.2.2.2 k hk)⟩
theorem zfRm_trans {a b c : jw} (h : zfRm a b) (g : zfRm b c) : zfRm a c := ⟨g.1.trans h.1, fun x h1 => (g.2.1 x h1).trans (h.2.1 x h1), fun j h1 h2 => (g.2.2.1 j h1 h2).trans (h.2.2.1 j h1 h2), fun p hp => (g.2.2.2 p hp).trans (h.2.2.2 p hp)⟩
theorem zfRc_rfl (w : jw) : zfRc w w := ⟨fun _ _ _ _ _ _ => rfl, fun _ _ _ => rfl, fun _ _ _ _ => rfl, rfl, fun _ _ => rfl⟩
theorem zfRm_rfl (w : jw) : zfRm w w := ⟨rfl, fun _ _ => rfl, fun _ _ _ => rfl, fun _ _ => rfl⟩
theorem zfRc_go {w w' : jw} (f : zfGo w w') : zfRc w w' := ⟨fun a _ _ h3 _ _ => f.1 a h3, fun j _ _ => by rw [f.1 0 (by decide)], fun p _ _ _ => by rw [f.2.2.1], f.2.2.2.1, fun k hk => f.2.2.2.2 k (by omega)⟩
theorem zfRm_181 {w w' : jw} {d : Nat} (f : zf181 d w w') : zfRm w w' := ⟨f.2.1, fun a _ => by rw [f.1], fun j _ _ => by rw [f.1], fun p hp => f.2.2.1 p (by omega)⟩
variable {T : List zT} {N : Nat} {P : zPrg}
theorem z_actBoth (hP : zPq T N P) (hl : T.length ≤ 401) {k b : Nat} {rr : List Int32} {l : Int32} {S : zS} {w wm : jw} (hr : rr.length ≤ 3) (hb : b < 400) (hk : k < N) (s : qso P k ≤ 1) (h : zRn T N P k rr l b S w wm) (c : Nat) (hc : c < 10000) : ∃ w1 w2 wm2 l2 S2, (∀ n, l_X10_goOn (n + 1) (nI c) w = some (true, w1)) ∧ zTl w1 = some w2 ∧ zRe k rr.length l wm (k + 1) rr.length l2 wm2 ∧ zRn T N P (k + 1) rr l2 (b + 1) S2 w2 wm2 ∧ zfRc w w2 ∧ zfRm wm wm2 := by
  obtain ⟨h1, h2, h3, h4, h5, h6, h7, h8, h9, h10⟩ := h
  have hm := h2 hb
  have hN := hP.2.2.1
  obtain ⟨w1, g1, g2, g3, g4, g5, g6, g7, g8⟩ := zg_act hP hl h1 hk s hc
  have l0 := zHi_len h3.2
  obtain ⟨w34, v1, v2, v3⟩ := z_vars (k := k) (s5 := nI (qso P k)) hr hm h4 h5 l0 h1.2.2 h10
  obtain ⟨κ, κ1, κ2, κ3⟩ := z_key0 (zvl (zenv w) (qc1 P k))
  rw [κ2] at g3
  obtain ⟨p1, p2, p3, p4, p5, p6⟩ := hm.1
  obtain ⟨a1, a2, a3, a4, a5, a6⟩ := p3 k hk s
  have cd : zCd (qc1 P k) ∧ (qso P k = 0 → zCd (qc2 P k)) := by
    rcases hP.1.1 k hk with z | z | ⟨z, _⟩
    · obtain ⟨_, _, ⟨j1, j2, x1, x2, _⟩, _⟩ := z
      exact ⟨x1.1, fun s0 => by
        rcases x2 with ⟨_, y⟩ | ⟨y, _⟩
        · exact y.1
        · omega⟩
    · have := z.1; omega
    · have := z.1; omega
  have hC1 : zCi S w1 := zCi_fr (fun a ha => g7 a (by omega)) (fun j _ _ => by rw [g8]) h4
  have cmf : ∀ (v : jw) f cc, (∀ p, 170 ≤ p → p ≤ 178 → v.2.1 p = wm.2.1 p) → zCm f cc wm → zCm f cc v := fun v f cc hv hcm i x hx => by rw [hv 176 (by decide) (by decide), hv 177 (by decide) (by decide)]; exact hcm i x hx
  have k34 : ∀ p, p ≠ 179 → w34.2.1 p = wm.2.1 p := fun p hp => v3.2.2 p hp
  obtain ⟨w39, t1, t2⟩ := z_term (env := zenv w) (w := w34) (f := qcf P k) cd.1 (by omega) (by omega) (cmf w34 _ _ (fun p _ p2 => k34 p (by omega)) a4) v2
  have k39 : ∀ p, p ≠ 179 → p ≠ 180 → w39.2.1 p = wm.2.1 p := fun p q1 q2 => by rw [t2.2.2 p q2, k34 p q1]
  have gk : jin (nI k) 210 = true := z_in (by omega) (by decide)
  -- the second term
  have tm2 : ∃ x44 w45, (if nI (qso P k) = 0 then jg (jin (nI k) 210) (jg (jin (nI k) 210) (jbd2 (f_X12_termOf (w39.2.1 172 k) (w39.2.1 173 k) w39) fun x70 w71 => some (x70, w71))) else some ((0 : Int32), w39)) = some (x44, w45) ∧ (qso P k = 0 → x44 = zvl (zenv w) (qc2 P k)) ∧ zfA 180 w39 w45 := by
    by_cases s0 : qso P k = 0
    · obtain ⟨w45, u1, u2⟩ := z_term (env := zenv w) (w := w39) (f := qcf P k + (qc1 P k).length) (cd.2 s0) (by omega) (by omega) (cmf w39 _ _ (fun p _ p2 => k39 p (by omega) (by omega)) a5) (fun j hj => by rw [t2.2.2 179 (by decide)]; exact v2 j hj)
      refine ⟨zvl (zenv w) (qc2 P k), w45, ?_, fun _ => rfl, u2⟩
      rw [if_pos (by rw [s0]; rfl), z_jg gk, z_jg gk, k39 172 (by decide) (by decide), k39 173 (by decide) (by decide), a2, a3, u1, z_jbd2]
    · exact ⟨0, w39, by rw [if_neg (show ¬ nI (qso P k) = 0 from fun z => s0 ((nI_eq (a := qso P k) (b := 0) (by omega) (by decide)).mp z))], fun z => absurd z s0, zfA_rfl 180 w39⟩
  obtain ⟨x44, w45, u1, u2, u3⟩ := tm2
  have k45 : ∀ p, p ≠ 179 → p ≠ 180 → w45.2.1 p = wm.2.1 p := fun p q1 q2 => by rw [u3.2.2 p q2, k39 p q1 q2]
  have e45 : w45.1 = wm.1 ∧ w45.2.2 = wm.2.2 := ⟨by rw [u3.1, t2.1, v3.1], by rw [u3.2.1, t2.2.1, v3.2.1]⟩
  have hM52 : zMi S ((jsetX w45 182 5 (nI (b + 1))).2.1 182) := by
    rw [z_jX1, k45 182 (by decide) (by decide)]
    exact zMi_56 (fun q q5 _ => zup_ne q5) h5
  have ay : zAx k (nI rr.length) l wm (nI (qso P k)) = jbd2 (if nI (qso P k) = 0 then jbd2 (f_X12_puts (nI κ) x44 (jsetX w45 182 5 (nI (b + 1)))) fun x65 w66 => some (jb x65, w66) else jbd2 (f_X12_cuts (nI κ) (jsetX w45 182 5 (nI (b + 1)))) fun x62 w63 => some (jb x62, w63)) fun x54 w55 => (if x54 = 0 then jg (jin 6 34700) (jg (jin 6 34700) (jl (jsetX w55 182 (Int32.toNatClampNeg 6) ((w55.2.1 182 (Int32.toNatClampNeg 6)) + 1)) fun w60 => some (nI k, nI rr.length, (if nI (qso P k) = 0 then nI κ else l), w60))) else some (nI k, nI rr.length, (if nI (qso P k) = 0 then nI κ else l), w55)) := by
    rw [v1]
    unfold zAy
    rw [z_jg gk, z_jg gk, k34 171 (by decide), k34 172 (by decide), a1, a2, t1, z_jbd2, κ3, z_jbd2, u1, z_jbd2]
    rw [show (if nI (qso P k) = 0 then some (nI κ) else some l) = some (if nI (qso P k) = 0 then nI κ else l) from by split <;> rfl, z_jbd, z_jg (show jin 5 34700 = true by decide), z_jg (show jin 5 34700 = true by decide), show w45.2.1 182 (Int32.toNatClampNeg 5) = nI b from by rw [k45 182 (by decide) (by decide)]; exact h8, nI_1, z_jl]
    rfl
  -- both operations
  have both : ∃ S' bb w' wm', (if (w1.1 48 6) = 4 then f_X1_bring (w1.1 48 7) (w1.1 48 8) w1 else f_X1_drop (w1.1 48 7) w1) = some (bb, w') ∧ (if nI (qso P k) = 0 then jbd2 (f_X12_puts (nI κ) x44 (jsetX w45 182 5 (nI (b + 1)))) fun x65 w66 => some (jb x65, w66) else jbd2 (f_X12_cuts (nI κ) (jsetX w45 182 5 (nI (b + 1)))) fun x62 w63 => some (jb x62, w63)) = some (jb bb, wm') ∧ zIn S' ∧ S'.2.2.2.2.length ≤ S.2.2.2.2.length + 1 ∧ zCi S' w' ∧ zMi S' (wm'.2.1 182) ∧ zfC w1 w' ∧ zfM (jsetX w45 182 5 (nI (b + 1))) wm' := by
    by_cases s0 : qso P k = 0
    · obtain ⟨S', bb, w', wm', e1, e2, e3, e4, e5, e6, e7, e8⟩ := z_doPut (v := x44) h3 (by omega) κ1 hC1 hM52
      refine ⟨S', bb, w', wm', ?_, by rw [if_pos (by rw [s0]; rfl), e2, z_jbd2], e3, e4, e5, e6, e7, e8⟩
      rw [g2, if_pos s0, if_pos rfl, g3, (g4 s0).1, ← u2 s0]
      exact e1
    · obtain ⟨S', bb, w', wm', e1, e2, e3, e4, e5, e6, e7, e8⟩ := z_doCut h3 (by omega) κ1 hC1 hM52
      refine ⟨S', bb, w', wm', ?_, by rw [if_neg (show ¬ nI (qso P k) = 0 from fun z => s0 ((nI_eq (a := qso P k) (b := 0) (by omega) (by decide)).mp z)), e2, z_jbd2], e3, e4, e5, e6, e7, e8⟩
      rw [g2, if_neg s0, if_neg (by decide), g3]
      exact e1
  obtain ⟨S', bb, w', wm', e1, e2, e3, e4, e5, e6, e7, e8⟩ := both
  have i0 : w'.1 0 = w.1 0 := by rw [e7.1 0 (by decide) (by decide) (by decide), g7 0 (by decide)]
  have tl : zTl w1 = some (if bb = true then jsetI w' 0 10 (nI (b + 1)) else jsetI (jsetI w' 0 10 (nI (b + 1))) 0 11 (w.1 0 11 + 1)) := by
    have mid : ∀ f : Option (Bool × jw), f = some (bb, w') → (jbd2 f fun x17 w18 => jl (jb x17 : Int32) fun x19 => jl (jsetI w18 0 10 ((w18.1 0 10) + 1)) fun w20 => (if x19 = 0 then jl (jsetI w20 0 11 ((w20.1 0 11) + 1)) fun w23 => some w23 else some w20)) = some (if bb = true then jsetI w' 0 10 (nI (b + 1)) else jsetI (jsetI w' 0 10 (nI (b + 1))) 0 11 (w.1 0 11 + 1)) := fun f hf => by
      rw [hf, z_jbd2, z_jl, z_jl, i0, h7, nI_1]
      cases bb with
      | true => rw [if_neg (show ¬ jb true = 0 by decide), if_pos rfl]
      | false => rw [if_pos (show jb false = 0 from rfl), if_neg (by decide), z_jl, show (jsetI w' 0 10 (nI (b + 1))).1 0 11 = w.1 0 11 from by rw [zI_ne (by decide), i0]]
    unfold zTl
    by_cases c4 : w1.1 48 6 = 4
    · rw [if_pos c4] at e1 ⊢
      exact mid _ e1
    · rw [if_neg c4] at e1 ⊢
      exact mid _ e1
  have q56 : wm'.2.1 182 5 = nI (b + 1) ∧ wm'.2.1 182 6 = wm.2.1 182 6 := by
    refine ⟨by rw [e8.2.2.2.2.1, z_jX1, zup_eq], ?_⟩
    rw [e8.2.2.2.2.2, z_jX1, zup_ne (by decide), k45 182 (by decide) (by decide)]
  let wmf : jw := if bb = true then wm' else jsetX wm' 182 6 (wm.2.1 182 6 + 1)
  have ax : zAx k (nI rr.length) l wm (nI (qso P k)) = some (nI k, nI rr.length, (if nI (qso P k) = 0 then nI κ else l), wmf) := by
    rw [ay, e2, z_jbd2]
    show _ = some (nI k, nI rr.length, (if nI (qso P k) = 0 then nI κ else l), if bb = true then wm' else jsetX wm' 182 6 (wm.2.1 182 6 + 1))
    cases bb with
    | true => rw [if_neg (show ¬ jb true = 0 by decide), if_pos rfl]
    | false =>
      rw [if_pos (show jb false = 0 from rfl), z_jg (show jin 6 34700 = true by decide), z_jg (show jin 6 34700 = true by decide), z_jl, if_neg (show ¬ (false = true) by decide), show wm'.2.1 182 (Int32.toNatClampNeg 6) = wm.2.1 182 6 from q56.2]
      rfl
  have wmk : ∀ p, (p < 179 ∨ 186 < p ∨ p = 181) → wmf.2.1 p = wm.2.1 p := fun p hp => by
    have b0 : wm'.2.1 p = wm.2.1 p := by rw [e8.2.2.2.1 p (by omega) (by omega) (by omega) (by omega) (by omega), z_jX2 (by omega), k45 p (by omega) (by omega)]
    show (if bb = true then wm' else jsetX wm' 182 6 (wm.2.1 182 6 + 1)).2.1 p = _
    cases bb with
    | true => rw [if_pos rfl]; exact b0
    | false => rw [if_neg (by decide), z_jX2 (by omega)]; exact b0
  have wmi : wmf.1 = wm'.1 ∧ wmf.2.2 = wm'.2.2 := by
    show (if bb = true then wm' else jsetX wm' 182 6 (wm.2.1 182 6 + 1)).1 = _ ∧ (if bb = true then wm' else jsetX wm' 182 6 (wm.2.1 182 6 + 1)).2.2 = _
    cases bb <;> exact ⟨rfl, rfl⟩
  have wm182 : (∀ q, q ≠ 6 → wmf.2.1 182 q = wm'.2.1 182 q) ∧ wmf.2.1 182 6 = if bb = true then wm.2.1 182 6 else wm.2.1 182 6 + 1 := by
    show (∀ q, q ≠ 6 → (if bb = true then wm' else jsetX wm' 182 6 (wm.2.1 182 6 + 1)).2.1 182 q = _) ∧ (if bb = true then wm' else jsetX wm' 182 6 (wm.2.1 182 6 + 1)).2.1 182 6 = _
    cases bb with
    | true => exact ⟨fun q _ => by rw [if_pos rfl], by rw [if_pos rfl, if_pos rfl]; exact q56.2⟩
    | false => exact ⟨fun q hq => by rw [if_neg (by decide), z_jX1, zup_ne hq], by rw [if_neg (by decide), if_neg (by decide), z_jX1, zup_eq]⟩
  let wcf : jw := if bb = true then jsetI w' 0 10 (nI (b + 1)) else jsetI (jsetI w' 0 10 (nI (b + 1))) 0 11 (w.1 0 11 + 1)
  have wc0 : wcf.2 = w'.2 ∧ (∀ a, a ≠ 0 → wcf.1 a = w'.1 a) ∧ wcf.1 0 10 = nI (b + 1) ∧ wcf.1 0 11 = (if bb = true then w.1 0 11 else w.1 0 11 + 1) ∧ ∀ j, j ≠ 10 → j ≠ 11 → wcf.1 0 j = w.1 0 j := by
    show (if bb = true then jsetI w' 0 10 (nI (b + 1)) else jsetI (jsetI w' 0 10 (nI (b + 1))) 0 11 (w.1 0 11 + 1)).2 = _ ∧ (∀ a, a ≠ 0 → (if bb = true then jsetI w' 0 10 (nI (b + 1)) else jsetI (jsetI w' 0 10 (nI (b + 1))) 0 11 (w.1 0 11 + 1)).1 a = _) ∧ (if bb = true then jsetI w' 0 10 (nI (b + 1)) else jsetI (jsetI w' 0 10 (nI (b + 1))) 0 11 (w.1 0 11 + 1)).1 0 10 = _ ∧ (if bb = true then jsetI w' 0 10 (nI (b + 1)) else jsetI (jsetI w' 0 10 (nI (b + 1))) 0 11 (w.1 0 11 + 1)).1 0 11 = _ ∧ ∀ j, j ≠ 10 → j ≠ 11 → (if bb = true then jsetI w' 0 10 (nI (b + 1)) else jsetI (jsetI w' 0 10 (nI (b + 1))) 0 11 (w.1 0 11 + 1)).1 0 j = _
    cases bb with
    | true => exact ⟨rfl, fun a ha => by rw [if_pos rfl, z_jI2 ha], by rw [if_pos rfl, zI_eq], by rw [if_pos rfl, if_pos rfl, zI_ne (by decide), i0], fun j j1 j2 => by rw [if_pos rfl, zI_ne j1, i0]⟩
    | false => exact ⟨rfl, fun a ha => by rw [if_neg (by decide), z_jI2 ha, z_jI2 ha], by rw [if_neg (by decide), zI_ne (by decide), zI_eq], by rw [if_neg (by decide), if_neg (by decide), zI_eq], fun j j1 j2 => by rw [if_neg (by decide), zI_ne j2, zI_ne j1, i0]⟩
  have r' : ∀ j, (j < 19 ∨ 52 < j ∨ j = 49) → wcf.2.2.2 j = w.2.2.2 j := fun j hj => by
    rw [wc0.1, e7.2.2.2 j (by omega) (by omega) (by omega) (by omega) (by omega) (by omega) (by omega) (by omega), g8]
  have i48 : wcf.1 48 = w1.1 48 := by rw [wc0.2.1 48 (by decide), e7.1 48 (by decide) (by decide) (by decide)]
  refine ⟨w1, wcf, wmf, (if nI (qso P k) = 0 then nI κ else l), S', g1, tl, ⟨1, fun n => ?_⟩, ⟨⟨zPcl_fr h1.1 (fun j hj => r' j (by omega)), by rw [i48]; exact g6.2.1, by rw [r' 49 (by omega)]; exact h1.2.2⟩, fun hb1 => ⟨zPm_fr hm.1 ?_ (fun p _ p2 => wmk p (by omega)) ?_, fun i x hx => by rw [wmk 181 (by omega)]; exact hm.2 i x hx⟩, e3, zCi_fr (fun a ha => wc0.2.1 a (by omega)) (fun j _ _ => by rw [wc0.1]) e5, ?_, by omega, wc0.2.2.1, by rw [wm182.1 5 (by decide)]; exact q56.1, by rw [wc0.2.2.2.1, wm182.2, h9], ?_⟩, ⟨fun a h1 h2 h3 h4 h5 => ?_, wc0.2.2.2.2, fun p h1 h2 h3 => ?_, ?_, fun j hj => r' j (by omega)⟩, ⟨?_, fun a ha => ?_, fun j j1 j2 => ?_, fun p hp => wmk p (by omega)⟩⟩
  · rw [z_rn0 hm.1 hN hk, if_neg (show ¬ nI (qso P k) = 2 from z_nn (a := qso P k) (b := 2) (by omega) (by omega) (by decide)), if_neg (show ¬ nI (qso P k) = 3 from z_nn (a := qso P k) (b := 3) (by omega) (by omega) (by decide)), ax, z_jbd4, nI_1]
  · rw [wmi.1, e8.2.2.1 18 (by decide) (by decide)]; show w45.1 162 18 = _; rw [e45.1]
  · rw [wm182.1 5 (by decide), q56.1]; exact nI_lt (b := 400) hb1 (by decide)
  · refine zMi_56 (fun q _ q6 => wm182.1 q q6) e6
  · by_cases s0 : qso P k = 0
    · rw [if_pos (by rw [s0]; rfl), i48, (g4 s0).2, g3]
    · rw [if_neg (show ¬ nI (qso P k) = 0 from fun z => s0 ((nI_eq (a := qso P k) (b := 0) (by omega) (by decide)).mp z)), i48, g5 (by omega)]; exact h10
  · rw [wc0.2.1 a h1, e7.1 a h2 h4 h5, g7 a h3]
  · rw [wc0.1, e7.2.1 p h1 h2 h3, g8]
  · rw [wc0.1, e7.2.2.1, g8]
  · rw [wmi.2, e8.1]; show w45.2.2 = _; exact e45.2
  · rw [wmi.1, e8.2.1 a ha]; show w45.1 a = _; rw [e45.1]
  · rw [wmi.1, e8.2.2.1 j j1 j2]; show w45.1 162 j = _; rw [e45.1]
end
