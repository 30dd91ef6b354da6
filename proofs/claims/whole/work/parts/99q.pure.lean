section
/-! runs: rounds that begin nothing -/
variable {T : List zT} {N : Nat} {P : zPrg} {w : jw} {k d : Nat} {l : Int32}
theorem z_jbd4 {α β γ δ ε : Type} (a : α) (b : γ) (c : δ) (e : ε) (f : α → γ → δ → ε → Option β) : jbd4 (some (a, b, c, e)) f = f a b c e := rfl
theorem z_nn {a b : Nat} (h : a ≠ b) (ha : a < 2 ^ 31) (hb : b < 2 ^ 31) : ¬ nI a = nI b := fun z => h ((nI_eq ha hb).mp z)
theorem zPq_do (hP : zPq T N P) (hk : k < N) (s : qso P k = 2) : k < qmt P k ∧ qmt P k < N ∧ qso P (qmt P k) = 3 ∧ qmt P (qmt P k) = k := hP.1.2.1 k hk s (by simp)
theorem zPq_d (hP : zPq T N P) (hk : k < N) (s : qso P k = 2) : zTd T P k := by
  rcases hP.1.1 k hk with z | z | ⟨z, _⟩
  · have := z.1; omega
  · exact z
  · have := z.1; omega
theorem zPq_e (hP : zPq T N P) (hk : k < N) (s : qso P k = 3) : zTe T P k := by
  rcases hP.1.1 k hk with z | z | ⟨z, _⟩
  · have := z.1; omega
  · have := z.1; omega
  · exact z
theorem zPm_mt (hP : zPq T N P) (hm : zPm N P w) (hk : k < N) (s : qso P k = 2) : w.2.1 174 k = nI (qmt P k) := by
  obtain ⟨a1, a2, a3, a4⟩ := zPq_do hP hk s
  have := (hm.2.2.2.2.1 _ a2 a3).2
  rwa [a4] at this
theorem zs_do0 (hP : zPq T N P) (hm : zPm N P w) (hk : k < N) (s : qso P k = 2) (v : qvv P k = 0) (n : Nat) : l_X12_runs (n + 1) (nI k) (nI d) l w = l_X12_runs n (nI (qmt P k + 1)) (nI d) l w := by
  have hN := hP.2.2.1
  rw [z_rn0 hm hN hk, s, if_pos (by decide), z_jg (z_in (by omega) (by decide)), hm.2.2.2.1 k hk s, if_pos v, z_jg (z_in (by omega) (by decide)), zPm_mt hP hm hk s, z_jl, z_jbd4, nI_1]
theorem zs_do (hP : zPq T N P) (hm : zPm N P w) (hk : k < N) (s : qso P k = 2) (v : qvv P k ≠ 0) (hd : d < 3) (n : Nat) : l_X12_runs (n + 1) (nI k) (nI d) l w = l_X12_runs n (nI (k + 1)) (nI (d + 1)) l (jsetX w 181 d 0) := by
  have hN := hP.2.2.1
  rw [z_rn0 hm hN hk, s, if_pos (by decide), z_jg (z_in (by omega) (by decide)), hm.2.2.2.1 k hk s, if_neg v, z_jg (z_in hd (by decide)), nI_clamp (by omega), z_jl, z_jl, z_jbd4, nI_1, nI_1]
theorem zs_end (hP : zPq T N P) (hm : zPm N P w) (hk : k < N) (s : qso P k = 3) (hd : d < 3) (n : Nat) : l_X12_runs (n + 1) (nI k) (nI (d + 1)) l w = if qvv P (qmt P k) ≤ w.2.1 181 d + 1 then l_X12_runs n (nI (k + 1)) (nI d) l (jsetX w 181 d (w.2.1 181 d + 1)) else l_X12_runs n (nI (qmt P k + 1)) (nI (d + 1)) l (jsetX w 181 d (w.2.1 181 d + 1)) := by
  have hN := hP.2.2.1
  have te := zPq_e hP hk s
  have ml := te.2.2.2.1
  have gd : jin (nI d) 3 = true := z_in hd (by decide)
  rw [z_rn0 hm hN hk, s, if_neg (show ¬ nI 3 = 2 by decide), if_pos (show nI 3 = 3 by decide), show nI (d + 1) - 1 = nI d from pk_sub (b := 1) (by omega), z_jg gd, z_jg gd, nI_clamp (show d < 2 ^ 31 by omega), z_jl, z_jg gd, z_jg (z_in (by omega) (by decide))]
  rw [z_jX2 (show 174 ≠ 181 by decide), (hm.2.2.2.2.1 k hk s).1, z_jg (z_in (by omega) (by decide)), nI_clamp (show qmt P k < 2 ^ 31 by omega), z_jX2 (show 171 ≠ 181 by decide), hm.2.2.2.1 _ (show qmt P k < N by omega) te.2.2.2.2.2.1, z_jX1, zup_eq]
  by_cases c : qvv P (qmt P k) ≤ w.2.1 181 d + 1
  · rw [if_pos c, if_pos c, show nI (d + 1) + -1 = nI d from pk_m1 _, z_jl, z_jbd4, nI_1]
  · rw [if_neg c, if_neg c, z_jg (z_in (by omega) (by decide)), z_jl, z_jbd4, nI_1]
def zf181 (d : Nat) (w w' : jw) : Prop := w'.1 = w.1 ∧ w'.2.2 = w.2.2 ∧ (∀ p, p ≠ 181 → w'.2.1 p = w.2.1 p) ∧ ∀ i, i < d → w'.2.1 181 i = w.2.1 181 i
theorem zf181_rfl (d : Nat) (w : jw) : zf181 d w w := ⟨rfl, rfl, fun _ _ => rfl, fun _ _ => rfl⟩
theorem zf181_trans {d : Nat} {a b c : jw} (h : zf181 d a b) (g : zf181 d b c) : zf181 d a c := ⟨g.1.trans h.1, g.2.1.trans h.2.1, fun p hp => (g.2.2.1 p hp).trans (h.2.2.1 p hp), fun i hi => (g.2.2.2 i hi).trans (h.2.2.2 i hi)⟩
theorem zf181_X {d i : Nat} {w : jw} {x : Int32} (h : d ≤ i) : zf181 d w (jsetX w 181 i x) := ⟨rfl, rfl, fun p hp => z_jX2 hp, fun j hj => by rw [z_jX1, zup_ne (by omega)]⟩
theorem zf181_le {d e : Nat} {w w' : jw} (h : zf181 e w w') (hd : d ≤ e) : zf181 d w w' := ⟨h.1, h.2.1, h.2.2.1, fun i hi => h.2.2.2 i (by omega)⟩
theorem zPm_f {w' : jw} (h : zPm N P w) (f : zf181 d w w') : zPm N P w' := zPm_fr h (by rw [f.1]) (fun p _ p2 => f.2.2.1 p (by omega)) (by rw [f.2.2.1 182 (by decide)]; exact h.2.2.2.2.2)
theorem zPq_noac (hP : zPq T N P) (hk : k < N) (s : qso P k = 2) (a : qac P k = false) (v : qvv P k ≠ 0) : ¬ zAc P [] N k := (hP.1.2.2.2.2.2.1 k hk s (by simp)).2 a v
theorem z_skip (hP : zPq T N P) : ∀ (g k d : Nat) (l : Int32) (w : jw), N ≤ k + g → k < N → qso P k = 2 → qac P k = false → qdp P k = d → zPm N P w → ∃ w', zRe k d l w (qmt P k + 1) d l w' ∧ zf181 d w w' := by
  intro g
  induction g with
  | zero => intro k d l w h1 h2; omega
  | succ g ih =>
    intro k d l w h1 hk s a hd hm
    have td := zPq_d hP hk s
    obtain ⟨m1, m2, m3, m4⟩ := zPq_do hP hk s
    have pN : qpa P N = 0 := hP.1.2.2.2.2.2.2.1.1
    by_cases v : qvv P k = 0
    · exact ⟨w, ⟨1, fun n => zs_do0 hP hm hk s v n⟩, zf181_rfl d w⟩
    · obtain ⟨V, V1, V2⟩ := hP.2.1 k hk s
      have V0 : V ≠ 0 := fun z => v (by rw [V2, z]; rfl)
      have na := zPq_noac hP hk s a v
      have body : ∀ (h p : Nat) (w : jw), N ≤ p + h → p ≤ N → k < p → qpa P p = k + 1 → qdp P p = d + 1 → zPm N P w → ∃ w', zRe p (d + 1) l w (qmt P k) (d + 1) l w' ∧ zf181 (d + 1) w w' := by
        intro h
        induction h with
        | zero => intro p w b1 b2 b3 b4 b5 b6; have : p = N := by omega
                  rw [this, pN] at b4; omega
        | succ h ihh =>
          intro p w b1 b2 b3 b4 b5 b6
          have pl : p < N := by
            rcases Nat.lt_or_ge p N with z | z
            · exact z
            · have : p = N := by omega
              rw [this, pN] at b4; omega
          rcases hP.1.1 p pl with z | z | ⟨z, _⟩
          · exact absurd ⟨p, pl, b4, Or.inl z.1⟩ na
          · have ap : qac P p = false := by
              cases e : qac P p with
              | false => rfl
              | true => exact absurd ⟨p, pl, b4, Or.inr ⟨z.1, by simp, e⟩⟩ na
            obtain ⟨w1, r1, r2⟩ := ih p (d + 1) l w (by omega) pl z.1 ap b5 b6
            obtain ⟨n1, n2, n3, n4⟩ := zPq_do hP pl z.1
            have te := zPq_e hP n2 n3
            obtain ⟨w2, r3, r4⟩ := ihh (qmt P p + 1) w1 (by omega) (by omega) (by omega) (by rw [te.2.2.2.2.2.2.2.1, n4]; exact b4) (by rw [te.2.2.2.2.2.2.2.2.2, n4]; exact b5) (zPm_f b6 r2)
            exact ⟨w2, zRe_trans r1 r3, zf181_trans r2 r4⟩
          · have e : qmt P p = k := by have := z.2.2.2.2.1; omega
            have : p = qmt P k := by rw [← e, z.2.2.2.2.2.2.1]
            rw [← this]
            exact ⟨w, zRe_rfl _ _ _ _, zf181_rfl _ w⟩
      have rounds : ∀ (r x : Nat) (w : jw), x + r + 1 = V → zPm N P w → w.2.1 181 d = nI x → ∃ w', zRe (k + 1) (d + 1) l w (qmt P k + 1) d l w' ∧ zf181 d w w' := by
        intro r
        induction r with
        | zero =>
          intro x w b1 b2 b3
          obtain ⟨w1, r1, r2⟩ := body (N - (k + 1)) (k + 1) w (by omega) (by omega) (by omega) td.2.2.2.2.1 (by rw [td.2.2.2.2.2.1, hd]) b2
          have x1 : w1.2.1 181 d = nI x := by rw [r2.2.2.2 d (by omega)]; exact b3
          have st := fun n => zs_end (l := l) hP (zPm_f b2 r2) m2 m3 (show d < 3 by have := td.2.2.2.2.2.2; omega) n
          rw [m4, V2, x1, nI_1] at st
          refine ⟨jsetX w1 181 d (nI (x + 1)), zRe_trans r1 ⟨1, fun n => ?_⟩, zf181_trans (zf181_le r2 (by omega)) (zf181_X (Nat.le_refl _))⟩
          rw [st n, if_pos (nI_le (by omega) (by omega))]
        | succ r ihr =>
          intro x w b1 b2 b3
          obtain ⟨w1, r1, r2⟩ := body (N - (k + 1)) (k + 1) w (by omega) (by omega) (by omega) td.2.2.2.2.1 (by rw [td.2.2.2.2.2.1, hd]) b2
          have x1 : w1.2.1 181 d = nI x := by rw [r2.2.2.2 d (by omega)]; exact b3
          have st := fun n => zs_end (l := l) hP (zPm_f b2 r2) m2 m3 (show d < 3 by have := td.2.2.2.2.2.2; omega) n
          rw [m4, V2, x1, nI_1] at st
          obtain ⟨w2, r3, r4⟩ := ihr (x + 1) (jsetX w1 181 d (nI (x + 1))) (by omega) (zPm_181 (zPm_f b2 r2) _ _) (by rw [z_jX1, zup_eq])
          refine ⟨w2, zRe_trans r1 (zRe_trans ⟨1, fun n => ?_⟩ r3), zf181_trans (zf181_le r2 (by omega)) (zf181_trans (zf181_X (Nat.le_refl _)) r4)⟩
          rw [st n, if_neg (nI_ge (by omega) (by omega))]
      obtain ⟨w1, r1, r2⟩ := rounds (V - 1) 0 (jsetX w 181 d 0) (by omega) (zPm_181 hm _ _) (by rw [z_jX1, zup_eq]; rfl)
      exact ⟨w1, zRe_trans ⟨1, fun n => zs_do hP hm hk s v (by have := td.2.2.2.2.2.2; omega) n⟩ r1, zf181_trans (zf181_X (Nat.le_refl _)) r2⟩
end
