section
/-! the whole run, on both sides -/
theorem z_tA {b : Nat} (hb : b < 400) (n : Nat) (w : jw) : l_X11_tellAll (n + 1) (nI b) w = jbd2 (f_X10_goOn w) fun x3 w4 => (if (jb x3) = 0 then some w4 else jbd (zTl w4) fun w' => l_X11_tellAll n (nI (b + 1)) w') := by
  rw [show l_X11_tellAll (n + 1) (nI b) w = _ from by unfold l_X11_tellAll; exact rfl]
  rw [if_neg (show ¬ (400 : Int32) ≤ nI b from nI_ge (b := 400) hb (by decide)), ← nI_1]
  congr 1
  funext x3 w4
  by_cases c : jb x3 = 0
  · rw [if_pos c, if_pos c]
  · rw [if_neg c, if_neg c]
    unfold zTl
    by_cases d : w4.1 48 6 = 4
    · rw [if_pos d, if_pos d]
      cases f_X1_bring (w4.1 48 7) (w4.1 48 8) w4 with
      | none => rfl
      | some q =>
        obtain ⟨x, w18⟩ := q
        cases x <;> rfl
    · rw [if_neg d, if_neg d]
      cases f_X1_drop (w4.1 48 7) w4 with
      | none => rfl
      | some q =>
        obtain ⟨x, w18⟩ := q
        cases x <;> rfl
variable {T : List zT} {N : Nat} {P : zPrg}
theorem z_stopR {wm : jw} (h18 : wm.1 162 18 = nI N) (hN : N ≤ 200) {b2 l : Int32} : l_X12_runs 1 (nI N) b2 l wm = some wm := by
  rw [show l_X12_runs 1 (nI N) b2 l wm = _ from by unfold l_X12_runs; exact rfl]
  rw [h18, if_pos (nI_le (Nat.le_refl _) (by omega))]
theorem z_fullR {wm : jw} {k : Nat} {b2 l : Int32} (h5 : wm.2.1 182 5 = nI 400) : l_X12_runs 1 (nI k) b2 l wm = some wm := by
  rw [show l_X12_runs 1 (nI k) b2 l wm = _ from by unfold l_X12_runs; exact rfl]
  split
  · rfl
  · rw [z_jg (show jin 5 34700 = true by decide), if_pos (show (400 : Int32) ≤ wm.2.1 182 (Int32.toNatClampNeg 5) from by rw [show wm.2.1 182 (Int32.toNatClampNeg 5) = nI 400 from h5]; decide)]
theorem z_run (hP : zPq T N P) (hl : T.length ≤ 401) : ∀ (m b k : Nat) (rr : List Int32) (ds : List Nat) (l : Int32) (S : zS) (w wm : jw), b + m = 400 → k ≤ N → zStk P k ds → (∀ d ∈ ds, qac P d = true) → rr.length = ds.length → zRn T N P k rr l b S w wm → ∃ nf w' wm' S', (∀ n, m < n → l_X11_tellAll n (nI b) w = some w') ∧ l_X12_runs nf (nI k) (nI rr.length) l wm = some wm' ∧ zIn S' ∧ zCi S' w' ∧ zMi S' (wm'.2.1 182) ∧ S'.2.2.2.2.length ≤ 401 ∧ w'.1 0 10 = wm'.2.1 182 5 ∧ w'.1 0 11 = wm'.2.1 182 6 ∧ zfRc w w' ∧ zfRm wm wm' := by
  have hN := hP.2.2.1
  intro m
  induction m with
  | zero =>
    intro b k rr ds l S w wm hb hk hst hac hrr ⟨h1, h2, h3, h4, h5, h6, h7, h8, h9, h10⟩
    have b4 : b = 400 := by omega
    subst b4
    refine ⟨1, w, wm, S, fun n hn => ?_, z_fullR h8, h3, h4, h5, by omega, by rw [h7, h8], h9, zfRc_rfl w, zfRm_rfl wm⟩
    obtain ⟨n', rfl⟩ : ∃ n', n = n' + 1 := ⟨n - 1, by omega⟩
    rw [show l_X11_tellAll (n' + 1) (nI 400) w = _ from by unfold l_X11_tellAll; exact rfl]
    rw [if_pos (by decide)]
  | succ m ih =>
    intro b k rr ds l S w wm hb hk hst hac hrr ⟨h1, h2, h3, h4, h5, h6, h7, h8, h9, h10⟩
    have hb4 : b < 400 := by omega
    have hm := h2 hb4
    obtain ⟨k', rr', ds', w', wm', mm, a1, a2, a3, a4, a5, a6, a7, a8, a9, a10, a11⟩ := z_nxA hP hl (N - k) k 0 ds rr l w wm (by omega) hk hst hac hrr h1 hm (by omega)
    have hC' : zCi S w' := zCi_fr (fun a ha => a10.1 a (by omega)) (fun j _ _ => a10.2.2.2.2 j (by omega)) h4
    have hM' : zMi S (wm'.2.1 182) := by rw [a11.2.2.1 182 (by decide)]; exact h5
    have rn : zRn T N P k' rr' l b S w' wm' := ⟨a8, fun _ => a9, h3, hC', hM', h6, by rw [a10.1 0 (by decide)]; exact h7, by rw [a11.2.2.1 182 (by decide)]; exact h8, by rw [a10.1 0 (by decide), a11.2.2.1 182 (by decide)]; exact h9, by rw [a10.2.1]; exact h10⟩
    have go : ∀ j, f_X10_goOn w = l_X10_goOn (39000 - mm + 1000 - j + j) (nI mm) w' → f_X10_goOn w = l_X10_goOn (39000 - mm + 1000 - j + j) (nI mm) w' := fun _ h => h
    obtain ⟨q, hq⟩ : ∃ q, jfu = q + 1 + mm := ⟨40000 - 1 - mm, by show 40000 = _; omega⟩
    have g1 : f_X10_goOn w = l_X10_goOn (q + 1) (nI mm) w' := by
      show l_X10_goOn jfu 0 w = _
      rw [hq]
      have := a5 (q + 1)
      rw [Nat.zero_add] at this
      exact this
    obtain ⟨mR, hR⟩ := a7
    rcases a1 with kN | ⟨kl, ks⟩
    · subst kN
      have pN := zPq_ps hP hl k' (Nat.le_refl _)
      have st : l_X10_goOn (q + 1) (nI mm) w' = some (false, jsetI w' 48 6 0) := by
        rw [z_g0 pN a8 (by omega), hP.2.2.2.1, z_jl, if_neg (by decide), if_neg (by decide), if_neg (by decide), if_neg (by decide)]
        rfl
      refine ⟨1 + mR, jsetI w' 48 6 0, wm', S, fun n hn => ?_, by rw [hR 1]; exact z_stopR a9.1.1 hN, h3, hC', hM', by omega, ?_, ?_, ?_, zfRm_181 a11⟩
      · obtain ⟨n', rfl⟩ : ∃ n', n = n' + 1 := ⟨n - 1, by omega⟩
        rw [z_tA hb4, g1, st, z_jbd2, if_pos (show jb false = 0 from rfl)]
      · rw [z_jI2 (by decide), rn.2.2.2.2.2.2.1, rn.2.2.2.2.2.2.2.1]
      · rw [z_jI2 (by decide)]; exact rn.2.2.2.2.2.2.2.2.1
      · exact zfRc_trans (zfRc_go a10) ⟨fun a _ _ h3 _ _ => z_jI2 h3, fun j _ _ => by rw [z_jI2 (by decide)], fun _ _ _ _ => rfl, rfl, fun _ _ => rfl⟩
    · have r3 := zStk3 hP (show k' ≤ N by omega) a2
      obtain ⟨w1, w2, wm2, l2, S2, c1, c2, c3, c4, c5, c6⟩ := z_actBoth hP hl (by omega) hb4 kl ks rn mm (by omega)
      have ta : zTa T P k' := by
        rcases hP.1.1 k' kl with z | z | ⟨z, _⟩
        · exact z
        · have := z.1; omega
        · have := z.1; omega
      obtain ⟨nf, w3, wm3, S3, d1, d2, d3, d4, d5, d6, d7, d8, d9, d10⟩ := ih (b + 1) (k' + 1) rr' ds' l2 S2 w2 wm2 (by omega) (by omega) (zStk_mv a2 ta.2.2.2.1 ta.2.2.2.2 (by omega)) a3 a4 c4
      obtain ⟨m3, hm3⟩ := c3
      refine ⟨nf + m3 + mR, w3, wm3, S3, fun n hn => ?_, ?_, d3, d4, d5, d6, d7, d8, zfRc_trans (zfRc_go a10) (zfRc_trans c5 d9), zfRm_trans (zfRm_181 a11) (zfRm_trans c6 d10)⟩
      · obtain ⟨n', rfl⟩ : ∃ n', n = n' + 1 := ⟨n - 1, by omega⟩
        rw [z_tA hb4, g1, c1, z_jbd2, if_neg (show ¬ jb true = 0 by decide), c2, z_jbd]
        exact d1 n' (by omega)
      · rw [hR (nf + m3), hm3 nf]
        exact d2
end
