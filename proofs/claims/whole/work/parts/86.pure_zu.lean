section
/-! put, cut -/
def zOp (S : zS) (w wm : jw) (fc fm : jw → Option (Int32 × jw)) : Prop := ∃ S' v w' wm', fc w = some (v, w') ∧ fm wm = some (v, wm') ∧ zIn S' ∧ S'.1 = S.1 ∧ S'.2.2.2.2.length ≤ S.2.2.2.2.length + 1 ∧ zCi S' w' ∧ zMi S' (wm'.2.1 182) ∧ zfC w w' ∧ zfM wm wm'
theorem t_put {S : zS} (hI : zIn S) (hl : S.2.2.2.2.length ≤ 2900) {w wm : jw} (hC : zCi S w) (hM : zMi S (wm.2.1 182)) (a b : Int32) : zOp S w wm (f_X11_put a b) (f_X12_put a b) := by
  have l0 := zHi_len hI.2
  cases h1 : zik a with
  | false => exact ⟨S, -1, w, wm, by unfold f_X11_put; rw [z_isKeyC, z_jbd2, h1]; rfl, by unfold f_X12_put; rw [z_isKeyM, z_jbd2, h1]; rfl, hI, rfl, by omega, hC, hM, zfC_rfl w, zfM_rfl wm⟩
  | true =>
    obtain ⟨k, k1, k2⟩ := zik_t h1
    subst k2
    by_cases c : S.2.1 < 280
    · obtain ⟨S', w', wm', e1, e2, e3, e4, e5, e6, e7, e8, e9⟩ := z_PUT (v := b) hI c hl k1 hC hM
      have ll : S'.2.2.2.2.length = S.2.2.2.2.length + 1 := by rw [e5, zhap_len]
      refine ⟨S', nI (S'.2.2.2.2.length - 1), w', wm', ?_, ?_, e3, e4, by omega, e6, e7, e8, e9⟩
      · unfold f_X11_put
        rw [z_isKeyC, z_jbd2, h1, if_neg (show ¬ jb true = 0 by decide), e1, z_jbd2, if_neg (show ¬ jb true = 0 by decide), z_now' e6.2.2 (by omega), z_jbd2]
      · unfold f_X12_put
        rw [z_isKeyM, z_jbd2, h1, if_neg (show ¬ jb true = 0 by decide), e2, z_jbd2, if_neg (show ¬ jb true = 0 by decide), z_jg j_0, k_0, e7.2.2.2]
    · obtain ⟨e1, e2⟩ := z_PUT0 (k := k) (v := b) (by omega) hI hC hM
      refine ⟨S, -1, w, wm, ?_, ?_, hI, rfl, by omega, hC, hM, zfC_rfl w, zfM_rfl wm⟩
      · unfold f_X11_put
        rw [z_isKeyC, z_jbd2, h1, if_neg (show ¬ jb true = 0 by decide), e1, z_jbd2]
        rfl
      · unfold f_X12_put
        rw [z_isKeyM, z_jbd2, h1, if_neg (show ¬ jb true = 0 by decide), e2, z_jbd2]
        rfl
theorem t_cut {S : zS} (hI : zIn S) (hl : S.2.2.2.2.length ≤ 2900) {w wm : jw} (hC : zCi S w) (hM : zMi S (wm.2.1 182)) (a : Int32) : zOp S w wm (f_X11_cut a) (f_X12_cut a) := by
  have l0 := zHi_len hI.2
  cases h1 : zik a with
  | false => exact ⟨S, -1, w, wm, by unfold f_X11_cut; rw [z_isKeyC, z_jbd2, h1]; rfl, by unfold f_X12_cut; rw [z_isKeyM, z_jbd2, h1]; rfl, hI, rfl, by omega, hC, hM, zfC_rfl w, zfM_rfl wm⟩
  | true =>
    obtain ⟨k, k1, k2⟩ := zik_t h1
    subst k2
    have no : (280 ≤ S.2.1 ∨ zlf S.2.2.2.2 (nI k) (S.2.2.2.2.length - 1) = none) → zOp S w wm (f_X11_cut (nI k)) (f_X12_cut (nI k)) := fun hn => by
      obtain ⟨e1, e2⟩ := z_CUT0 hI hl k1 hn hC hM
      refine ⟨S, -1, w, wm, ?_, ?_, hI, rfl, by omega, hC, hM, zfC_rfl w, zfM_rfl wm⟩
      · unfold f_X11_cut
        rw [z_isKeyC, z_jbd2, h1, if_neg (show ¬ jb true = 0 by decide), e1, z_jbd2]
        rfl
      · unfold f_X12_cut
        rw [z_isKeyM, z_jbd2, h1, if_neg (show ¬ jb true = 0 by decide), e2, z_jbd2]
        rfl
    by_cases c : S.2.1 < 280
    · cases hz : zlf S.2.2.2.2 (nI k) (S.2.2.2.2.length - 1) with
      | none => exact no (Or.inr hz)
      | some f0 =>
        obtain ⟨S', w', wm', e1, e2, e3, e4, e5, e6, e7, e8, e9⟩ := z_CUT hI c hl k1 hz hC hM
        have ll : S'.2.2.2.2.length = S.2.2.2.2.length + 1 := by rw [e5, zhap_len]
        refine ⟨S', nI (S'.2.2.2.2.length - 1), w', wm', ?_, ?_, e3, e4, by omega, e6, e7, e8, e9⟩
        · unfold f_X11_cut
          rw [z_isKeyC, z_jbd2, h1, if_neg (show ¬ jb true = 0 by decide), e1, z_jbd2, if_neg (show ¬ jb true = 0 by decide), z_now' e6.2.2 (by omega), z_jbd2]
        · unfold f_X12_cut
          rw [z_isKeyM, z_jbd2, h1, if_neg (show ¬ jb true = 0 by decide), e2, z_jbd2, if_neg (show ¬ jb true = 0 by decide), z_jg j_0, k_0, e7.2.2.2]
    · exact no (Or.inl (by omega))
end
