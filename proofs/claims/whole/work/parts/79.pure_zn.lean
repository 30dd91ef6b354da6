section
theorem z_sb {a b : Nat} (h : b ≤ a) : nI a - nI b = nI (a - b) := by
  rw [show nI a = nI (a - b) + nI b by rw [nI_add, Nat.sub_add_cancel h]]
  exact Int32.add_sub_cancel _ _
theorem zSu_iv {lo hi : Nat} : ∀ d k, zSu (fun τ => if lo ≤ τ ∧ τ < hi then 1 else 0) d k = nI (min hi (k + d) - max lo k) := by
  intro d
  induction d with
  | zero => intro k; rw [show min hi (k + 0) - max lo k = 0 by omega]; rfl
  | succ d ih =>
    intro k
    unfold zSu
    rw [ih (k + 1)]
    by_cases c : lo ≤ k ∧ k < hi
    · simp only [c, and_self, if_true]
      rw [show (1 : Int32) = nI 1 from rfl, nI_add]
      congr 1
      omega
    · rw [if_neg c, Int32.zero_add]
      congr 1
      omega
/-- the times of a key -/
def ztm (hs : List zH) (k τ : Nat) : Int32 := if zp hs τ k = true then 1 else 0
theorem zlf_st {hs : List zH} {k : Int32} {f : Nat} {h : zH} (h1 : 1 ≤ f) (hx : hs[f]? = some h) : zlf hs k f = (if h.2.1 = k then (if h.1 = 1 then some f else none) else zlf hs k (f - 1)) := by
  obtain ⟨g, hg⟩ : ∃ g, f = g + 1 := ⟨f - 1, by omega⟩
  rw [hg] at hx ⊢
  show (match hs[g + 1]? with
    | some h => if h.2.1 = k then (if h.1 = 1 then some (g + 1) else none) else zlf hs k g
    | none => zlf hs k g) = _
  rw [hx]
  rfl
theorem z_stayC_l {hs : List zH} {w : jw} {k u : Nat} {a2 : Int32} (hC : zCh hs w) (hl : hs.length ≤ 3000) (hu : u < hs.length) : ∀ (d n f : Nat) (lv c : Int32), f + d = u + 1 → 1 ≤ f → d < n → lv = ztm hs k (f - 1) → l_X3_timesOf n (nI k) a2 (nI u) lv c (nI f) w = some (c + zSu (ztm hs k) d f, w) := by
  intro d
  induction d with
  | zero =>
    intro n f lv c h1 h2 h3 h4
    cases n with
    | zero => cases h3
    | succ n =>
      unfold l_X3_timesOf
      rw [if_pos (nI_lt (by omega) (by omega))]
      show _ = some (c + 0, w)
      rw [Int32.add_zero]
  | succ d ih =>
    intro n f lv c h1 h2 h3 h4
    cases n with
    | zero => cases h3
    | succ n =>
      have hx := List.getElem?_eq_getElem (show f < hs.length by omega)
      generalize hh : hs[f] = h at hx
      have st := zlf_st (k := nI k) h2 hx
      unfold l_X3_timesOf
      rw [if_neg (nI_nlt (by omega) (by omega)), z_rat (by omega), z_rat (by omega), hC.1, hC.2.1, z_gm hx, z_gm hx]
      simp only [z_jl, nI_1]
      show _ = some (c + (ztm hs k f + zSu (ztm hs k) d (f + 1)), w)
      have R : ∀ lv c', lv = ztm hs k f → l_X3_timesOf n (nI k) a2 (nI u) lv c' (nI (f + 1)) w = some (c' + zSu (ztm hs k) d (f + 1), w) := fun lv c' e => ih n (f + 1) lv c' (by omega) (by omega) (by omega) e
      by_cases c1 : h.2.1 = nI k
      · rw [if_pos c1]
        by_cases c2 : h.1 = 1
        · have e : ztm hs k f = 1 := by unfold ztm zp; rw [st, if_pos c1, if_pos c2]; rfl
          rw [if_pos c2, if_neg (by decide), R 1 _ e.symm, e, Int32.add_assoc]
        · have e : ztm hs k f = 0 := by unfold ztm zp; rw [st, if_pos c1, if_neg c2]; rfl
          rw [if_neg c2, if_pos trivial, R 0 _ e.symm, e, Int32.add_assoc]
      · have e : ztm hs k f = ztm hs k (f - 1) := by unfold ztm zp; rw [st, if_neg c1]
        rw [if_neg c1]
        by_cases c2 : lv = 0
        · rw [if_pos c2, R lv _ (by rw [e]; exact h4), e, ← h4, c2, Int32.add_assoc]
        · have e1 : lv = 1 := by
            rw [h4] at c2 ⊢
            unfold ztm at c2 ⊢
            split
            · rfl
            · rename_i z; rw [if_neg z] at c2; exact absurd rfl c2
          rw [if_neg c2, R lv _ (by rw [e]; exact h4), e, ← h4, e1, Int32.add_assoc]
def zyl (k t u : Nat) (v : zE) : Int32 := if v.1 = nI k then (if (if v.2.2.1 = -2 then nI u + 1 else if v.2.2.1 ≤ nI u then v.2.2.1 else nI u + 1) ≤ (if v.2.1 ≤ nI t then nI t else v.2.1) then 0 else (if v.2.2.1 = -2 then nI u + 1 else if v.2.2.1 ≤ nI u then v.2.2.1 else nI u + 1) - (if v.2.1 ≤ nI t then nI t else v.2.1)) else 0
def zLs (G : zE → Int32) : List zE → Int32
  | [] => 0
  | v :: l => G v + zLs G l
theorem z_stayM_l {hs : List zH} {w : jw} {k t u : Nat} (h : zMh hs (w.2.1 182)) (hl : hs.length ≤ 3000) : ∀ (rest : List zE) (n i : Nat) (c : Int32), (zvr hs 0).drop i = rest → i ≤ (zvr hs 0).length → rest.length < n → l_X12_stay n (nI k) (nI t) (nI u) c (nI (18100 + 4 * i)) w = some (c + zLs (zyl k t u) rest, w) := by
  have vl := zvr_le hs
  intro rest
  induction rest with
  | nil =>
    intro n i c h1 h2 h3
    have hii : (zvr hs 0).length ≤ i := by simpa using h1
    cases n with
    | zero => cases h3
    | succ n =>
      unfold l_X12_stay
      rw [z_jg j_4, k_4, h.2.1, z_18, if_pos (nI_le (by omega) (by omega))]
      show _ = some (c + 0, w)
      rw [Int32.add_zero]
  | cons v rest ih =>
    intro n i c h1 h2 h3
    obtain ⟨g1, g2, g3⟩ := zvdrop h1
    simp only [List.length_cons] at h3
    obtain ⟨f1, f2, f3, f4⟩ := h.1 i v g1
    cases n with
    | zero => cases h3
    | succ n =>
      have R : ∀ c', l_X12_stay n (nI k) (nI t) (nI u) c' (nI (18100 + 4 * (i + 1))) w = some (c' + zLs (zyl k t u) rest, w) := fun c' => ih n (i + 1) c' g2 (by omega) (by omega)
      unfold l_X12_stay
      have nx : 18100 + 4 * i + 4 = 18100 + 4 * (i + 1) := by omega
      rw [z_jg j_4, k_4, h.2.1, z_18, if_neg (nI_ge (by omega) (by omega)), z_jg (z_in (by omega) (by decide)), nI_clamp (by omega), f1]
      simp only [nI_p4, nx]
      show _ = some (c + (zyl k t u v + zLs (zyl k t u) rest), w)
      generalize zLs (zyl k t u) rest = Z at R ⊢
      unfold zyl
      by_cases c1 : v.1 = nI k
      · rw [if_pos c1, if_pos c1]
        simp only [nI_p2]
        rw [show nI (18100 + 4 * i) + 1 = nI (18100 + 4 * i + 1) from nI_1 _]
        rw [z_jg (z_in (by omega) (by decide)), nI_clamp (by omega), nI_clamp (by omega), f2, f3]
        have e1 : (if v.2.1 ≤ nI t then some (nI t) else jg (jin (nI (18100 + 4 * i + 1)) 34700) (some v.2.1)) = some (if v.2.1 ≤ nI t then nI t else v.2.1) := by
          rw [z_jg (z_in (by omega) (by decide))]
          split <;> rfl
        have e2 : (if v.2.2.1 = -2 then some (nI u + 1) else jg (jin (nI (18100 + 4 * i + 2)) 34700) (if v.2.2.1 ≤ nI u then jg (jin (nI (18100 + 4 * i + 2)) 34700) (some v.2.2.1) else some (nI u + 1))) = some (if v.2.2.1 = -2 then nI u + 1 else if v.2.2.1 ≤ nI u then v.2.2.1 else nI u + 1) := by
          rw [z_jg (z_in (by omega) (by decide)), z_jg (z_in (by omega) (by decide))]
          split
          · rfl
          · split <;> rfl
        rw [e1, z_jbd, z_jg (z_in (by omega) (by decide)), e2, z_jbd]
        generalize (if v.2.2.1 = -2 then nI u + 1 else if v.2.2.1 ≤ nI u then v.2.2.1 else nI u + 1) = x14
        generalize (if v.2.1 ≤ nI t then nI t else v.2.1) = x10
        by_cases c2 : x14 ≤ x10
        · rw [if_pos c2, if_pos c2, z_jbd, z_jl, R, Int32.zero_add]
        · rw [if_neg c2, if_neg c2, z_jl, z_jbd, z_jl, R, Int32.add_assoc]
      · rw [if_neg c1, if_neg c1, z_jbd, z_jl, R, Int32.zero_add]
/-- a sum over the versions as a sum over the times -/
theorem zLs_su {hs : List zH} {G : zE → Int32} : ∀ (rest : List zH) (f : Nat), hs.drop f = rest → zLs G (zvr rest f) = zSu (fun f => if zpt (hs.getD f (0, 0, 0, 0)) = true then G (zver f (hs.getD f (0, 0, 0, 0))) else 0) rest.length f := by
  intro rest
  induction rest with
  | nil => intro f _; rfl
  | cons x rest ih =>
    intro f h
    obtain ⟨h1, h2, h3⟩ := zhdrop h
    show _ = (if zpt (hs.getD f (0, 0, 0, 0)) = true then G (zver f (hs.getD f (0, 0, 0, 0))) else 0) + zSu _ rest.length (f + 1)
    rw [z_gd0 h1, ← ih (f + 1) h2]
    by_cases c : zpt x = true
    · rw [zvr_c c, if_pos c]; rfl
    · rw [zvr_s c, if_neg c, Int32.zero_add]
theorem zstay_eq {hs : List zH} {k t u : Nat} (hi : zHi hs) (hl : hs.length ≤ 3000) (htu : t ≤ u) (hu : u < hs.length) (hk : k < 1000) : zLs (zyl k t u) (zvr hs 0) = zSu (ztm hs k) (u + 1 - t) t := by
  rw [zLs_su (hs := hs) hs 0 rfl]
  have A : ∀ f, 0 ≤ f → f < 0 + hs.length → (if zpt (hs.getD f (0, 0, 0, 0)) = true then zyl k t u (zver f (hs.getD f (0, 0, 0, 0))) else 0) = zSu (fun τ => if zlf hs (nI k) τ = some f then 1 else 0) (u + 1 - t) t := fun f _ fl => by
    rw [Nat.zero_add] at fl
    have hx := List.getElem?_eq_getElem fl
    generalize hh : hs[f] = x at hx
    rw [z_gd0 hx]
    by_cases c : zpt x = true
    · rw [if_pos c]
      by_cases d : x.2.1 = nI k
      · have L : ∀ τ, τ < 100000 → (zlf hs (nI k) τ = some f ↔ ¬ nI τ < nI f ∧ (x.2.2.2 = -2 ∨ ¬ x.2.2.2 ≤ nI τ)) := fun τ hτ => by
          rw [← d, ← zlv_lf hi hx c hτ, zlv_i]
          exact Iff.rfl
        have fm : (if nI f ≤ nI t then nI t else nI f) = nI (max f t) := by
          by_cases q : f ≤ t
          · rw [if_pos (nI_le q (by omega)), Nat.max_eq_right q]
          · rw [if_neg (nI_ge (by omega) (by omega)), Nat.max_eq_left (by omega)]
        unfold zyl
        rw [if_pos (show (zver f x).1 = nI k from d)]
        show (if (if x.2.2.2 = -2 then nI u + 1 else if x.2.2.2 ≤ nI u then x.2.2.2 else nI u + 1) ≤ (if nI f ≤ nI t then nI t else nI f) then 0 else (if x.2.2.2 = -2 then nI u + 1 else if x.2.2.2 ≤ nI u then x.2.2.2 else nI u + 1) - (if nI f ≤ nI t then nI t else nI f)) = _
        rw [fm]
        have fin : ∀ e : Nat, e < 100000 → (if x.2.2.2 = -2 then nI u + 1 else if x.2.2.2 ≤ nI u then x.2.2.2 else nI u + 1) = nI (min e (u + 1)) → (∀ τ, t ≤ τ → τ < t + (u + 1 - t) → (zlf hs (nI k) τ = some f ↔ f ≤ τ ∧ τ < e)) → (if (if x.2.2.2 = -2 then nI u + 1 else if x.2.2.2 ≤ nI u then x.2.2.2 else nI u + 1) ≤ nI (max f t) then 0 else (if x.2.2.2 = -2 then nI u + 1 else if x.2.2.2 ≤ nI u then x.2.2.2 else nI u + 1) - nI (max f t)) = zSu (fun τ => if zlf hs (nI k) τ = some f then 1 else 0) (u + 1 - t) t := fun e el ee eL => by
          rw [ee, zSu_c (G := fun τ => if f ≤ τ ∧ τ < e then 1 else 0) _ _ (fun τ τ1 τ2 => by simp only [eL τ τ1 τ2]), zSu_iv, show t + (u + 1 - t) = u + 1 by omega]
          by_cases q : min e (u + 1) ≤ max f t
          · rw [if_pos (nI_le q (by omega)), show min e (u + 1) - max f t = 0 by omega]; rfl
          · rw [if_neg (nI_ge (by omega) (by omega)), z_sb (by omega)]
        rcases hi.2.2.2 f x hx c with ⟨z, _⟩ | ⟨j, y, j1, j2, j3, _⟩
        · refine fin (u + 1) (by omega) (by rw [if_pos z, nI_1, Nat.min_self]) (fun τ τ1 τ2 => ?_)
          rw [L τ (by omega)]
          constructor
          · rintro ⟨q, _⟩
            refine ⟨?_, by omega⟩
            rcases Nat.lt_or_ge τ f with r | r
            · exact absurd (nI_lt r (by omega)) q
            · exact r
          · rintro ⟨q, _⟩
            exact ⟨nI_nlt q (by omega), Or.inl z⟩
        · have jl := (List.getElem?_eq_some_iff.mp j2).1
          refine fin j (by omega) ?_ (fun τ τ1 τ2 => ?_)
          · rw [j3, if_neg (z_nm2 (by omega))]
            by_cases q : j ≤ u
            · rw [if_pos (nI_le q (by omega)), Nat.min_eq_left (by omega)]
            · rw [if_neg (nI_ge (by omega) (by omega)), nI_1, Nat.min_eq_right (by omega)]
          · rw [L τ (by omega), j3]
            constructor
            · rintro ⟨q, r⟩
              refine ⟨?_, ?_⟩
              · rcases Nat.lt_or_ge τ f with r | r
                · exact absurd (nI_lt r (by omega)) q
                · exact r
              · rcases r with r | r
                · exact absurd r (z_nm2 (by omega))
                · rcases Nat.lt_or_ge τ j with s | s
                  · exact s
                  · exact absurd (nI_le s (by omega)) r
            · rintro ⟨q, r⟩
              exact ⟨nI_nlt q (by omega), Or.inr (nI_ge r (by omega))⟩
      · unfold zyl
        rw [if_neg (show ¬ (zver f x).1 = nI k from d)]
        exact (zSu_0 _ _ (fun τ _ _ => if_neg (fun z => by
          obtain ⟨_, _, ⟨y, q1, q2, q3⟩, _⟩ := zlf_some _ _ z
          rw [hx] at q1
          cases q1
          exact d q3))).symm
    · rw [if_neg c]
      exact (zSu_0 _ _ (fun τ _ _ => if_neg (fun z => by
        obtain ⟨_, _, ⟨y, q1, q2, q3⟩, _⟩ := zlf_some _ _ z
        rw [hx] at q1
        cases q1
        exact c q2))).symm
  rw [zSu_c _ _ A, zSu_s]
  exact zSu_c _ _ (fun τ τ1 τ2 => by
    unfold ztm zp
    cases hz : zlf hs (nI k) τ with
    | none => exact zSu_0 _ _ (fun f _ _ => if_neg (fun z => by cases z))
    | some g =>
      obtain ⟨q1, q2, _⟩ := zlf_some _ _ hz
      rw [zSu_1 (j := g) _ _ (Nat.zero_le _) (by omega) (fun f _ _ h3 => if_neg (fun z => h3 (Option.some.inj z).symm))]
      simp)
theorem q_stay {S : zS} (hI : zIn S) (hl : S.2.2.2.2.length ≤ 2900) (a c d : Int32) : zQ S (f_X11_stay a c d) (f_X12_stay a c d) := by
  have l0 := zHi_len hI.2
  have vl := zvr_le S.2.2.2.2
  cases h1 : zik a with
  | false => exact zQ_c (-1) (fun w hC => by unfold f_X11_stay; rw [z_isKeyC, z_jbd2, h1]; rfl) (fun w hM => by unfold f_X12_stay; rw [z_isKeyM, z_jbd2, h1]; rfl)
  | true =>
    cases h2 : zsp2 (S.2.2.2.2.length - 1) c d with
    | false => exact zQ_c (-1) (fun w hC => by unfold f_X11_stay; rw [z_isKeyC, z_jbd2, h1, if_neg (by decide), z_isSpanC c d hC hI, z_jbd2, h2]; rfl) (fun w hM => by unfold f_X12_stay; rw [z_isKeyM, z_jbd2, h1, if_neg (by decide), z_areTimes c d hM, z_jbd2, h2]; rfl)
    | true =>
      obtain ⟨t, u, t1, t2, t3, t4⟩ := zsp2_t (by omega) h2
      obtain ⟨k, k1, k2⟩ := zik_t h1
      subst t3 t4 k2
      refine zQ_c (zSu (ztm S.2.2.2.2 k) (u + 1 - t) t) (fun w hC => ?_) (fun w hM => ?_)
      · unfold f_X11_stay f_X3_timesOf
        rw [z_isKeyC, z_jbd2, h1, if_neg (by decide), z_isSpanC _ _ hC hI, z_jbd2, h2, if_neg (by decide), z_livingFrom hC.2.2 (by omega) (by omega), z_jbd2]
        simp only [z_jl, nI_1]
        have R : ∀ lv, lv = ztm S.2.2.2.2 k t → l_X3_timesOf jfu (nI k) (nI t) (nI u) lv lv (nI (t + 1)) w = some (zSu (ztm S.2.2.2.2 k) (u + 1 - t) t, w) := fun lv e => by
          rw [z_stayC_l hC.2.2 (by omega) (by omega) (u - t) jfu (t + 1) lv lv (by omega) (by omega) (by show _ < 40000; omega) e, show u + 1 - t = (u - t) + 1 by omega, e]
          rfl
        cases hz : zlf S.2.2.2.2 (nI k) t with
        | none =>
          have e : ztm S.2.2.2.2 k t = 0 := by unfold ztm zp; rw [hz]; rfl
          rw [if_pos (show zof none = -1 from rfl), if_pos trivial, R 0 e.symm, z_jbd2]
        | some g =>
          have e : ztm S.2.2.2.2 k t = 1 := by unfold ztm zp; rw [hz]; rfl
          have := (zlf_some _ _ hz).2.1
          rw [if_neg (show ¬ zof (some g) = -1 from z_nm1 (by omega)), if_neg (show ¬ (1 : Int32) = 0 by decide), R 1 e.symm, z_jbd2]
      · unfold f_X12_stay
        rw [z_isKeyM, z_jbd2, h1, if_neg (by decide), z_areTimes _ _ hM, z_jbd2, h2, if_neg (by decide)]
        refine Eq.trans (z_stayM_l (k := k) (t := t) (u := u) hM.2.2.1 (by omega) (zvr S.2.2.2.2 0) jfu 0 0 rfl (by omega) (by show _ < 40000; omega)) ?_
        rw [zstay_eq hI.2 (by omega) t1 (by omega) k1, Int32.zero_add]
end
