section
theorem zhdrop {hs : List zH} {f : Nat} {h : zH} {rest : List zH} (hd : hs.drop f = h :: rest) : hs[f]? = some h ∧ hs.drop (f + 1) = rest ∧ f < hs.length := by
  have h1 : hs[f]? = some h := by
    have := congrArg (fun l => l[0]?) hd
    simpa using this
  refine ⟨h1, ?_, (List.getElem?_eq_some_iff.mp h1).1⟩
  have := congrArg List.tail hd
  simpa using this
theorem zvr_1 {hs : List zH} (h : zHi hs) : zvr (hs.drop 1) 1 = zvr hs 0 := by
  cases hs with
  | nil => rfl
  | cons x xs =>
    have := h.1
    rw [List.getElem?_cons_zero] at this
    cases this
    rfl
theorem z_isVersion {hs : List zH} {w : jw} {f : Nat} {h : zH} (key : Int32) (hC : zCh hs w) (hf : hs[f]? = some h) (hl : f < 2 ^ 31) : f_X2_isVersion (nI f) key w = some (decide (h.2.1 = key) && zpt h, w) := by
  unfold f_X2_isVersion
  rw [z_rat hl, z_rat hl, hC.1, hC.2.1, z_gm hf, z_gm hf]
  by_cases c : h.2.1 = key
  · rw [if_pos c]
    by_cases d : h.1 = 1
    · rw [if_pos d]; simp [c, zpt, d]
    · rw [if_neg d]; simp [zpt, d]
  · rw [if_neg c]; simp [c]
theorem zvr_c {h : zH} {rest : List zH} {f : Nat} (hp : zpt h = true) : zvr (h :: rest) f = zver f h :: zvr rest (f + 1) := by
  show (if zpt h = true then _ else _) = _
  rw [if_pos hp]
theorem zvr_s {h : zH} {rest : List zH} {f : Nat} (hp : ¬ zpt h = true) : zvr (h :: rest) f = zvr rest (f + 1) := by
  show (if zpt h = true then _ else _) = _
  rw [if_neg hp]
def zky (key : Int32) (v : zE) : Bool := decide (v.1 = key)
theorem z_versionsOfC_l {hs : List zH} {w : jw} {key : Int32} (hC : zCh hs w) (hl : hs.length ≤ 3000) : ∀ (rest : List zH) (n f c : Nat), hs.drop f = rest → f ≤ hs.length → rest.length < n → l_X2_versionsOf n key (nI c) (nI f) w = some (nI (c + (zvr rest f).countP (zky key)), w) := by
  intro rest
  induction rest with
  | nil =>
    intro n f c h1 h2 h3
    have hi : hs.length ≤ f := by simpa using h1
    cases n with
    | zero => cases h3
    | succ n =>
      unfold l_X2_versionsOf
      rw [hC.1, List.length_map, if_pos (nI_le hi (by omega))]
      rfl
  | cons h rest ih =>
    intro n f c h1 h2 h3
    obtain ⟨g1, g2, g3⟩ := zhdrop h1
    simp only [List.length_cons] at h3
    cases n with
    | zero => cases h3
    | succ n =>
      unfold l_X2_versionsOf
      rw [hC.1, List.length_map, if_neg (nI_ge g3 (by omega)), z_isVersion key hC g1 (by omega), z_jbd2]
      simp only [z_jb0, z_jl, nI_1]
      by_cases p : zpt h = true
      · rw [zvr_c p]
        by_cases d : h.2.1 = key
        · rw [if_neg (by simp [d, p]), ih n (f + 1) (c + 1) g2 (by omega) (by omega), List.countP_cons_of_pos (by simp [zky, zver, d]), Nat.add_assoc, Nat.add_comm 1]
        · rw [if_pos (by simp [d]), ih n (f + 1) c g2 (by omega) (by omega), List.countP_cons_of_neg (by simp [zky, zver, d])]
      · rw [zvr_s p, if_pos (by simp [p]), ih n (f + 1) c g2 (by omega) (by omega)]
theorem z_versionsOfM_l {hs : List zH} {w : jw} {key : Int32} (h : zMh hs (w.2.1 182)) (hl : hs.length ≤ 3000) : ∀ (rest : List zE) (n i c : Nat), (zvr hs 0).drop i = rest → i ≤ (zvr hs 0).length → rest.length < n → l_X12_versionsOf n key (nI c) (nI (18100 + 4 * i)) w = some (nI (c + rest.countP (zky key)), w) := by
  have vl := zvr_le hs
  intro rest
  induction rest with
  | nil =>
    intro n i c h1 h2 h3
    have hi : (zvr hs 0).length ≤ i := by simpa using h1
    cases n with
    | zero => cases h3
    | succ n =>
      unfold l_X12_versionsOf
      rw [z_jg j_4, k_4, h.2.1, z_18, if_pos (nI_le (by omega) (by omega))]
      rfl
  | cons v rest ih =>
    intro n i c h1 h2 h3
    obtain ⟨g1, g2, g3⟩ := zvdrop h1
    simp only [List.length_cons] at h3
    obtain ⟨f1, f2, f3, f4⟩ := h.1 i v g1
    cases n with
    | zero => cases h3
    | succ n =>
      unfold l_X12_versionsOf
      rw [z_jg j_4, k_4, h.2.1, z_18, if_neg (nI_ge (by omega) (by omega)), z_jg (z_in (by omega) (by decide)), nI_clamp (by omega), f1]
      have nx : 18100 + 4 * i + 4 = 18100 + 4 * (i + 1) := by omega
      simp only [z_jl, nI_p4, nx, nI_1]
      by_cases d : v.1 = key
      · rw [if_pos d, ih n (i + 1) (c + 1) g2 (by omega) (by omega), List.countP_cons_of_pos (by simp [zky, d]), Nat.add_assoc, Nat.add_comm 1]
      · rw [if_neg d, ih n (i + 1) c g2 (by omega) (by omega), List.countP_cons_of_neg (by simp [zky, d])]
theorem q_versions {S : zS} (hI : zIn S) (hl : S.2.2.2.2.length ≤ 2900) (a : Int32) : zQ S (f_X11_versions a) (f_X12_versions a) := by
  have l0 := zHi_len hI.2
  have vl := zvr_le S.2.2.2.2
  cases h1 : zik a with
  | false => exact zQ_c (-1) (fun w _ => by unfold f_X11_versions; rw [z_isKeyC, z_jbd2, h1]; rfl) (fun w _ => by unfold f_X12_versions; rw [z_isKeyM, z_jbd2, h1]; rfl)
  | true =>
    refine zQ_c (nI ((zvr S.2.2.2.2 0).countP (zky a))) (fun w hC => ?_) (fun w hM => ?_)
    · unfold f_X11_versions f_X2_versionsOf
      rw [z_isKeyC, z_jbd2, h1, if_neg (by decide)]
      have := z_versionsOfC_l (key := a) hC.2.2 (by omega) (S.2.2.2.2.drop 1) jfu 1 0 rfl (by omega) (by show _ < 40000; rw [List.length_drop]; omega)
      rw [zvr_1 hI.2, Nat.zero_add] at this
      rw [show l_X2_versionsOf jfu a 0 1 w = _ from this, z_jbd2]
    · unfold f_X12_versions f_X12_versionsOf
      rw [z_isKeyM, z_jbd2, h1, if_neg (by decide)]
      have := z_versionsOfM_l (key := a) hM.2.2.1 (by omega) (zvr S.2.2.2.2 0) jfu 0 0 rfl (by omega) (by show _ < 40000; omega)
      rw [Nat.zero_add] at this
      rw [show l_X12_versionsOf jfu a 0 18100 w = _ from this, z_jbd2]
/-- the i-th version -/
def zvn (key : Int32) : List zE → Nat → Option zE
  | [], _ => none
  | v :: vs, l => if zky key v = true then (match l with
    | 0 => some v
    | l + 1 => zvn key vs l) else zvn key vs l
def zvf (o : Option zE) : Int32 := match o with
  | none => -1
  | some v => v.2.1
theorem zvn_mem {key : Int32} : ∀ (vs : List zE) (l : Nat) (v : zE), zvn key vs l = some v → v ∈ vs := by
  intro vs
  induction vs with
  | nil => intro l v h; cases h
  | cons x vs ih =>
    intro l v h
    unfold zvn at h
    split at h
    · cases l with
      | zero => cases h; exact List.mem_cons_self
      | succ l => exact List.mem_cons_of_mem _ (ih l v h)
    · exact List.mem_cons_of_mem _ (ih l v h)
theorem z_versionFrom_l {hs : List zH} {w : jw} {key b2 : Int32} (hC : zCh hs w) (hl : hs.length ≤ 3000) : ∀ (rest : List zH) (n f l : Nat), hs.drop f = rest → f ≤ hs.length → rest.length < n → l < 2 ^ 31 → l_X2_versionFrom n key b2 (nI l) (nI f) w = some (zvf (zvn key (zvr rest f) l), w) := by
  intro rest
  induction rest with
  | nil =>
    intro n f l h1 h2 h3 h4
    have hi : hs.length ≤ f := by simpa using h1
    cases n with
    | zero => cases h3
    | succ n =>
      unfold l_X2_versionFrom
      rw [hC.1, List.length_map, if_pos (nI_le hi (by omega))]
      rfl
  | cons h rest ih =>
    intro n f l h1 h2 h3 h4
    obtain ⟨g1, g2, g3⟩ := zhdrop h1
    simp only [List.length_cons] at h3
    cases n with
    | zero => cases h3
    | succ n =>
      unfold l_X2_versionFrom
      rw [hC.1, List.length_map, if_neg (nI_ge g3 (by omega)), if_neg (nI_pos h4), z_isVersion key hC g1 (by omega), z_jbd2]
      simp only [z_jb0, z_jl, nI_1]
      by_cases p : zpt h = true
      · rw [zvr_c p]
        unfold zvn
        by_cases d : h.2.1 = key
        · rw [if_neg (by simp [d, p]), if_pos (show zky key (zver f h) = true by simp [zky, zver, d])]
          cases l with
          | zero => rw [if_pos (show nI 0 = 0 from rfl)]; rfl
          | succ l =>
            rw [if_neg (nI_ne0 (by omega) h4), pk_m1]
            exact ih n (f + 1) l g2 (by omega) (by omega) (by omega)
        · rw [if_pos (by simp [d]), if_neg (show ¬ zky key (zver f h) = true by simp [zky, zver, d])]
          exact ih n (f + 1) l g2 (by omega) (by omega) h4
      · rw [zvr_s p, if_pos (by simp [p])]
        exact ih n (f + 1) l g2 (by omega) (by omega) h4
def zvw (what : Nat) (o : Option zE) : Int32 := match o with
  | none => -1000
  | some v => if what = 0 then v.2.1 else if what = 1 then v.2.2.1 else v.2.2.2
theorem z_versionM_l {hs : List zH} {w : jw} {key b2 : Int32} {what : Nat} (hw : what ≤ 2) (h : zMh hs (w.2.1 182)) (hl : hs.length ≤ 3000) : ∀ (rest : List zE) (n i l : Nat), (zvr hs 0).drop i = rest → i ≤ (zvr hs 0).length → rest.length < n → l < 2 ^ 31 → l_X12_version n key b2 (nI what) (nI l) (nI (18100 + 4 * i)) w = some (zvw what (zvn key rest l), w) := by
  have vl := zvr_le hs
  intro rest
  induction rest with
  | nil =>
    intro n i l h1 h2 h3 h4
    have hi : (zvr hs 0).length ≤ i := by simpa using h1
    cases n with
    | zero => cases h3
    | succ n =>
      unfold l_X12_version
      rw [z_jg j_4, k_4, h.2.1, z_18, if_pos (nI_le (by omega) (by omega))]
      rfl
  | cons v rest ih =>
    intro n i l h1 h2 h3 h4
    obtain ⟨g1, g2, g3⟩ := zvdrop h1
    simp only [List.length_cons] at h3
    obtain ⟨f1, f2, f3, f4⟩ := h.1 i v g1
    cases n with
    | zero => cases h3
    | succ n =>
      unfold l_X12_version zvn
      rw [z_jg j_4, k_4, h.2.1, z_18, if_neg (nI_ge (by omega) (by omega)), z_jg (z_in (by omega) (by decide)), nI_clamp (by omega), f1]
      have nx : 18100 + 4 * i + 4 = 18100 + 4 * (i + 1) := by omega
      simp only [z_jl, nI_p4, nx, nI_1, nI_add]
      by_cases d : v.1 = key
      · rw [if_pos d, if_pos (show zky key v = true by simp [zky, d])]
        cases l with
        | zero =>
          rw [if_pos (show nI 0 = 0 from rfl), z_jg (z_in (by omega) (by decide)), nI_clamp (by omega)]
          have : what = 0 ∨ what = 1 ∨ what = 2 := by omega
          rcases this with z | z | z
          · subst z
            show some (w.2.1 182 (18100 + 4 * i + 1 + 0), w) = _
            rw [show 18100 + 4 * i + 1 + 0 = 18100 + 4 * i + 1 by omega, f2]; rfl
          · subst z
            rw [show 18100 + 4 * i + 1 + 1 = 18100 + 4 * i + 2 by omega, f3]; rfl
          · subst z
            rw [show 18100 + 4 * i + 1 + 2 = 18100 + 4 * i + 3 by omega, f4]; rfl
        | succ l =>
          rw [if_neg (nI_ne0 (by omega) h4), pk_m1]
          exact ih n (i + 1) l g2 (by omega) (by omega) (by omega)
      · rw [if_neg d, if_neg (show ¬ zky key v = true by simp [zky, d])]
        exact ih n (i + 1) l g2 (by omega) (by omega) h4
theorem z_toI {j : Nat} (hj : j < 2 ^ 31) (c : Nat) : ((nI j).toInt = (c : Int)) ↔ j = c := by
  rw [nI_toInt hj]
  omega
theorem q_version {S : zS} (hI : zIn S) (hl : S.2.2.2.2.length ≤ 2900) (a b c : Int32) : zQ S (f_X11_version a b c) (f_X12_version a b c) := by
  have l0 := zHi_len hI.2
  have vl := zvr_le S.2.2.2.2
  cases h1 : zik a with
  | false => exact zQ_c (-1000) (fun w _ => by unfold f_X11_version; rw [z_isKeyC, z_jbd2, h1]; rfl) (fun w _ => by unfold f_X12_version; rw [z_isKeyM, z_jbd2, h1]; rfl)
  | true =>
    by_cases nb : b < 0
    · refine zQ_c (-1000) (fun w hC => ?_) (fun w hM => by unfold f_X12_version; rw [z_isKeyM, z_jbd2, h1, if_neg (by decide), if_pos nb])
      unfold f_X11_version f_X2_versionFrom
      have : l_X2_versionFrom jfu a b b 1 w = some (-1, w) := by
        show l_X2_versionFrom (39999 + 1) a b b 1 w = _
        unfold l_X2_versionFrom
        split
        · rfl
        · rfl
      rw [z_isKeyC, z_jbd2, h1, if_neg (by decide), this, z_jbd2, if_pos rfl]
    · obtain ⟨l, l1, l2⟩ := nI_of nb
      have hC1 : ∀ w, zCi S w → f_X2_versionFrom a b w = some (zvf (zvn a (zvr S.2.2.2.2 0) l), w) := fun w hC => by
        unfold f_X2_versionFrom
        have := z_versionFrom_l (key := a) (b2 := b) hC.2.2 (by omega) (S.2.2.2.2.drop 1) jfu 1 l rfl (by omega) (by show _ < 40000; rw [List.length_drop]; omega) l1
        rw [zvr_1 hI.2, ← l2] at this
        exact this
      have hvf : ∀ v, zvn a (zvr S.2.2.2.2 0) l = some v → ∃ f h, S.2.2.2.2[f]? = some h ∧ v = zver f h ∧ f < S.2.2.2.2.length := fun v hv => by
        obtain ⟨i, hi⟩ := List.mem_iff_getElem?.mp (zvn_mem _ _ _ hv)
        obtain ⟨f, h, g1, g2, g3, g4⟩ := zvr_inv _ _ _ _ hi
        rw [Nat.zero_add] at g3
        exact ⟨f, h, g1, g3, (List.getElem?_eq_some_iff.mp g1).1⟩
      by_cases ok : ¬ c < 0 ∧ ¬ nI 2 < c
      · obtain ⟨j, j1, j2⟩ := z_small (m := 2) (by decide) ok.1 ok.2
        refine zQ_c (zvw j (zvn a (zvr S.2.2.2.2 0) l)) (fun w hC => ?_) (fun w hM => ?_)
        · unfold f_X11_version
          rw [z_isKeyC, z_jbd2, h1, if_neg (by decide), hC1 w hC, z_jbd2]
          cases hz : zvn a (zvr S.2.2.2.2 0) l with
          | none => rw [if_pos (show zvf none = -1 from rfl)]; rfl
          | some v =>
            obtain ⟨f, h, g1, g2, g3⟩ := hvf v hz
            subst g2
            have e0 : zvf (some (zver f h)) = nI f := rfl
            rw [e0, if_neg (z_nm1 (by omega)), z_rat (by omega), z_rat (by omega), hC.2.2.2.2.2.1, hC.2.2.2.2.1, z_gm g1, z_gm g1, j2]
            have : j = 0 ∨ j = 1 ∨ j = 2 := by omega
            rcases this with z | z | z
            · subst z; rfl
            · subst z; rfl
            · subst z; rfl
        · unfold f_X12_version
          rw [z_isKeyM, z_jbd2, h1, if_neg (by decide), if_neg nb, z_inM, z_jbd2, if_neg ok.1, if_neg (show ¬ (2 : Int32) < c from ok.2), if_neg (by decide), l2, j2]
          exact z_versionM_l j1 hM.2.2.1 (by omega) (zvr S.2.2.2.2 0) jfu 0 l rfl (by omega) (by show _ < 40000; omega) l1
      · refine zQ_c (-1000) (fun w hC => ?_) (fun w hM => ?_)
        · have n0 : c.toInt ≠ 0 ∧ c.toInt ≠ 1 ∧ c.toInt ≠ 2 := by
            have e2 : (nI 2).toInt = 2 := by decide
            rw [Int32.lt_iff_toInt_lt, Int32.lt_iff_toInt_lt, show (0 : Int32).toInt = 0 by decide, e2] at ok
            omega
          unfold f_X11_version
          rw [z_isKeyC, z_jbd2, h1, if_neg (by decide), hC1 w hC, z_jbd2]
          split
          · rfl
          · rw [if_neg n0.1, if_neg n0.2.1, if_neg n0.2.2]
        · have : (if c < 0 then false else if (2 : Int32) < c then false else true) = false := by
            by_cases d : c < 0
            · rw [if_pos d]
            · rw [if_neg d, if_pos (show (2 : Int32) < c from Classical.byContradiction (fun z => ok ⟨d, z⟩))]
          unfold f_X12_version
          rw [z_isKeyM, z_jbd2, h1, if_neg (by decide), if_neg nb, z_inM, z_jbd2, this]
          rfl
/-! the longest version -/
def zlg (key L : Int32) : List zE → Int32 → Int32 → Int32 → Int32 × Int32
  | [], _, b, l => (b, l)
  | v :: vs, m, b, l => if zky key v = true then (if (if v.2.2.1 = -2 then L else v.2.2.1) - v.2.1 ≤ l then zlg key L vs (m + 1) b l else zlg key L vs (m + 1) m ((if v.2.2.1 = -2 then L else v.2.2.1) - v.2.1)) else zlg key L vs m b l
theorem z_lengthOf {hs : List zH} {w : jw} {f : Nat} {h : zH} (hC : zCh hs w) (hf : hs[f]? = some h) (hl : f < 2 ^ 31) : f_X2_lengthOf (nI f) w = some ((if h.2.2.2 = -2 then nI hs.length else h.2.2.2) - nI f, w) := by
  unfold f_X2_lengthOf
  rw [z_jl, z_rat hl, hC.2.2.2.1, z_gm hf, hC.1, List.length_map]
  split <;> rfl
theorem z_longestC_l {hs : List zH} {w : jw} {key what : Int32} (hC : zCh hs w) (hl : hs.length ≤ 3000) : ∀ (rest : List zH) (n f : Nat) (m b l : Int32), hs.drop f = rest → f ≤ hs.length → rest.length < n → l_X3_longestVersion n key what m b l (nI f) w = some (if what = 0 then (zlg key (nI hs.length) (zvr rest f) m b l).1 else (zlg key (nI hs.length) (zvr rest f) m b l).2, w) := by
  intro rest
  induction rest with
  | nil =>
    intro n f m b l h1 h2 h3
    have hi : hs.length ≤ f := by simpa using h1
    cases n with
    | zero => cases h3
    | succ n =>
      unfold l_X3_longestVersion
      rw [hC.1, List.length_map, if_pos (nI_le hi (by omega))]
      by_cases c : what = 0
      · rw [if_pos c, if_pos c]; rfl
      · rw [if_neg c, if_neg c]; rfl
  | cons h rest ih =>
    intro n f m b l h1 h2 h3
    obtain ⟨g1, g2, g3⟩ := zhdrop h1
    simp only [List.length_cons] at h3
    cases n with
    | zero => cases h3
    | succ n =>
      unfold l_X3_longestVersion
      rw [hC.1, List.length_map, if_neg (nI_ge g3 (by omega)), z_isVersion key hC g1 (by omega), z_jbd2]
      simp only [z_jb0, z_jl, nI_1, z_lengthOf hC g1 (show f < 2 ^ 31 by omega), z_jbd2]
      by_cases p : zpt h = true
      · rw [zvr_c p]
        by_cases d : h.2.1 = key
        · rw [if_neg (by simp [d, p])]
          unfold zlg
          rw [if_pos (show zky key (zver f h) = true by simp [zky, zver, d])]
          rw [show (zver f h).2.2.1 = h.2.2.2 from rfl, show (zver f h).2.1 = nI f from rfl]
          by_cases e : (if h.2.2.2 = -2 then nI hs.length else h.2.2.2) - nI f ≤ l
          · rw [if_pos e, if_pos e]
            exact ih n (f + 1) (m + 1) b l g2 (by omega) (by omega)
          · rw [if_neg e, if_neg e]
            exact ih n (f + 1) (m + 1) m _ g2 (by omega) (by omega)
        · rw [if_pos (by simp [d])]
          unfold zlg
          rw [if_neg (show ¬ zky key (zver f h) = true by simp [zky, zver, d])]
          exact ih n (f + 1) m b l g2 (by omega) (by omega)
      · rw [zvr_s p, if_pos (by simp [p])]
        exact ih n (f + 1) m b l g2 (by omega) (by omega)
theorem z_longestM_l {hs : List zH} {w : jw} {key what : Int32} (h : zMh hs (w.2.1 182)) (h0 : w.2.1 182 0 + 1 = nI hs.length) (hl : hs.length ≤ 3000) : ∀ (rest : List zE) (n i : Nat) (m b l : Int32), (zvr hs 0).drop i = rest → i ≤ (zvr hs 0).length → rest.length < n → l_X12_longest n key what b l m (nI (18100 + 4 * i)) w = some (if what = 0 then (zlg key (nI hs.length) rest m b l).1 else (zlg key (nI hs.length) rest m b l).2, w) := by
  have vl := zvr_le hs
  intro rest
  induction rest with
  | nil =>
    intro n i m b l h1 h2 h3
    have hi : (zvr hs 0).length ≤ i := by simpa using h1
    cases n with
    | zero => cases h3
    | succ n =>
      unfold l_X12_longest
      rw [z_jg j_4, k_4, h.2.1, z_18, if_pos (nI_le (by omega) (by omega))]
      by_cases c : what = 0
      · rw [if_pos c, if_pos c]; rfl
      · rw [if_neg c, if_neg c]; rfl
  | cons v rest ih =>
    intro n i m b l h1 h2 h3
    obtain ⟨g1, g2, g3⟩ := zvdrop h1
    simp only [List.length_cons] at h3
    obtain ⟨f1, f2, f3, f4⟩ := h.1 i v g1
    cases n with
    | zero => cases h3
    | succ n =>
      unfold l_X12_longest zlg
      have nx : 18100 + 4 * i + 4 = 18100 + 4 * (i + 1) := by omega
      rw [z_jg j_4, k_4, h.2.1, z_18, if_neg (nI_ge (by omega) (by omega)), z_jg (z_in (by omega) (by decide)), nI_clamp (by omega), f1]
      simp only [z_jl, nI_p4, nI_p2, nI_1, nx, z_jg j_0, k_0, h0, z_jg (z_in (show 18100 + 4 * i + 2 < 34700 by omega) (by decide)), z_jg (z_in (show 18100 + 4 * i + 1 < 34700 by omega) (by decide)), nI_clamp (show 18100 + 4 * i + 2 < 2 ^ 31 by omega), nI_clamp (show 18100 + 4 * i + 1 < 2 ^ 31 by omega), f2, f3]
      by_cases d : v.1 = key
      · rw [if_pos d, if_pos (show zky key v = true by simp [zky, d])]
        by_cases c : v.2.2.1 = -2
        · simp only [if_pos c]
          by_cases e : nI hs.length - v.2.1 ≤ l
          · rw [if_pos e, if_pos e]
            exact ih n (i + 1) (m + 1) b l g2 (by omega) (by omega)
          · rw [if_neg e, if_neg e]
            exact ih n (i + 1) (m + 1) m _ g2 (by omega) (by omega)
        · simp only [if_neg c]
          by_cases e : v.2.2.1 - v.2.1 ≤ l
          · rw [if_pos e, if_pos e]
            exact ih n (i + 1) (m + 1) b l g2 (by omega) (by omega)
          · rw [if_neg e, if_neg e]
            exact ih n (i + 1) (m + 1) m _ g2 (by omega) (by omega)
      · rw [if_neg d, if_neg (show ¬ zky key v = true by simp [zky, d])]
        exact ih n (i + 1) m b l g2 (by omega) (by omega)
theorem q_longest {S : zS} (hI : zIn S) (hl : S.2.2.2.2.length ≤ 2900) (a b : Int32) : zQ S (f_X11_longest a b) (f_X12_longest a b) := by
  have l0 := zHi_len hI.2
  have vl := zvr_le S.2.2.2.2
  cases h1 : zik a with
  | false => exact zQ_c (-1) (fun w _ => by unfold f_X11_longest; rw [z_isKeyC, z_jbd2, h1]; rfl) (fun w _ => by unfold f_X12_longest; rw [z_isKeyM, z_jbd2, h1]; rfl)
  | true =>
    cases h2 : zei b with
    | false => exact zQ_c (-1) (fun w _ => by unfold f_X11_longest; rw [z_isKeyC, z_jbd2, h1, if_neg (by decide), z_isEitherC, z_jbd2, h2]; rfl) (fun w _ => by unfold f_X12_longest; rw [z_isKeyM, z_jbd2, h1, if_neg (by decide), z_in01, z_jbd2, h2]; rfl)
    | true =>
      refine zQ_c (if b = 0 then (zlg a (nI S.2.2.2.2.length) (zvr S.2.2.2.2 0) 0 (-2) (-2)).1 else (zlg a (nI S.2.2.2.2.length) (zvr S.2.2.2.2 0) 0 (-2) (-2)).2) (fun w hC => ?_) (fun w hM => ?_)
      · unfold f_X11_longest f_X3_longestVersion
        rw [z_isKeyC, z_jbd2, h1, if_neg (by decide), z_isEitherC, z_jbd2, h2, if_neg (by decide)]
        have := z_longestC_l (key := a) (what := b) hC.2.2 (by omega) (S.2.2.2.2.drop 1) jfu 1 0 (-2) (-2) rfl (by omega) (by show _ < 40000; rw [List.length_drop]; omega)
        rw [zvr_1 hI.2] at this
        rw [show l_X3_longestVersion jfu a b 0 (-2) (-2) 1 w = _ from this, z_jbd2]
      · unfold f_X12_longest
        rw [z_isKeyM, z_jbd2, h1, if_neg (by decide), z_in01, z_jbd2, h2, if_neg (by decide)]
        have h0 : w.2.1 182 0 + 1 = nI S.2.2.2.2.length := by rw [hM.2.2.2, nI_1, show S.2.2.2.2.length - 1 + 1 = S.2.2.2.2.length by omega]
        exact z_longestM_l (key := a) (what := b) hM.2.2.1 h0 (by omega) (zvr S.2.2.2.2 0) jfu 0 0 (-2) (-2) rfl (by omega) (by show _ < 40000; omega)
end
