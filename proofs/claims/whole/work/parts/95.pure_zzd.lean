section
/-! the class's Lexer: words, one token, all -/
theorem zkw_C {bs : List Int32} {w : jw} {p q : Nat} (hb : w.2.2.2 1 = bs) (hl : bs.length ≤ 2000) (hp : p ≤ q) (hq : q ≤ bs.length) : f_X4_kindOfWord (nI p) (nI q) w = some (zkC (zkw (zwd bs p q)), w) := by
  unfold f_X4_kindOfWord f_X4_kindOfVar zkw
  rw [z_sp0 hb hl hp hq, z_jbd2]
  by_cases c0 : zwd bs p q = [112, 117, 116]
  · rw [if_pos c0, decide_eq_true c0, if_neg (show ¬ jb true = 0 by decide)]; rfl
  rw [if_neg c0, decide_eq_false c0, if_pos (show jb false = 0 from rfl)]
  rw [z_sp1 hb hl hp hq, z_jbd2]
  by_cases c1 : zwd bs p q = [99, 117, 116]
  · rw [if_pos c1, decide_eq_true c1, if_neg (show ¬ jb true = 0 by decide)]; rfl
  rw [if_neg c1, decide_eq_false c1, if_pos (show jb false = 0 from rfl)]
  rw [z_sp2 hb hl hp hq, z_jbd2]
  by_cases c2 : zwd bs p q = [100, 111]
  · rw [if_pos c2, decide_eq_true c2, if_neg (show ¬ jb true = 0 by decide)]; rfl
  rw [if_neg c2, decide_eq_false c2, if_pos (show jb false = 0 from rfl)]
  rw [z_sp3 hb hl hp hq, z_jbd2]
  by_cases c3 : zwd bs p q = [101, 110, 100]
  · rw [if_pos c3, decide_eq_true c3, if_neg (show ¬ jb true = 0 by decide)]; rfl
  rw [if_neg c3, decide_eq_false c3, if_pos (show jb false = 0 from rfl)]
  rw [z_sp4 hb hl hp hq, z_jbd2]
  by_cases c4 : zwd bs p q = [112, 97, 103, 101]
  · rw [if_pos c4, decide_eq_true c4, if_neg (show ¬ jb true = 0 by decide)]; rfl
  rw [if_neg c4, decide_eq_false c4, if_pos (show jb false = 0 from rfl)]
  rw [z_sp5 hb hl hp hq, z_jbd2]
  by_cases c5 : zwd bs p q = [105]
  · rw [if_pos c5, decide_eq_true c5, if_neg (show ¬ jb true = 0 by decide)]; rfl
  rw [if_neg c5, decide_eq_false c5, if_pos (show jb false = 0 from rfl)]
  rw [z_sp6 hb hl hp hq, z_jbd2]
  by_cases c6 : zwd bs p q = [106]
  · rw [if_pos c6, decide_eq_true c6, if_neg (show ¬ jb true = 0 by decide)]; rfl
  rw [if_neg c6, decide_eq_false c6, if_pos (show jb false = 0 from rfl)]
  rw [z_sp7 hb hl hp hq, z_jbd2]
  by_cases c7 : zwd bs p q = [116, 105, 109, 101]
  · rw [if_pos c7, decide_eq_true c7, if_neg (show ¬ jb true = 0 by decide)]; rfl
  rw [if_neg c7, decide_eq_false c7, if_pos (show jb false = 0 from rfl)]
  rw [z_sp8 hb hl hp hq, z_jbd2]
  by_cases c8 : zwd bs p q = [108, 105, 118, 101]
  · rw [if_pos c8, decide_eq_true c8, if_neg (show ¬ jb true = 0 by decide)]; rfl
  rw [if_neg c8, decide_eq_false c8, if_pos (show jb false = 0 from rfl)]
  rw [z_sp9 hb hl hp hq, z_jbd2]
  by_cases c9 : zwd bs p q = [108, 97, 115, 116]
  · rw [if_pos c9, decide_eq_true c9, if_neg (show ¬ jb true = 0 by decide)]; rfl
  rw [if_neg c9, decide_eq_false c9, if_pos (show jb false = 0 from rfl)]
  rw [z_sp10 hb hl hp hq, z_jbd2]
  by_cases c10 : zwd bs p q = [112, 97, 103, 101, 115]
  · rw [if_pos c10, decide_eq_true c10, if_neg (show ¬ jb true = 0 by decide)]; rfl
  rw [if_neg c10, decide_eq_false c10, if_pos (show jb false = 0 from rfl)]
  rfl
theorem z_wordC_l {bs : List Int32} {p : Nat} (hl : bs.length ≤ 2000) {T : List zT} {w : jw} (hb : w.2.2.2 1 = bs) (hT : zTC T w) (lT : T.length ≤ 4000) : ∀ (d n i : Nat), i + d = bs.length → d < n → p ≤ i → ∃ w', l_X4_lexWord n (nI p) (nI i) w = some (nI (zrn zLe bs i), w') ∧ zTC (T ++ [(if 8 < zrn zLe bs i - p then kNo else zkw (zwd bs p (zrn zLe bs i)), nI p, 0)]) w' ∧ zfLx w w' := by
  have fin : ∀ i, p ≤ i → i ≤ bs.length → ∃ w', (if (nI i - nI p) ≤ 8 then jbd2 (f_X4_kindOfWord (nI p) (nI i) w) fun x4 w5 => jbd (f_X4_keep x4 0 (nI p) w5) fun q6 => some (nI i, q6) else jbd (f_X4_keep 1 0 (nI p) w) fun q7 => some (nI i, q7)) = some (nI i, w') ∧ zTC (T ++ [(if 8 < i - p then kNo else zkw (zwd bs p i), nI p, 0)]) w' ∧ zfLx w w' := fun i h1 h2 => by
    rw [pk_sub h1]
    by_cases c : 8 < i - p
    · rw [if_neg (show ¬ nI (i - p) ≤ 8 from nI_ge (a := 8) c (by omega)), if_pos c]
      obtain ⟨w', e1, e2, e3⟩ := z_keep hT lT kNo 0 (nI p)
      exact ⟨w', by rw [show (1 : Int32) = zkC kNo from rfl, e1, z_jbd], e2, e3⟩
    · rw [if_pos (show nI (i - p) ≤ 8 from nI_le (b := 8) (by omega) (by omega)), if_neg c, zkw_C hb hl h1 h2, z_jbd2]
      obtain ⟨w', e1, e2, e3⟩ := z_keep hT lT (zkw (zwd bs p i)) 0 (nI p)
      exact ⟨w', by rw [e1, z_jbd], e2, e3⟩
  intro d
  induction d with
  | zero =>
    intro n i h1 h2 h3
    cases n with
    | zero => cases h2
    | succ n =>
      unfold l_X4_lexWord
      rw [hb, if_pos (nI_le (by omega) (by omega)), zrn_e (by omega)]
      exact fin i h3 (by omega)
  | succ d ih =>
    intro n i h1 h2 h3
    cases n with
    | zero => cases h2
    | succ n =>
      unfold l_X4_lexWord
      rw [hb, if_neg (nI_ge (by omega) (by omega)), z_rat (by omega), z_letC, z_jbd2]
      cases c : zLe (bs.getD i 0) with
      | false =>
        rw [if_pos (show jb false = 0 from rfl), zrn_f c]
        exact fin i h3 (by omega)
      | true =>
        rw [if_neg (show ¬ jb true = 0 by decide), z_jl, nI_1, zrn_t (by omega) c]
        exact ih n (i + 1) (by omega) (by omega) (by omega)
theorem z_six : ∀ k : Fin 256, (six 11 ((Int32.toUInt32 (nI k.1) % 65536).toInt32) < 0 ∧ zsg (nI k.1) = kNo) ∨ (¬ six 11 ((Int32.toUInt32 (nI k.1) % 65536).toInt32) < 0 ∧ zkC (zsg (nI k.1)) = nI k.1) := by decide +kernel
theorem z_255 {x : Int32} (h : x &&& 255 = x) : ∃ k, k < 256 ∧ x = nI k := by
  have h1 : x.toBitVec &&& 255#32 = x.toBitVec := by
    have := congrArg Int32.toBitVec h
    simpa using this
  have h2 : x.toBitVec.toNat < 256 := by
    have h3 : (x.toBitVec &&& 255#32).toNat = x.toBitVec.toNat := by rw [h1]
    rw [BitVec.toNat_and] at h3
    have h4 : x.toBitVec.toNat &&& (255#32).toNat ≤ (255#32).toNat := Nat.and_le_right
    have h5 : (255#32).toNat = 255 := rfl
    omega
  refine ⟨x.toBitVec.toNat, h2, Int32.toBitVec_inj.mp ?_⟩
  apply BitVec.eq_of_toNat_eq
  show _ = (BitVec.ofNat 32 x.toBitVec.toNat).toNat
  rw [BitVec.toNat_ofNat]
  omega
theorem z_oneC {bs : List Int32} (hl : bs.length ≤ 2000) (hx : ∀ x ∈ bs, x &&& 255 = x) {T : List zT} {w : jw} (hb : w.2.2.2 1 = bs) (hT : zTC T w) (lT : T.length ≤ 4000) {p : Nat} (hp : p ≤ 3000) : ∃ w', f_X4_lexOne (nI p) w = some (nI (ztk bs p).2, w') ∧ zTC (T ++ [(ztk bs p).1]) w' ∧ zfLx w w' := by
  unfold f_X4_lexOne ztk
  rw [hb, z_rat (by omega), z_jl]
  by_cases c : bs.length ≤ p
  · rw [if_neg (show ¬ nI p < nI bs.length from nI_nlt (by omega) (by omega)), if_pos c, nI_1]
    obtain ⟨w', e1, e2, e3⟩ := z_keep hT lT kStop 0 (nI p)
    exact ⟨w', by rw [show f_X4_keep 0 0 (nI p) w = some w' from e1, z_jbd], e2, e3⟩
  · rw [if_pos (nI_lt (by omega) (by omega)), if_neg c, z_letC, z_jbd2]
    cases d : zLe (bs.getD p 0) with
    | true =>
      rw [if_neg (show ¬ jb true = 0 by decide), if_pos rfl]
      obtain ⟨w', e1, e2, e3⟩ := z_wordC_l (p := p) hl hb hT lT (bs.length - p) jfu p (by omega) (show _ < 40000 by omega) (Nat.le_refl _)
      exact ⟨w', by rw [show f_X4_lexWord (nI p) w = _ from e1, z_jbd2], e2, e3⟩
    | false =>
      rw [if_pos (show jb false = 0 from rfl), if_neg (by decide), z_digC, z_jbd2]
      cases f : zDg (bs.getD p 0) with
      | true =>
        rw [if_neg (show ¬ jb true = 0 by decide), if_pos rfl]
        obtain ⟨w', e1, e2, e3⟩ := z_intC_l (p := p) hl hb hT lT (bs.length - p) jfu p (by omega) (show _ < 40000 by omega) (Nat.le_refl _)
        rw [zwd_0] at e1
        exact ⟨w', by rw [show f_X4_lexInt (nI p) w = _ from e1, z_jbd2], e2, e3⟩
      | false =>
        rw [if_pos (show jb false = 0 from rfl), if_neg (show ¬ (false = true) by decide), nI_1]
        have mx : bs.getD p 0 ∈ bs := by
          rw [List.getD_eq_getElem?_getD, List.getElem?_eq_getElem (show p < bs.length by omega)]
          exact List.getElem_mem _
        obtain ⟨k, k1, k2⟩ := z_255 (hx _ mx)
        have s : (six 11 ((Int32.toUInt32 (nI k) % 65536).toInt32) < 0 ∧ zsg (nI k) = kNo) ∨ (¬ six 11 ((Int32.toUInt32 (nI k) % 65536).toInt32) < 0 ∧ zkC (zsg (nI k)) = nI k) := z_six ⟨k, k1⟩
        rw [k2]
        rcases s with ⟨s1, s2⟩ | ⟨s1, s2⟩
        · obtain ⟨w', e1, e2, e3⟩ := z_keep hT lT kNo 0 (nI p)
          rw [if_pos s1, s2]
          exact ⟨w', by rw [show f_X4_keep 1 0 (nI p) w = some w' from e1, z_jbd], e2, e3⟩
        · obtain ⟨w', e1, e2, e3⟩ := z_keep hT lT (zsg (nI k)) 0 (nI p)
          rw [if_neg s1]
          rw [s2] at e1
          exact ⟨w', by rw [e1, z_jbd], e2, e3⟩
theorem ztk_n {bs : List Int32} {p : Nat} (h : p ≤ bs.length + 1) : p < (ztk bs p).2 ∧ ((ztk bs p).1.1 ≠ kStop → (ztk bs p).2 ≤ bs.length) ∧ ((ztk bs p).1.1 ≠ kStop → p < bs.length) := by
  unfold ztk
  by_cases c : bs.length ≤ p
  · rw [if_pos c]
    exact ⟨Nat.lt_succ_self _, fun z => absurd rfl z, fun z => absurd rfl z⟩
  · rw [if_neg c]
    by_cases d : zLe (bs.getD p 0) = true
    · rw [if_pos d, zrn_t (by omega) d]
      exact ⟨by have := zrn_ge zLe bs (p + 1); show p < zrn zLe bs (p + 1); omega, fun _ => zrn_le (by omega), fun _ => by omega⟩
    · rw [if_neg d]
      by_cases e : zDg (bs.getD p 0) = true
      · rw [if_pos e, zrn_t (by omega) e]
        exact ⟨by have := zrn_ge zDg bs (p + 1); show p < zrn zDg bs (p + 1); omega, fun _ => zrn_le (by omega), fun _ => by omega⟩
      · rw [if_neg e]
        exact ⟨Nat.lt_succ_self _, fun _ => by show p + 1 ≤ bs.length; omega, fun _ => by omega⟩
theorem z_lexC_l {bs : List Int32} (hl : bs.length ≤ 2000) (hx : ∀ x ∈ bs, x &&& 255 = x) : ∀ (m n i : Nat) (T : List zT) (w : jw), w.2.2.2 1 = bs → zTC T w → T.length + m = 401 → m < n → i ≤ bs.length → ∃ w', l_X4_lexAll n (nI i) (nI T.length) w = some w' ∧ zTC (T ++ zlxc bs m i) w' ∧ zfLx w w' := by
  intro m
  induction m with
  | zero =>
    intro n i T w hb hT h1 h2 h3
    cases n with
    | zero => cases h2
    | succ n =>
      unfold l_X4_lexAll zlxc
      rw [if_pos (show (400 : Int32) < nI T.length from nI_lt (a := 400) (by omega) (by omega)), List.append_nil]
      exact ⟨w, rfl, hT, zfLx_rfl w⟩
  | succ m ih =>
    intro n i T w hb hT h1 h2 h3
    cases n with
    | zero => cases h2
    | succ n =>
      have pl := zrn_le (f := zBl) h3
      obtain ⟨w1, e1, e2, e3⟩ := z_oneC hl hx hb hT (by omega) (p := zrn zBl bs i) (by omega)
      have rk : rat (w1.2.2.2 4) (nI T.length) = zkC (ztk bs (zrn zBl bs i)).1.1 := by
        rw [z_rat (by omega), e2.1, List.map_append, List.getD_eq_getElem?_getD, List.getElem?_append_right (by rw [List.length_map]; exact Nat.le_refl _), List.length_map, Nat.sub_self]
        rfl
      unfold l_X4_lexAll
      rw [if_neg (show ¬ (400 : Int32) < nI T.length from nI_nlt (a := 400) (by omega) (by decide)), z_blankC hb hl (by omega), z_jbd2, e1, z_jbd2, rk, z_jl]
      by_cases c : (ztk bs (zrn zBl bs i)).1.1 = kStop
      · rw [if_pos (show zkC _ = 0 from by rw [c]; rfl)]
        refine ⟨w1, rfl, ?_, e3⟩
        rw [zlxc, if_pos (Or.inl c)]
        exact e2
      · rw [if_neg (show ¬ zkC _ = 0 from fun z => c (zkC_eq.mp (z.trans (show (0 : Int32) = zkC kStop from rfl))))]
        by_cases d : (ztk bs (zrn zBl bs i)).1.1 = kNo
        · rw [if_pos (show zkC _ = 1 from by rw [d]; rfl)]
          refine ⟨w1, rfl, ?_, e3⟩
          rw [zlxc, if_pos (Or.inr d)]
          exact e2
        · rw [if_neg (show ¬ zkC _ = 1 from fun z => d (zkC_eq.mp (z.trans (show (1 : Int32) = zkC kNo from rfl)))), z_jl, nI_1]
          have nx := (ztk_n (bs := bs) (p := zrn zBl bs i) (by omega)).2.1 c
          obtain ⟨w2, f1, f2, f3⟩ := ih n (ztk bs (zrn zBl bs i)).2 (T ++ [(ztk bs (zrn zBl bs i)).1]) w1 (by rw [e3.2.2.2 1 (by decide) (by decide) (by decide)]; exact hb) e2 (by rw [List.length_append, List.length_singleton]; omega) (by omega) nx
          rw [List.length_append, List.length_singleton] at f1
          refine ⟨w2, f1, ?_, zfLx_trans e3 f3⟩
          rw [zlxc, if_neg (by rintro (z | z); exact c z; exact d z)]
          rw [List.append_assoc] at f2
          exact f2
theorem z_lexC {bs : List Int32} {w : jw} (hl : bs.length ≤ 2000) (hx : ∀ x ∈ bs, x &&& 255 = x) (hb : w.2.2.2 1 = bs) : ∃ w', f_X4_lexAll w = some w' ∧ zTC (zlxc bs 401 0) w' ∧ zfLx w w' := by
  unfold f_X4_lexAll
  have c0 : ∀ l : List Int32, rcut l 0 = [] := fun l => by unfold rcut; simp
  rw [c0, z_jl, c0, z_jl, c0, z_jl]
  obtain ⟨w', e1, e2, e3⟩ := z_lexC_l hl hx 401 jfu 0 [] (jsetR (jsetR (jsetR w 4 []) 6 []) 8 []) hb ⟨rfl, rfl, rfl⟩ rfl (by decide) (by omega)
  exact ⟨w', e1, e2, zfLx_trans (b := jsetR (jsetR (jsetR w 4 []) 6 []) 8 []) ⟨rfl, rfl, rfl, fun k k1 k2 k3 => by rw [z_jR2 k3, z_jR2 k2, z_jR2 k1]⟩ e3⟩
end
