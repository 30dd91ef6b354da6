section
/-! the text cut up: kinds of tokens, as they are in themselves -/
abbrev zK : Type := Fin 22
abbrev kStop : zK := 0
abbrev kNo : zK := 1
abbrev kInt : zK := 2
abbrev kPage : zK := 3
abbrev kPut : zK := 4
abbrev kCut : zK := 5
abbrev kDo : zK := 6
abbrev kEn : zK := 7
abbrev kSemi : zK := 14
abbrev kLp : zK := 15
abbrev kRp : zK := 16
def zkC (k : zK) : Int32 := [0, 1, 2, 3, 4, 5, 6, 7, 8, 9, 10, 11, 12, 13, 59, 40, 41, 43, 45, 42, 47, 37].getD k.1 0
def zkR (k : zK) : Int32 := [0, 3, 2, 20, 21, 22, 23, 24, 25, 26, 27, 28, 29, 30, 4, 6, 7, 8, 9, 10, 15, 16].getD k.1 0
theorem zkC_in : ∀ a b : zK, zkC a = zkC b → a = b := by decide
theorem zkC_eq {a b : zK} : zkC a = zkC b ↔ a = b := ⟨zkC_in a b, fun h => by rw [h]⟩
def zRk (k : zK) (r : Int32) : Prop := r = zkR k ∨ (k = kNo ∧ r = 1)
theorem zkR_in : ∀ a b : zK, zkR a = zkR b → a = b := by decide
theorem zkR_1 : ∀ b : zK, zkR b ≠ 1 := by decide
theorem zRk_eq {k b : zK} {r : Int32} (h : zRk k r) (hb : b ≠ kNo) : r = zkR b ↔ k = b := by
  rcases h with h | ⟨h1, h2⟩
  · rw [h]
    exact ⟨zkR_in k b, fun e => by rw [e]⟩
  · rw [h1, h2]
    exact ⟨fun e => absurd e.symm (zkR_1 b), fun e => absurd e.symm hb⟩
abbrev zT : Type := zK × Int32 × Int32
def zBl (x : Int32) : Bool := if x = 9 then true else if x = 10 then true else if x = 13 then true else if x = 32 then true else false
def zLe (x : Int32) : Bool := if x < 97 then false else if 122 < x then false else true
def zDg (x : Int32) : Bool := if x < 48 then false else if 57 < x then false else true
def zrn (f : Int32 → Bool) (bs : List Int32) (i : Nat) : Nat := i + ((bs.drop i).takeWhile f).length
theorem z_drop {bs : List Int32} {i : Nat} (h : i < bs.length) : bs.drop i = bs.getD i 0 :: bs.drop (i + 1) := by
  rw [List.getD_eq_getElem?_getD, List.getElem?_eq_getElem h, List.drop_eq_getElem_cons h]
  rfl
theorem zrn_t {f : Int32 → Bool} {bs : List Int32} {i : Nat} (h : i < bs.length) (hf : f (bs.getD i 0) = true) : zrn f bs i = zrn f bs (i + 1) := by
  unfold zrn
  rw [z_drop h, List.takeWhile_cons_of_pos hf, List.length_cons]
  omega
theorem zrn_f {f : Int32 → Bool} {bs : List Int32} {i : Nat} (hf : f (bs.getD i 0) = false) : zrn f bs i = i := by
  unfold zrn
  by_cases h : i < bs.length
  · rw [z_drop h, List.takeWhile_cons_of_neg (by rw [hf]; decide)]
    rfl
  · rw [List.drop_eq_nil_of_le (by omega)]
    rfl
theorem zrn_e {f : Int32 → Bool} {bs : List Int32} {i : Nat} (h : bs.length ≤ i) : zrn f bs i = i := by
  unfold zrn
  rw [List.drop_eq_nil_of_le h]
  rfl
theorem zrn_ge (f : Int32 → Bool) (bs : List Int32) (i : Nat) : i ≤ zrn f bs i := by unfold zrn; omega
theorem zrn_le {f : Int32 → Bool} {bs : List Int32} {i : Nat} (h : i ≤ bs.length) : zrn f bs i ≤ bs.length := by
  unfold zrn
  have h1 : ((bs.drop i).takeWhile f).length ≤ (bs.drop i).length := (List.takeWhile_sublist f).length_le
  rw [List.length_drop] at h1
  omega
def zwd (bs : List Int32) (p q : Nat) : List Int32 := (bs.drop p).take (q - p)
def zkw (ws : List Int32) : zK := if ws = [112, 117, 116] then kPut else if ws = [99, 117, 116] then kCut else if ws = [100, 111] then kDo else if ws = [101, 110, 100] then kEn else if ws = [112, 97, 103, 101] then kPage else if ws = [105] then 8 else if ws = [106] then 9 else if ws = [116, 105, 109, 101] then 10 else if ws = [108, 105, 118, 101] then 11 else if ws = [108, 97, 115, 116] then 12 else if ws = [112, 97, 103, 101, 115] then 13 else kNo
def zsg (x : Int32) : zK := if x = 59 then kSemi else if x = 40 then kLp else if x = 41 then kRp else if x = 43 then 17 else if x = 45 then 18 else if x = 42 then 19 else if x = 47 then 20 else if x = 37 then 21 else kNo
def znm (l : List Int32) (v : Int32) : Int32 := l.foldl (fun v d => v * 10 + d - 48) v
def ztk (bs : List Int32) (p : Nat) : zT × Nat :=
  if bs.length ≤ p then ((kStop, nI p, 0), p + 1)
  else if zLe (bs.getD p 0) = true then ((if 8 < zrn zLe bs p - p then kNo else zkw (zwd bs p (zrn zLe bs p)), nI p, 0), zrn zLe bs p)
  else if zDg (bs.getD p 0) = true then ((if 4 < zrn zDg bs p - p then kNo else kInt, nI p, znm (zwd bs p (zrn zDg bs p)) 0), zrn zDg bs p)
  else ((zsg (bs.getD p 0), nI p, 0), p + 1)
def zlxc (bs : List Int32) : Nat → Nat → List zT
  | 0, _ => []
  | m + 1, i => if (ztk bs (zrn zBl bs i)).1.1 = kStop ∨ (ztk bs (zrn zBl bs i)).1.1 = kNo then [(ztk bs (zrn zBl bs i)).1] else (ztk bs (zrn zBl bs i)).1 :: zlxc bs m (ztk bs (zrn zBl bs i)).2
def zlxr (bs : List Int32) : Nat → Nat → List zT
  | 0, _ => []
  | m + 1, i => if (ztk bs (zrn zBl bs i)).1.1 = kStop then [(ztk bs (zrn zBl bs i)).1] else (ztk bs (zrn zBl bs i)).1 :: zlxr bs m (ztk bs (zrn zBl bs i)).2
theorem zlx_pre (bs : List Int32) : ∀ (m i : Nat), zlxc bs m i <+: zlxr bs m i := by
  intro m
  induction m with
  | zero => intro i; exact List.prefix_refl _
  | succ m ih =>
    intro i
    unfold zlxc zlxr
    by_cases c : (ztk bs (zrn zBl bs i)).1.1 = kStop
    · rw [if_pos (Or.inl c), if_pos c]
      exact List.prefix_refl _
    · rw [if_neg c]
      by_cases d : (ztk bs (zrn zBl bs i)).1.1 = kNo
      · rw [if_pos (Or.inr d)]
        exact ⟨zlxr bs m (ztk bs (zrn zBl bs i)).2, rfl⟩
      · rw [if_neg (by rintro (z | z); exact c z; exact d z)]
        obtain ⟨r, hr⟩ := ih (ztk bs (zrn zBl bs i)).2
        exact ⟨r, by rw [List.cons_append, hr]⟩
/-- what the class's Lexer leaves: no stop and no wrong token but at its end -/
def zTok (T : List zT) : Prop := T ≠ [] ∧ T.length ≤ 401 ∧ (∀ (i : Nat) (x : zT), T[i]? = some x → i + 1 < T.length → x.1 ≠ kStop ∧ x.1 ≠ kNo) ∧ (T.length ≤ 400 → ∀ x, T[T.length - 1]? = some x → x.1 = kStop ∨ x.1 = kNo)
theorem zlxc_ok (bs : List Int32) : ∀ (m i : Nat), zlxc bs (m + 1) i ≠ [] ∧ (zlxc bs (m + 1) i).length ≤ m + 1 ∧ (∀ (j : Nat) (x : zT), (zlxc bs (m + 1) i)[j]? = some x → j + 1 < (zlxc bs (m + 1) i).length → x.1 ≠ kStop ∧ x.1 ≠ kNo) ∧ ((zlxc bs (m + 1) i).length ≤ m → ∀ x, (zlxc bs (m + 1) i)[(zlxc bs (m + 1) i).length - 1]? = some x → x.1 = kStop ∨ x.1 = kNo) := by
  intro m
  induction m with
  | zero =>
    intro i
    have e : zlxc bs (0 + 1) i = [(ztk bs (zrn zBl bs i)).1] := by
      unfold zlxc
      split
      · rfl
      · rfl
    rw [e]
    refine ⟨by simp, by simp, fun j x h1 h2 => ?_, fun h => ?_⟩
    · simp at h2
    · simp at h
  | succ m ih =>
    intro i
    by_cases c : (ztk bs (zrn zBl bs i)).1.1 = kStop ∨ (ztk bs (zrn zBl bs i)).1.1 = kNo
    · have e : zlxc bs (m + 1 + 1) i = [(ztk bs (zrn zBl bs i)).1] := by rw [zlxc, if_pos c]
      rw [e]
      refine ⟨by simp, by simp, fun j x h1 h2 => ?_, fun h x hx => ?_⟩
      · simp at h2
      · cases hx
        exact c
    · have e : zlxc bs (m + 1 + 1) i = (ztk bs (zrn zBl bs i)).1 :: zlxc bs (m + 1) (ztk bs (zrn zBl bs i)).2 := by rw [zlxc, if_neg c]
      obtain ⟨g1, g2, g3, g4⟩ := ih (ztk bs (zrn zBl bs i)).2
      have gl : 0 < (zlxc bs (m + 1) (ztk bs (zrn zBl bs i)).2).length := List.length_pos_iff.mpr g1
      rw [e]
      refine ⟨by simp, by rw [List.length_cons]; omega, fun j x h1 h2 => ?_, fun h x hx => ?_⟩
      · rw [List.length_cons] at h2
        cases j with
        | zero => cases h1; exact ⟨fun z => c (Or.inl z), fun z => c (Or.inr z)⟩
        | succ j => exact g3 j x h1 (by omega)
      · rw [List.length_cons] at h hx
        refine g4 (by omega) x ?_
        rw [show (zlxc bs (m + 1) (ztk bs (zrn zBl bs i)).2).length + 1 - 1 = ((zlxc bs (m + 1) (ztk bs (zrn zBl bs i)).2).length - 1) + 1 by omega, List.getElem?_cons_succ] at hx
        exact hx
theorem zlxc_tok (bs : List Int32) : zTok (zlxc bs 401 0) := by
  obtain ⟨g1, g2, g3, g4⟩ := zlxc_ok bs 400 0
  exact ⟨g1, g2, g3, g4⟩
/-! the class's Lexer -/
def zTC (T : List zT) (w : jw) : Prop := w.2.2.2 4 = T.map (fun x => zkC x.1) ∧ w.2.2.2 6 = T.map (fun x => x.2.2) ∧ w.2.2.2 8 = T.map (fun x => x.2.1)
def zfLx (w w' : jw) : Prop := w'.1 = w.1 ∧ w'.2.1 = w.2.1 ∧ w'.2.2.1 = w.2.2.1 ∧ ∀ k, k ≠ 4 → k ≠ 6 → k ≠ 8 → w'.2.2.2 k = w.2.2.2 k
theorem zfLx_rfl (w : jw) : zfLx w w := ⟨rfl, rfl, rfl, fun _ _ _ _ => rfl⟩
theorem zfLx_trans {a b c : jw} (h : zfLx a b) (g : zfLx b c) : zfLx a c := ⟨g.1.trans h.1, g.2.1.trans h.2.1, g.2.2.1.trans h.2.2.1, fun k k1 k2 k3 => (g.2.2.2 k k1 k2 k3).trans (h.2.2.2 k k1 k2 k3)⟩
theorem z_keep {T : List zT} {w : jw} (h : zTC T w) (hl : T.length ≤ 4000) (k : zK) (v pl : Int32) : ∃ w', f_X4_keep (zkC k) v pl w = some w' ∧ zTC (T ++ [(k, pl, v)]) w' ∧ zfLx w w' := by
  obtain ⟨h1, h2, h3⟩ := h
  refine ⟨jsetR (jsetR (jsetR w 4 (w.2.2.2 4 ++ [zkC k])) 6 (w.2.2.2 6 ++ [v])) 8 (w.2.2.2 8 ++ [pl]), ?_, ⟨?_, ?_, ?_⟩, ⟨rfl, rfl, rfl, fun q q1 q2 q3 => ?_⟩⟩
  · unfold f_X4_keep
    rw [z_jg (decide_eq_true (by rw [h1, List.length_map]; omega)), z_jl, z_jR2 (by decide), z_jg (decide_eq_true (by rw [h2, List.length_map]; omega)), z_jl, z_jR2 (by decide), z_jR2 (by decide), z_jg (decide_eq_true (by rw [h3, List.length_map]; omega)), z_jl]
  · rw [z_jR2 (by decide), z_jR2 (by decide), z_jR1, h1, List.map_append]; rfl
  · rw [z_jR2 (by decide), z_jR1, h2, List.map_append]; rfl
  · rw [z_jR1, h3, List.map_append]; rfl
  · rw [z_jR2 q3, z_jR2 q2, z_jR2 q1]
theorem z_blankC_l {bs : List Int32} {w : jw} {b1 : Int32} (hb : w.2.2.2 1 = bs) (hl : bs.length ≤ 2000) : ∀ (d n i : Nat), i + d = bs.length → d < n → l_X4_pastBlanks n b1 (nI i) w = some (nI (zrn zBl bs i), w) := by
  intro d
  induction d with
  | zero =>
    intro n i h1 h2
    cases n with
    | zero => cases h2
    | succ n =>
      unfold l_X4_pastBlanks
      rw [hb, if_pos (nI_le (by omega) (by omega)), zrn_e (by omega)]
  | succ d ih =>
    intro n i h1 h2
    cases n with
    | zero => cases h2
    | succ n =>
      unfold l_X4_pastBlanks
      rw [hb, if_neg (nI_ge (by omega) (by omega)), z_rat (by omega)]
      have e : f_X4_isBlank (bs.getD i 0) w = some (zBl (bs.getD i 0), w) := by
        unfold f_X4_isBlank zBl
        split
        · rfl
        · split
          · rfl
          · split
            · rfl
            · split <;> rfl
      rw [e, z_jbd2]
      cases c : zBl (bs.getD i 0) with
      | false => rw [if_pos (show jb false = 0 from rfl), zrn_f c]
      | true => rw [if_neg (show ¬ jb true = 0 by decide), z_jl, nI_1, ih n (i + 1) (by omega) (by omega), zrn_t (by omega) c]
theorem z_blankC {bs : List Int32} {w : jw} {i : Nat} (hb : w.2.2.2 1 = bs) (hl : bs.length ≤ 2000) (hi : i ≤ bs.length + 1) : f_X4_pastBlanks (nI i) w = some (nI (zrn zBl bs i), w) := by
  unfold f_X4_pastBlanks
  by_cases c : i ≤ bs.length
  · exact z_blankC_l hb hl (bs.length - i) jfu i (by omega) (show _ < 40000 by omega)
  · show l_X4_pastBlanks (39999 + 1) _ _ _ = _
    unfold l_X4_pastBlanks
    rw [hb, if_pos (nI_le (by omega) (by omega)), zrn_e (by omega)]
theorem z_letC (x : Int32) (w : jw) : f_X4_isLetter x w = some (zLe x, w) := by
  unfold f_X4_isLetter zLe
  split
  · rfl
  · split <;> rfl
theorem z_digC (x : Int32) (w : jw) : f_X4_isDigit x w = some (zDg x, w) := by
  unfold f_X4_isDigit zDg
  split
  · rfl
  · split <;> rfl
theorem zwd_t {bs : List Int32} {p q : Nat} (h1 : p ≤ q) (h2 : q < bs.length) : zwd bs p (q + 1) = zwd bs p q ++ [bs.getD q 0] := by
  unfold zwd
  rw [show q + 1 - p = (q - p) + 1 by omega, List.take_succ, List.getElem?_drop, show p + (q - p) = q by omega, List.getD_eq_getElem?_getD, List.getElem?_eq_getElem h2]
  rfl
theorem zwd_0 (bs : List Int32) (p : Nat) : zwd bs p p = [] := by unfold zwd; rw [Nat.sub_self, List.take_zero]
theorem z_intC_l {bs : List Int32} {p : Nat} (hl : bs.length ≤ 2000) {T : List zT} {w : jw} (hb : w.2.2.2 1 = bs) (hT : zTC T w) (lT : T.length ≤ 4000) : ∀ (d n i : Nat), i + d = bs.length → d < n → p ≤ i → ∃ w', l_X4_lexInt n (nI p) (nI i) (znm (zwd bs p i) 0) w = some (nI (zrn zDg bs i), w') ∧ zTC (T ++ [(if 4 < zrn zDg bs i - p then kNo else kInt, nI p, znm (zwd bs p (zrn zDg bs i)) 0)]) w' ∧ zfLx w w' := by
  have fin : ∀ i, p ≤ i → i ≤ bs.length → ∃ w', (if (nI i - nI p) ≤ 4 then jbd (f_X4_keep 2 (znm (zwd bs p i) 0) (nI p) w) fun q3 => some (nI i, q3) else jbd (f_X4_keep 1 (znm (zwd bs p i) 0) (nI p) w) fun q4 => some (nI i, q4)) = some (nI i, w') ∧ zTC (T ++ [(if 4 < i - p then kNo else kInt, nI p, znm (zwd bs p i) 0)]) w' ∧ zfLx w w' := fun i h1 h2 => by
    rw [pk_sub h1]
    by_cases c : 4 < i - p
    · rw [if_neg (show ¬ nI (i - p) ≤ 4 from nI_ge (a := 4) c (by omega)), if_pos c]
      obtain ⟨w', e1, e2, e3⟩ := z_keep hT lT kNo (znm (zwd bs p i) 0) (nI p)
      exact ⟨w', by rw [show (1 : Int32) = zkC kNo from rfl, e1, z_jbd], e2, e3⟩
    · rw [if_pos (show nI (i - p) ≤ 4 from nI_le (b := 4) (by omega) (by omega)), if_neg c]
      obtain ⟨w', e1, e2, e3⟩ := z_keep hT lT kInt (znm (zwd bs p i) 0) (nI p)
      exact ⟨w', by rw [show (2 : Int32) = zkC kInt from rfl, e1, z_jbd], e2, e3⟩
  intro d
  induction d with
  | zero =>
    intro n i h1 h2 h3
    cases n with
    | zero => cases h2
    | succ n =>
      unfold l_X4_lexInt
      rw [hb, if_pos (nI_le (by omega) (by omega)), zrn_e (by omega)]
      exact fin i h3 (by omega)
  | succ d ih =>
    intro n i h1 h2 h3
    cases n with
    | zero => cases h2
    | succ n =>
      unfold l_X4_lexInt
      rw [hb, if_neg (nI_ge (by omega) (by omega)), z_rat (by omega), z_digC, z_jbd2]
      cases c : zDg (bs.getD i 0) with
      | false =>
        rw [if_pos (show jb false = 0 from rfl), zrn_f c]
        exact fin i h3 (by omega)
      | true =>
        rw [if_neg (show ¬ jb true = 0 by decide), hb, z_rat (by omega), z_jl, z_jl, nI_1, zrn_t (by omega) c]
        have R := ih n (i + 1) (by omega) (by omega) (by omega)
        rw [zwd_t h3 (by omega), show znm (zwd bs p i ++ [bs.getD i 0]) 0 = znm (zwd bs p i) 0 * 10 + bs.getD i 0 - 48 from by unfold znm; rw [List.foldl_append]; rfl] at R
        exact R
theorem z_sp0_l {bs : List Int32} {w : jw} {p : Nat} {a2 : Int32} (hb : w.2.2.2 1 = bs) (hl : bs.length ≤ 2000) (hp : p + 3 ≤ bs.length) : l_X4_spells_s0 jfu (nI p) a2 0 w = some (decide (zwd bs p (p + 3) = [112, 117, 116]), w) := by
  have W : zwd bs p (p + 3) = [bs.getD (p + 0) 0, bs.getD (p + 1) 0, bs.getD (p + 2) 0] := by
    rw [show p + 3 = (p + 2) + 1 from rfl, zwd_t (by omega) (by omega), show p + 2 = (p + 1) + 1 from rfl, zwd_t (by omega) (by omega), show p + 1 = (p + 0) + 1 from rfl, zwd_t (by omega) (by omega), Nat.add_zero, zwd_0]
    rfl
  rw [W]
  show l_X4_spells_s0 (39999 + 1) (nI p) a2 (nI 0) w = _
  unfold l_X4_spells_s0
  rw [if_neg (show ¬ nI (slen.getD 0 0) ≤ nI 0 by decide), z_jg (show jin (nI 0) (slen.getD 0 0) = true by decide), nI_add, z_rat (by omega), hb, show sch 0 (Int32.toNatClampNeg (nI 0)) = 112 by decide]
  by_cases c0 : bs.getD (p + 0) 0 = 112
  case neg => rw [if_neg c0, decide_eq_false (fun z => c0 (congrArg (fun l : List Int32 => l.getD 0 0) z))]
  rw [if_pos c0, z_jl]
  show l_X4_spells_s0 (39998 + 1) (nI p) a2 (nI 1) w = _
  unfold l_X4_spells_s0
  rw [if_neg (show ¬ nI (slen.getD 0 0) ≤ nI 1 by decide), z_jg (show jin (nI 1) (slen.getD 0 0) = true by decide), nI_add, z_rat (by omega), hb, show sch 0 (Int32.toNatClampNeg (nI 1)) = 117 by decide]
  by_cases c1 : bs.getD (p + 1) 0 = 117
  case neg => rw [if_neg c1, decide_eq_false (fun z => c1 (congrArg (fun l : List Int32 => l.getD 1 0) z))]
  rw [if_pos c1, z_jl]
  show l_X4_spells_s0 (39997 + 1) (nI p) a2 (nI 2) w = _
  unfold l_X4_spells_s0
  rw [if_neg (show ¬ nI (slen.getD 0 0) ≤ nI 2 by decide), z_jg (show jin (nI 2) (slen.getD 0 0) = true by decide), nI_add, z_rat (by omega), hb, show sch 0 (Int32.toNatClampNeg (nI 2)) = 116 by decide]
  by_cases c2 : bs.getD (p + 2) 0 = 116
  case neg => rw [if_neg c2, decide_eq_false (fun z => c2 (congrArg (fun l : List Int32 => l.getD 2 0) z))]
  rw [if_pos c2, z_jl]
  show l_X4_spells_s0 (39996 + 1) (nI p) a2 (nI 3) w = _
  unfold l_X4_spells_s0
  rw [if_pos (show nI (slen.getD 0 0) ≤ nI 3 by decide), c0, c1, c2]
  rfl
theorem z_sp0 {bs : List Int32} {w : jw} {p q : Nat} (hb : w.2.2.2 1 = bs) (hl : bs.length ≤ 2000) (hp : p ≤ q) (hq : q ≤ bs.length) : f_X4_spells_s0 (nI p) (nI q) w = some (decide (zwd bs p q = [112, 117, 116]), w) := by
  unfold f_X4_spells_s0
  rw [pk_sub hp, show slen.getD 0 0 = 3 from rfl]
  by_cases c : q - p = 3
  · rw [if_pos (by rw [c]), show q = p + 3 by omega]
    exact z_sp0_l hb hl (by omega)
  · rw [if_neg (fun z => c ((nI_eq (by omega) (by decide)).mp z)), decide_eq_false (fun z => c ?_)]
    have : (zwd bs p q).length = 3 := by rw [z]; rfl
    unfold zwd at this
    rw [List.length_take, List.length_drop] at this
    omega
theorem z_sp1_l {bs : List Int32} {w : jw} {p : Nat} {a2 : Int32} (hb : w.2.2.2 1 = bs) (hl : bs.length ≤ 2000) (hp : p + 3 ≤ bs.length) : l_X4_spells_s1 jfu (nI p) a2 0 w = some (decide (zwd bs p (p + 3) = [99, 117, 116]), w) := by
  have W : zwd bs p (p + 3) = [bs.getD (p + 0) 0, bs.getD (p + 1) 0, bs.getD (p + 2) 0] := by
    rw [show p + 3 = (p + 2) + 1 from rfl, zwd_t (by omega) (by omega), show p + 2 = (p + 1) + 1 from rfl, zwd_t (by omega) (by omega), show p + 1 = (p + 0) + 1 from rfl, zwd_t (by omega) (by omega), Nat.add_zero, zwd_0]
    rfl
  rw [W]
  show l_X4_spells_s1 (39999 + 1) (nI p) a2 (nI 0) w = _
  unfold l_X4_spells_s1
  rw [if_neg (show ¬ nI (slen.getD 1 0) ≤ nI 0 by decide), z_jg (show jin (nI 0) (slen.getD 1 0) = true by decide), nI_add, z_rat (by omega), hb, show sch 1 (Int32.toNatClampNeg (nI 0)) = 99 by decide]
  by_cases c0 : bs.getD (p + 0) 0 = 99
  case neg => rw [if_neg c0, decide_eq_false (fun z => c0 (congrArg (fun l : List Int32 => l.getD 0 0) z))]
  rw [if_pos c0, z_jl]
  show l_X4_spells_s1 (39998 + 1) (nI p) a2 (nI 1) w = _
  unfold l_X4_spells_s1
  rw [if_neg (show ¬ nI (slen.getD 1 0) ≤ nI 1 by decide), z_jg (show jin (nI 1) (slen.getD 1 0) = true by decide), nI_add, z_rat (by omega), hb, show sch 1 (Int32.toNatClampNeg (nI 1)) = 117 by decide]
  by_cases c1 : bs.getD (p + 1) 0 = 117
  case neg => rw [if_neg c1, decide_eq_false (fun z => c1 (congrArg (fun l : List Int32 => l.getD 1 0) z))]
  rw [if_pos c1, z_jl]
  show l_X4_spells_s1 (39997 + 1) (nI p) a2 (nI 2) w = _
  unfold l_X4_spells_s1
  rw [if_neg (show ¬ nI (slen.getD 1 0) ≤ nI 2 by decide), z_jg (show jin (nI 2) (slen.getD 1 0) = true by decide), nI_add, z_rat (by omega), hb, show sch 1 (Int32.toNatClampNeg (nI 2)) = 116 by decide]
  by_cases c2 : bs.getD (p + 2) 0 = 116
  case neg => rw [if_neg c2, decide_eq_false (fun z => c2 (congrArg (fun l : List Int32 => l.getD 2 0) z))]
  rw [if_pos c2, z_jl]
  show l_X4_spells_s1 (39996 + 1) (nI p) a2 (nI 3) w = _
  unfold l_X4_spells_s1
  rw [if_pos (show nI (slen.getD 1 0) ≤ nI 3 by decide), c0, c1, c2]
  rfl
theorem z_sp1 {bs : List Int32} {w : jw} {p q : Nat} (hb : w.2.2.2 1 = bs) (hl : bs.length ≤ 2000) (hp : p ≤ q) (hq : q ≤ bs.length) : f_X4_spells_s1 (nI p) (nI q) w = some (decide (zwd bs p q = [99, 117, 116]), w) := by
  unfold f_X4_spells_s1
  rw [pk_sub hp, show slen.getD 1 0 = 3 from rfl]
  by_cases c : q - p = 3
  · rw [if_pos (by rw [c]), show q = p + 3 by omega]
    exact z_sp1_l hb hl (by omega)
  · rw [if_neg (fun z => c ((nI_eq (by omega) (by decide)).mp z)), decide_eq_false (fun z => c ?_)]
    have : (zwd bs p q).length = 3 := by rw [z]; rfl
    unfold zwd at this
    rw [List.length_take, List.length_drop] at this
    omega
theorem z_sp2_l {bs : List Int32} {w : jw} {p : Nat} {a2 : Int32} (hb : w.2.2.2 1 = bs) (hl : bs.length ≤ 2000) (hp : p + 2 ≤ bs.length) : l_X4_spells_s2 jfu (nI p) a2 0 w = some (decide (zwd bs p (p + 2) = [100, 111]), w) := by
  have W : zwd bs p (p + 2) = [bs.getD (p + 0) 0, bs.getD (p + 1) 0] := by
    rw [show p + 2 = (p + 1) + 1 from rfl, zwd_t (by omega) (by omega), show p + 1 = (p + 0) + 1 from rfl, zwd_t (by omega) (by omega), Nat.add_zero, zwd_0]
    rfl
  rw [W]
  show l_X4_spells_s2 (39999 + 1) (nI p) a2 (nI 0) w = _
  unfold l_X4_spells_s2
  rw [if_neg (show ¬ nI (slen.getD 2 0) ≤ nI 0 by decide), z_jg (show jin (nI 0) (slen.getD 2 0) = true by decide), nI_add, z_rat (by omega), hb, show sch 2 (Int32.toNatClampNeg (nI 0)) = 100 by decide]
  by_cases c0 : bs.getD (p + 0) 0 = 100
  case neg => rw [if_neg c0, decide_eq_false (fun z => c0 (congrArg (fun l : List Int32 => l.getD 0 0) z))]
  rw [if_pos c0, z_jl]
  show l_X4_spells_s2 (39998 + 1) (nI p) a2 (nI 1) w = _
  unfold l_X4_spells_s2
  rw [if_neg (show ¬ nI (slen.getD 2 0) ≤ nI 1 by decide), z_jg (show jin (nI 1) (slen.getD 2 0) = true by decide), nI_add, z_rat (by omega), hb, show sch 2 (Int32.toNatClampNeg (nI 1)) = 111 by decide]
  by_cases c1 : bs.getD (p + 1) 0 = 111
  case neg => rw [if_neg c1, decide_eq_false (fun z => c1 (congrArg (fun l : List Int32 => l.getD 1 0) z))]
  rw [if_pos c1, z_jl]
  show l_X4_spells_s2 (39997 + 1) (nI p) a2 (nI 2) w = _
  unfold l_X4_spells_s2
  rw [if_pos (show nI (slen.getD 2 0) ≤ nI 2 by decide), c0, c1]
  rfl
theorem z_sp2 {bs : List Int32} {w : jw} {p q : Nat} (hb : w.2.2.2 1 = bs) (hl : bs.length ≤ 2000) (hp : p ≤ q) (hq : q ≤ bs.length) : f_X4_spells_s2 (nI p) (nI q) w = some (decide (zwd bs p q = [100, 111]), w) := by
  unfold f_X4_spells_s2
  rw [pk_sub hp, show slen.getD 2 0 = 2 from rfl]
  by_cases c : q - p = 2
  · rw [if_pos (by rw [c]), show q = p + 2 by omega]
    exact z_sp2_l hb hl (by omega)
  · rw [if_neg (fun z => c ((nI_eq (by omega) (by decide)).mp z)), decide_eq_false (fun z => c ?_)]
    have : (zwd bs p q).length = 2 := by rw [z]; rfl
    unfold zwd at this
    rw [List.length_take, List.length_drop] at this
    omega
theorem z_sp3_l {bs : List Int32} {w : jw} {p : Nat} {a2 : Int32} (hb : w.2.2.2 1 = bs) (hl : bs.length ≤ 2000) (hp : p + 3 ≤ bs.length) : l_X4_spells_s3 jfu (nI p) a2 0 w = some (decide (zwd bs p (p + 3) = [101, 110, 100]), w) := by
  have W : zwd bs p (p + 3) = [bs.getD (p + 0) 0, bs.getD (p + 1) 0, bs.getD (p + 2) 0] := by
    rw [show p + 3 = (p + 2) + 1 from rfl, zwd_t (by omega) (by omega), show p + 2 = (p + 1) + 1 from rfl, zwd_t (by omega) (by omega), show p + 1 = (p + 0) + 1 from rfl, zwd_t (by omega) (by omega), Nat.add_zero, zwd_0]
    rfl
  rw [W]
  show l_X4_spells_s3 (39999 + 1) (nI p) a2 (nI 0) w = _
  unfold l_X4_spells_s3
  rw [if_neg (show ¬ nI (slen.getD 3 0) ≤ nI 0 by decide), z_jg (show jin (nI 0) (slen.getD 3 0) = true by decide), nI_add, z_rat (by omega), hb, show sch 3 (Int32.toNatClampNeg (nI 0)) = 101 by decide]
  by_cases c0 : bs.getD (p + 0) 0 = 101
  case neg => rw [if_neg c0, decide_eq_false (fun z => c0 (congrArg (fun l : List Int32 => l.getD 0 0) z))]
  rw [if_pos c0, z_jl]
  show l_X4_spells_s3 (39998 + 1) (nI p) a2 (nI 1) w = _
  unfold l_X4_spells_s3
  rw [if_neg (show ¬ nI (slen.getD 3 0) ≤ nI 1 by decide), z_jg (show jin (nI 1) (slen.getD 3 0) = true by decide), nI_add, z_rat (by omega), hb, show sch 3 (Int32.toNatClampNeg (nI 1)) = 110 by decide]
  by_cases c1 : bs.getD (p + 1) 0 = 110
  case neg => rw [if_neg c1, decide_eq_false (fun z => c1 (congrArg (fun l : List Int32 => l.getD 1 0) z))]
  rw [if_pos c1, z_jl]
  show l_X4_spells_s3 (39997 + 1) (nI p) a2 (nI 2) w = _
  unfold l_X4_spells_s3
  rw [if_neg (show ¬ nI (slen.getD 3 0) ≤ nI 2 by decide), z_jg (show jin (nI 2) (slen.getD 3 0) = true by decide), nI_add, z_rat (by omega), hb, show sch 3 (Int32.toNatClampNeg (nI 2)) = 100 by decide]
  by_cases c2 : bs.getD (p + 2) 0 = 100
  case neg => rw [if_neg c2, decide_eq_false (fun z => c2 (congrArg (fun l : List Int32 => l.getD 2 0) z))]
  rw [if_pos c2, z_jl]
  show l_X4_spells_s3 (39996 + 1) (nI p) a2 (nI 3) w = _
  unfold l_X4_spells_s3
  rw [if_pos (show nI (slen.getD 3 0) ≤ nI 3 by decide), c0, c1, c2]
  rfl
theorem z_sp3 {bs : List Int32} {w : jw} {p q : Nat} (hb : w.2.2.2 1 = bs) (hl : bs.length ≤ 2000) (hp : p ≤ q) (hq : q ≤ bs.length) : f_X4_spells_s3 (nI p) (nI q) w = some (decide (zwd bs p q = [101, 110, 100]), w) := by
  unfold f_X4_spells_s3
  rw [pk_sub hp, show slen.getD 3 0 = 3 from rfl]
  by_cases c : q - p = 3
  · rw [if_pos (by rw [c]), show q = p + 3 by omega]
    exact z_sp3_l hb hl (by omega)
  · rw [if_neg (fun z => c ((nI_eq (by omega) (by decide)).mp z)), decide_eq_false (fun z => c ?_)]
    have : (zwd bs p q).length = 3 := by rw [z]; rfl
    unfold zwd at this
    rw [List.length_take, List.length_drop] at this
    omega
theorem z_sp4_l {bs : List Int32} {w : jw} {p : Nat} {a2 : Int32} (hb : w.2.2.2 1 = bs) (hl : bs.length ≤ 2000) (hp : p + 4 ≤ bs.length) : l_X4_spells_s4 jfu (nI p) a2 0 w = some (decide (zwd bs p (p + 4) = [112, 97, 103, 101]), w) := by
  have W : zwd bs p (p + 4) = [bs.getD (p + 0) 0, bs.getD (p + 1) 0, bs.getD (p + 2) 0, bs.getD (p + 3) 0] := by
    rw [show p + 4 = (p + 3) + 1 from rfl, zwd_t (by omega) (by omega), show p + 3 = (p + 2) + 1 from rfl, zwd_t (by omega) (by omega), show p + 2 = (p + 1) + 1 from rfl, zwd_t (by omega) (by omega), show p + 1 = (p + 0) + 1 from rfl, zwd_t (by omega) (by omega), Nat.add_zero, zwd_0]
    rfl
  rw [W]
  show l_X4_spells_s4 (39999 + 1) (nI p) a2 (nI 0) w = _
  unfold l_X4_spells_s4
  rw [if_neg (show ¬ nI (slen.getD 4 0) ≤ nI 0 by decide), z_jg (show jin (nI 0) (slen.getD 4 0) = true by decide), nI_add, z_rat (by omega), hb, show sch 4 (Int32.toNatClampNeg (nI 0)) = 112 by decide]
  by_cases c0 : bs.getD (p + 0) 0 = 112
  case neg => rw [if_neg c0, decide_eq_false (fun z => c0 (congrArg (fun l : List Int32 => l.getD 0 0) z))]
  rw [if_pos c0, z_jl]
  show l_X4_spells_s4 (39998 + 1) (nI p) a2 (nI 1) w = _
  unfold l_X4_spells_s4
  rw [if_neg (show ¬ nI (slen.getD 4 0) ≤ nI 1 by decide), z_jg (show jin (nI 1) (slen.getD 4 0) = true by decide), nI_add, z_rat (by omega), hb, show sch 4 (Int32.toNatClampNeg (nI 1)) = 97 by decide]
  by_cases c1 : bs.getD (p + 1) 0 = 97
  case neg => rw [if_neg c1, decide_eq_false (fun z => c1 (congrArg (fun l : List Int32 => l.getD 1 0) z))]
  rw [if_pos c1, z_jl]
  show l_X4_spells_s4 (39997 + 1) (nI p) a2 (nI 2) w = _
  unfold l_X4_spells_s4
  rw [if_neg (show ¬ nI (slen.getD 4 0) ≤ nI 2 by decide), z_jg (show jin (nI 2) (slen.getD 4 0) = true by decide), nI_add, z_rat (by omega), hb, show sch 4 (Int32.toNatClampNeg (nI 2)) = 103 by decide]
  by_cases c2 : bs.getD (p + 2) 0 = 103
  case neg => rw [if_neg c2, decide_eq_false (fun z => c2 (congrArg (fun l : List Int32 => l.getD 2 0) z))]
  rw [if_pos c2, z_jl]
  show l_X4_spells_s4 (39996 + 1) (nI p) a2 (nI 3) w = _
  unfold l_X4_spells_s4
  rw [if_neg (show ¬ nI (slen.getD 4 0) ≤ nI 3 by decide), z_jg (show jin (nI 3) (slen.getD 4 0) = true by decide), nI_add, z_rat (by omega), hb, show sch 4 (Int32.toNatClampNeg (nI 3)) = 101 by decide]
  by_cases c3 : bs.getD (p + 3) 0 = 101
  case neg => rw [if_neg c3, decide_eq_false (fun z => c3 (congrArg (fun l : List Int32 => l.getD 3 0) z))]
  rw [if_pos c3, z_jl]
  show l_X4_spells_s4 (39995 + 1) (nI p) a2 (nI 4) w = _
  unfold l_X4_spells_s4
  rw [if_pos (show nI (slen.getD 4 0) ≤ nI 4 by decide), c0, c1, c2, c3]
  rfl
theorem z_sp4 {bs : List Int32} {w : jw} {p q : Nat} (hb : w.2.2.2 1 = bs) (hl : bs.length ≤ 2000) (hp : p ≤ q) (hq : q ≤ bs.length) : f_X4_spells_s4 (nI p) (nI q) w = some (decide (zwd bs p q = [112, 97, 103, 101]), w) := by
  unfold f_X4_spells_s4
  rw [pk_sub hp, show slen.getD 4 0 = 4 from rfl]
  by_cases c : q - p = 4
  · rw [if_pos (by rw [c]), show q = p + 4 by omega]
    exact z_sp4_l hb hl (by omega)
  · rw [if_neg (fun z => c ((nI_eq (by omega) (by decide)).mp z)), decide_eq_false (fun z => c ?_)]
    have : (zwd bs p q).length = 4 := by rw [z]; rfl
    unfold zwd at this
    rw [List.length_take, List.length_drop] at this
    omega
theorem z_sp5_l {bs : List Int32} {w : jw} {p : Nat} {a2 : Int32} (hb : w.2.2.2 1 = bs) (hl : bs.length ≤ 2000) (hp : p + 1 ≤ bs.length) : l_X4_spells_s5 jfu (nI p) a2 0 w = some (decide (zwd bs p (p + 1) = [105]), w) := by
  have W : zwd bs p (p + 1) = [bs.getD (p + 0) 0] := by
    rw [show p + 1 = (p + 0) + 1 from rfl, zwd_t (by omega) (by omega), Nat.add_zero, zwd_0]
    rfl
  rw [W]
  show l_X4_spells_s5 (39999 + 1) (nI p) a2 (nI 0) w = _
  unfold l_X4_spells_s5
  rw [if_neg (show ¬ nI (slen.getD 5 0) ≤ nI 0 by decide), z_jg (show jin (nI 0) (slen.getD 5 0) = true by decide), nI_add, z_rat (by omega), hb, show sch 5 (Int32.toNatClampNeg (nI 0)) = 105 by decide]
  by_cases c0 : bs.getD (p + 0) 0 = 105
  case neg => rw [if_neg c0, decide_eq_false (fun z => c0 (congrArg (fun l : List Int32 => l.getD 0 0) z))]
  rw [if_pos c0, z_jl]
  show l_X4_spells_s5 (39998 + 1) (nI p) a2 (nI 1) w = _
  unfold l_X4_spells_s5
  rw [if_pos (show nI (slen.getD 5 0) ≤ nI 1 by decide), c0]
  rfl
theorem z_sp5 {bs : List Int32} {w : jw} {p q : Nat} (hb : w.2.2.2 1 = bs) (hl : bs.length ≤ 2000) (hp : p ≤ q) (hq : q ≤ bs.length) : f_X4_spells_s5 (nI p) (nI q) w = some (decide (zwd bs p q = [105]), w) := by
  unfold f_X4_spells_s5
  rw [pk_sub hp, show slen.getD 5 0 = 1 from rfl]
  by_cases c : q - p = 1
  · rw [if_pos (by rw [c]), show q = p + 1 by omega]
    exact z_sp5_l hb hl (by omega)
  · rw [if_neg (fun z => c ((nI_eq (by omega) (by decide)).mp z)), decide_eq_false (fun z => c ?_)]
    have : (zwd bs p q).length = 1 := by rw [z]; rfl
    unfold zwd at this
    rw [List.length_take, List.length_drop] at this
    omega
theorem z_sp6_l {bs : List Int32} {w : jw} {p : Nat} {a2 : Int32} (hb : w.2.2.2 1 = bs) (hl : bs.length ≤ 2000) (hp : p + 1 ≤ bs.length) : l_X4_spells_s6 jfu (nI p) a2 0 w = some (decide (zwd bs p (p + 1) = [106]), w) := by
  have W : zwd bs p (p + 1) = [bs.getD (p + 0) 0] := by
    rw [show p + 1 = (p + 0) + 1 from rfl, zwd_t (by omega) (by omega), Nat.add_zero, zwd_0]
    rfl
  rw [W]
  show l_X4_spells_s6 (39999 + 1) (nI p) a2 (nI 0) w = _
  unfold l_X4_spells_s6
  rw [if_neg (show ¬ nI (slen.getD 6 0) ≤ nI 0 by decide), z_jg (show jin (nI 0) (slen.getD 6 0) = true by decide), nI_add, z_rat (by omega), hb, show sch 6 (Int32.toNatClampNeg (nI 0)) = 106 by decide]
  by_cases c0 : bs.getD (p + 0) 0 = 106
  case neg => rw [if_neg c0, decide_eq_false (fun z => c0 (congrArg (fun l : List Int32 => l.getD 0 0) z))]
  rw [if_pos c0, z_jl]
  show l_X4_spells_s6 (39998 + 1) (nI p) a2 (nI 1) w = _
  unfold l_X4_spells_s6
  rw [if_pos (show nI (slen.getD 6 0) ≤ nI 1 by decide), c0]
  rfl
theorem z_sp6 {bs : List Int32} {w : jw} {p q : Nat} (hb : w.2.2.2 1 = bs) (hl : bs.length ≤ 2000) (hp : p ≤ q) (hq : q ≤ bs.length) : f_X4_spells_s6 (nI p) (nI q) w = some (decide (zwd bs p q = [106]), w) := by
  unfold f_X4_spells_s6
  rw [pk_sub hp, show slen.getD 6 0 = 1 from rfl]
  by_cases c : q - p = 1
  · rw [if_pos (by rw [c]), show q = p + 1 by omega]
    exact z_sp6_l hb hl (by omega)
  · rw [if_neg (fun z => c ((nI_eq (by omega) (by decide)).mp z)), decide_eq_false (fun z => c ?_)]
    have : (zwd bs p q).length = 1 := by rw [z]; rfl
    unfold zwd at this
    rw [List.length_take, List.length_drop] at this
    omega
theorem z_sp7_l {bs : List Int32} {w : jw} {p : Nat} {a2 : Int32} (hb : w.2.2.2 1 = bs) (hl : bs.length ≤ 2000) (hp : p + 4 ≤ bs.length) : l_X4_spells_s7 jfu (nI p) a2 0 w = some (decide (zwd bs p (p + 4) = [116, 105, 109, 101]), w) := by
  have W : zwd bs p (p + 4) = [bs.getD (p + 0) 0, bs.getD (p + 1) 0, bs.getD (p + 2) 0, bs.getD (p + 3) 0] := by
    rw [show p + 4 = (p + 3) + 1 from rfl, zwd_t (by omega) (by omega), show p + 3 = (p + 2) + 1 from rfl, zwd_t (by omega) (by omega), show p + 2 = (p + 1) + 1 from rfl, zwd_t (by omega) (by omega), show p + 1 = (p + 0) + 1 from rfl, zwd_t (by omega) (by omega), Nat.add_zero, zwd_0]
    rfl
  rw [W]
  show l_X4_spells_s7 (39999 + 1) (nI p) a2 (nI 0) w = _
  unfold l_X4_spells_s7
  rw [if_neg (show ¬ nI (slen.getD 7 0) ≤ nI 0 by decide), z_jg (show jin (nI 0) (slen.getD 7 0) = true by decide), nI_add, z_rat (by omega), hb, show sch 7 (Int32.toNatClampNeg (nI 0)) = 116 by decide]
  by_cases c0 : bs.getD (p + 0) 0 = 116
  case neg => rw [if_neg c0, decide_eq_false (fun z => c0 (congrArg (fun l : List Int32 => l.getD 0 0) z))]
  rw [if_pos c0, z_jl]
  show l_X4_spells_s7 (39998 + 1) (nI p) a2 (nI 1) w = _
  unfold l_X4_spells_s7
  rw [if_neg (show ¬ nI (slen.getD 7 0) ≤ nI 1 by decide), z_jg (show jin (nI 1) (slen.getD 7 0) = true by decide), nI_add, z_rat (by omega), hb, show sch 7 (Int32.toNatClampNeg (nI 1)) = 105 by decide]
  by_cases c1 : bs.getD (p + 1) 0 = 105
  case neg => rw [if_neg c1, decide_eq_false (fun z => c1 (congrArg (fun l : List Int32 => l.getD 1 0) z))]
  rw [if_pos c1, z_jl]
  show l_X4_spells_s7 (39997 + 1) (nI p) a2 (nI 2) w = _
  unfold l_X4_spells_s7
  rw [if_neg (show ¬ nI (slen.getD 7 0) ≤ nI 2 by decide), z_jg (show jin (nI 2) (slen.getD 7 0) = true by decide), nI_add, z_rat (by omega), hb, show sch 7 (Int32.toNatClampNeg (nI 2)) = 109 by decide]
  by_cases c2 : bs.getD (p + 2) 0 = 109
  case neg => rw [if_neg c2, decide_eq_false (fun z => c2 (congrArg (fun l : List Int32 => l.getD 2 0) z))]
  rw [if_pos c2, z_jl]
  show l_X4_spells_s7 (39996 + 1) (nI p) a2 (nI 3) w = _
  unfold l_X4_spells_s7
  rw [if_neg (show ¬ nI (slen.getD 7 0) ≤ nI 3 by decide), z_jg (show jin (nI 3) (slen.getD 7 0) = true by decide), nI_add, z_rat (by omega), hb, show sch 7 (Int32.toNatClampNeg (nI 3)) = 101 by decide]
  by_cases c3 : bs.getD (p + 3) 0 = 101
  case neg => rw [if_neg c3, decide_eq_false (fun z => c3 (congrArg (fun l : List Int32 => l.getD 3 0) z))]
  rw [if_pos c3, z_jl]
  show l_X4_spells_s7 (39995 + 1) (nI p) a2 (nI 4) w = _
  unfold l_X4_spells_s7
  rw [if_pos (show nI (slen.getD 7 0) ≤ nI 4 by decide), c0, c1, c2, c3]
  rfl
theorem z_sp7 {bs : List Int32} {w : jw} {p q : Nat} (hb : w.2.2.2 1 = bs) (hl : bs.length ≤ 2000) (hp : p ≤ q) (hq : q ≤ bs.length) : f_X4_spells_s7 (nI p) (nI q) w = some (decide (zwd bs p q = [116, 105, 109, 101]), w) := by
  unfold f_X4_spells_s7
  rw [pk_sub hp, show slen.getD 7 0 = 4 from rfl]
  by_cases c : q - p = 4
  · rw [if_pos (by rw [c]), show q = p + 4 by omega]
    exact z_sp7_l hb hl (by omega)
  · rw [if_neg (fun z => c ((nI_eq (by omega) (by decide)).mp z)), decide_eq_false (fun z => c ?_)]
    have : (zwd bs p q).length = 4 := by rw [z]; rfl
    unfold zwd at this
    rw [List.length_take, List.length_drop] at this
    omega
theorem z_sp8_l {bs : List Int32} {w : jw} {p : Nat} {a2 : Int32} (hb : w.2.2.2 1 = bs) (hl : bs.length ≤ 2000) (hp : p + 4 ≤ bs.length) : l_X4_spells_s8 jfu (nI p) a2 0 w = some (decide (zwd bs p (p + 4) = [108, 105, 118, 101]), w) := by
  have W : zwd bs p (p + 4) = [bs.getD (p + 0) 0, bs.getD (p + 1) 0, bs.getD (p + 2) 0, bs.getD (p + 3) 0] := by
    rw [show p + 4 = (p + 3) + 1 from rfl, zwd_t (by omega) (by omega), show p + 3 = (p + 2) + 1 from rfl, zwd_t (by omega) (by omega), show p + 2 = (p + 1) + 1 from rfl, zwd_t (by omega) (by omega), show p + 1 = (p + 0) + 1 from rfl, zwd_t (by omega) (by omega), Nat.add_zero, zwd_0]
    rfl
  rw [W]
  show l_X4_spells_s8 (39999 + 1) (nI p) a2 (nI 0) w = _
  unfold l_X4_spells_s8
  rw [if_neg (show ¬ nI (slen.getD 8 0) ≤ nI 0 by decide), z_jg (show jin (nI 0) (slen.getD 8 0) = true by decide), nI_add, z_rat (by omega), hb, show sch 8 (Int32.toNatClampNeg (nI 0)) = 108 by decide]
  by_cases c0 : bs.getD (p + 0) 0 = 108
  case neg => rw [if_neg c0, decide_eq_false (fun z => c0 (congrArg (fun l : List Int32 => l.getD 0 0) z))]
  rw [if_pos c0, z_jl]
  show l_X4_spells_s8 (39998 + 1) (nI p) a2 (nI 1) w = _
  unfold l_X4_spells_s8
  rw [if_neg (show ¬ nI (slen.getD 8 0) ≤ nI 1 by decide), z_jg (show jin (nI 1) (slen.getD 8 0) = true by decide), nI_add, z_rat (by omega), hb, show sch 8 (Int32.toNatClampNeg (nI 1)) = 105 by decide]
  by_cases c1 : bs.getD (p + 1) 0 = 105
  case neg => rw [if_neg c1, decide_eq_false (fun z => c1 (congrArg (fun l : List Int32 => l.getD 1 0) z))]
  rw [if_pos c1, z_jl]
  show l_X4_spells_s8 (39997 + 1) (nI p) a2 (nI 2) w = _
  unfold l_X4_spells_s8
  rw [if_neg (show ¬ nI (slen.getD 8 0) ≤ nI 2 by decide), z_jg (show jin (nI 2) (slen.getD 8 0) = true by decide), nI_add, z_rat (by omega), hb, show sch 8 (Int32.toNatClampNeg (nI 2)) = 118 by decide]
  by_cases c2 : bs.getD (p + 2) 0 = 118
  case neg => rw [if_neg c2, decide_eq_false (fun z => c2 (congrArg (fun l : List Int32 => l.getD 2 0) z))]
  rw [if_pos c2, z_jl]
  show l_X4_spells_s8 (39996 + 1) (nI p) a2 (nI 3) w = _
  unfold l_X4_spells_s8
  rw [if_neg (show ¬ nI (slen.getD 8 0) ≤ nI 3 by decide), z_jg (show jin (nI 3) (slen.getD 8 0) = true by decide), nI_add, z_rat (by omega), hb, show sch 8 (Int32.toNatClampNeg (nI 3)) = 101 by decide]
  by_cases c3 : bs.getD (p + 3) 0 = 101
  case neg => rw [if_neg c3, decide_eq_false (fun z => c3 (congrArg (fun l : List Int32 => l.getD 3 0) z))]
  rw [if_pos c3, z_jl]
  show l_X4_spells_s8 (39995 + 1) (nI p) a2 (nI 4) w = _
  unfold l_X4_spells_s8
  rw [if_pos (show nI (slen.getD 8 0) ≤ nI 4 by decide), c0, c1, c2, c3]
  rfl
theorem z_sp8 {bs : List Int32} {w : jw} {p q : Nat} (hb : w.2.2.2 1 = bs) (hl : bs.length ≤ 2000) (hp : p ≤ q) (hq : q ≤ bs.length) : f_X4_spells_s8 (nI p) (nI q) w = some (decide (zwd bs p q = [108, 105, 118, 101]), w) := by
  unfold f_X4_spells_s8
  rw [pk_sub hp, show slen.getD 8 0 = 4 from rfl]
  by_cases c : q - p = 4
  · rw [if_pos (by rw [c]), show q = p + 4 by omega]
    exact z_sp8_l hb hl (by omega)
  · rw [if_neg (fun z => c ((nI_eq (by omega) (by decide)).mp z)), decide_eq_false (fun z => c ?_)]
    have : (zwd bs p q).length = 4 := by rw [z]; rfl
    unfold zwd at this
    rw [List.length_take, List.length_drop] at this
    omega
theorem z_sp9_l {bs : List Int32} {w : jw} {p : Nat} {a2 : Int32} (hb : w.2.2.2 1 = bs) (hl : bs.length ≤ 2000) (hp : p + 4 ≤ bs.length) : l_X4_spells_s9 jfu (nI p) a2 0 w = some (decide (zwd bs p (p + 4) = [108, 97, 115, 116]), w) := by
  have W : zwd bs p (p + 4) = [bs.getD (p + 0) 0, bs.getD (p + 1) 0, bs.getD (p + 2) 0, bs.getD (p + 3) 0] := by
    rw [show p + 4 = (p + 3) + 1 from rfl, zwd_t (by omega) (by omega), show p + 3 = (p + 2) + 1 from rfl, zwd_t (by omega) (by omega), show p + 2 = (p + 1) + 1 from rfl, zwd_t (by omega) (by omega), show p + 1 = (p + 0) + 1 from rfl, zwd_t (by omega) (by omega), Nat.add_zero, zwd_0]
    rfl
  rw [W]
  show l_X4_spells_s9 (39999 + 1) (nI p) a2 (nI 0) w = _
  unfold l_X4_spells_s9
  rw [if_neg (show ¬ nI (slen.getD 9 0) ≤ nI 0 by decide), z_jg (show jin (nI 0) (slen.getD 9 0) = true by decide), nI_add, z_rat (by omega), hb, show sch 9 (Int32.toNatClampNeg (nI 0)) = 108 by decide]
  by_cases c0 : bs.getD (p + 0) 0 = 108
  case neg => rw [if_neg c0, decide_eq_false (fun z => c0 (congrArg (fun l : List Int32 => l.getD 0 0) z))]
  rw [if_pos c0, z_jl]
  show l_X4_spells_s9 (39998 + 1) (nI p) a2 (nI 1) w = _
  unfold l_X4_spells_s9
  rw [if_neg (show ¬ nI (slen.getD 9 0) ≤ nI 1 by decide), z_jg (show jin (nI 1) (slen.getD 9 0) = true by decide), nI_add, z_rat (by omega), hb, show sch 9 (Int32.toNatClampNeg (nI 1)) = 97 by decide]
  by_cases c1 : bs.getD (p + 1) 0 = 97
  case neg => rw [if_neg c1, decide_eq_false (fun z => c1 (congrArg (fun l : List Int32 => l.getD 1 0) z))]
  rw [if_pos c1, z_jl]
  show l_X4_spells_s9 (39997 + 1) (nI p) a2 (nI 2) w = _
  unfold l_X4_spells_s9
  rw [if_neg (show ¬ nI (slen.getD 9 0) ≤ nI 2 by decide), z_jg (show jin (nI 2) (slen.getD 9 0) = true by decide), nI_add, z_rat (by omega), hb, show sch 9 (Int32.toNatClampNeg (nI 2)) = 115 by decide]
  by_cases c2 : bs.getD (p + 2) 0 = 115
  case neg => rw [if_neg c2, decide_eq_false (fun z => c2 (congrArg (fun l : List Int32 => l.getD 2 0) z))]
  rw [if_pos c2, z_jl]
  show l_X4_spells_s9 (39996 + 1) (nI p) a2 (nI 3) w = _
  unfold l_X4_spells_s9
  rw [if_neg (show ¬ nI (slen.getD 9 0) ≤ nI 3 by decide), z_jg (show jin (nI 3) (slen.getD 9 0) = true by decide), nI_add, z_rat (by omega), hb, show sch 9 (Int32.toNatClampNeg (nI 3)) = 116 by decide]
  by_cases c3 : bs.getD (p + 3) 0 = 116
  case neg => rw [if_neg c3, decide_eq_false (fun z => c3 (congrArg (fun l : List Int32 => l.getD 3 0) z))]
  rw [if_pos c3, z_jl]
  show l_X4_spells_s9 (39995 + 1) (nI p) a2 (nI 4) w = _
  unfold l_X4_spells_s9
  rw [if_pos (show nI (slen.getD 9 0) ≤ nI 4 by decide), c0, c1, c2, c3]
  rfl
theorem z_sp9 {bs : List Int32} {w : jw} {p q : Nat} (hb : w.2.2.2 1 = bs) (hl : bs.length ≤ 2000) (hp : p ≤ q) (hq : q ≤ bs.length) : f_X4_spells_s9 (nI p) (nI q) w = some (decide (zwd bs p q = [108, 97, 115, 116]), w) := by
  unfold f_X4_spells_s9
  rw [pk_sub hp, show slen.getD 9 0 = 4 from rfl]
  by_cases c : q - p = 4
  · rw [if_pos (by rw [c]), show q = p + 4 by omega]
    exact z_sp9_l hb hl (by omega)
  · rw [if_neg (fun z => c ((nI_eq (by omega) (by decide)).mp z)), decide_eq_false (fun z => c ?_)]
    have : (zwd bs p q).length = 4 := by rw [z]; rfl
    unfold zwd at this
    rw [List.length_take, List.length_drop] at this
    omega
theorem z_sp10_l {bs : List Int32} {w : jw} {p : Nat} {a2 : Int32} (hb : w.2.2.2 1 = bs) (hl : bs.length ≤ 2000) (hp : p + 5 ≤ bs.length) : l_X4_spells_s10 jfu (nI p) a2 0 w = some (decide (zwd bs p (p + 5) = [112, 97, 103, 101, 115]), w) := by
  have W : zwd bs p (p + 5) = [bs.getD (p + 0) 0, bs.getD (p + 1) 0, bs.getD (p + 2) 0, bs.getD (p + 3) 0, bs.getD (p + 4) 0] := by
    rw [show p + 5 = (p + 4) + 1 from rfl, zwd_t (by omega) (by omega), show p + 4 = (p + 3) + 1 from rfl, zwd_t (by omega) (by omega), show p + 3 = (p + 2) + 1 from rfl, zwd_t (by omega) (by omega), show p + 2 = (p + 1) + 1 from rfl, zwd_t (by omega) (by omega), show p + 1 = (p + 0) + 1 from rfl, zwd_t (by omega) (by omega), Nat.add_zero, zwd_0]
    rfl
  rw [W]
  show l_X4_spells_s10 (39999 + 1) (nI p) a2 (nI 0) w = _
  unfold l_X4_spells_s10
  rw [if_neg (show ¬ nI (slen.getD 10 0) ≤ nI 0 by decide), z_jg (show jin (nI 0) (slen.getD 10 0) = true by decide), nI_add, z_rat (by omega), hb, show sch 10 (Int32.toNatClampNeg (nI 0)) = 112 by decide]
  by_cases c0 : bs.getD (p + 0) 0 = 112
  case neg => rw [if_neg c0, decide_eq_false (fun z => c0 (congrArg (fun l : List Int32 => l.getD 0 0) z))]
  rw [if_pos c0, z_jl]
  show l_X4_spells_s10 (39998 + 1) (nI p) a2 (nI 1) w = _
  unfold l_X4_spells_s10
  rw [if_neg (show ¬ nI (slen.getD 10 0) ≤ nI 1 by decide), z_jg (show jin (nI 1) (slen.getD 10 0) = true by decide), nI_add, z_rat (by omega), hb, show sch 10 (Int32.toNatClampNeg (nI 1)) = 97 by decide]
  by_cases c1 : bs.getD (p + 1) 0 = 97
  case neg => rw [if_neg c1, decide_eq_false (fun z => c1 (congrArg (fun l : List Int32 => l.getD 1 0) z))]
  rw [if_pos c1, z_jl]
  show l_X4_spells_s10 (39997 + 1) (nI p) a2 (nI 2) w = _
  unfold l_X4_spells_s10
  rw [if_neg (show ¬ nI (slen.getD 10 0) ≤ nI 2 by decide), z_jg (show jin (nI 2) (slen.getD 10 0) = true by decide), nI_add, z_rat (by omega), hb, show sch 10 (Int32.toNatClampNeg (nI 2)) = 103 by decide]
  by_cases c2 : bs.getD (p + 2) 0 = 103
  case neg => rw [if_neg c2, decide_eq_false (fun z => c2 (congrArg (fun l : List Int32 => l.getD 2 0) z))]
  rw [if_pos c2, z_jl]
  show l_X4_spells_s10 (39996 + 1) (nI p) a2 (nI 3) w = _
  unfold l_X4_spells_s10
  rw [if_neg (show ¬ nI (slen.getD 10 0) ≤ nI 3 by decide), z_jg (show jin (nI 3) (slen.getD 10 0) = true by decide), nI_add, z_rat (by omega), hb, show sch 10 (Int32.toNatClampNeg (nI 3)) = 101 by decide]
  by_cases c3 : bs.getD (p + 3) 0 = 101
  case neg => rw [if_neg c3, decide_eq_false (fun z => c3 (congrArg (fun l : List Int32 => l.getD 3 0) z))]
  rw [if_pos c3, z_jl]
  show l_X4_spells_s10 (39995 + 1) (nI p) a2 (nI 4) w = _
  unfold l_X4_spells_s10
  rw [if_neg (show ¬ nI (slen.getD 10 0) ≤ nI 4 by decide), z_jg (show jin (nI 4) (slen.getD 10 0) = true by decide), nI_add, z_rat (by omega), hb, show sch 10 (Int32.toNatClampNeg (nI 4)) = 115 by decide]
  by_cases c4 : bs.getD (p + 4) 0 = 115
  case neg => rw [if_neg c4, decide_eq_false (fun z => c4 (congrArg (fun l : List Int32 => l.getD 4 0) z))]
  rw [if_pos c4, z_jl]
  show l_X4_spells_s10 (39994 + 1) (nI p) a2 (nI 5) w = _
  unfold l_X4_spells_s10
  rw [if_pos (show nI (slen.getD 10 0) ≤ nI 5 by decide), c0, c1, c2, c3, c4]
  rfl
theorem z_sp10 {bs : List Int32} {w : jw} {p q : Nat} (hb : w.2.2.2 1 = bs) (hl : bs.length ≤ 2000) (hp : p ≤ q) (hq : q ≤ bs.length) : f_X4_spells_s10 (nI p) (nI q) w = some (decide (zwd bs p q = [112, 97, 103, 101, 115]), w) := by
  unfold f_X4_spells_s10
  rw [pk_sub hp, show slen.getD 10 0 = 5 from rfl]
  by_cases c : q - p = 5
  · rw [if_pos (by rw [c]), show q = p + 5 by omega]
    exact z_sp10_l hb hl (by omega)
  · rw [if_neg (fun z => c ((nI_eq (by omega) (by decide)).mp z)), decide_eq_false (fun z => c ?_)]
    have : (zwd bs p q).length = 5 := by rw [z]; rfl
    unfold zwd at this
    rw [List.length_take, List.length_drop] at this
    omega
end
