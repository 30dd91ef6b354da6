section
/-! a term: both parsers side by side -/
def zfEx (cb : Nat) (w w' : jw) : Prop := w'.2.2 = w.2.2 ∧ (∀ a, a ≠ 162 → w'.1 a = w.1 a) ∧ (∀ j, j ≠ 11 → j ≠ 12 → j ≠ 13 → j ≠ 14 → j ≠ 26 → j ≠ 30 → w'.1 162 j = w.1 162 j) ∧ (∀ p, p ≠ 176 → p ≠ 177 → p ≠ 178 → w'.2.1 p = w.2.1 p) ∧ ∀ q, q < cb → w'.2.1 176 q = w.2.1 176 q ∧ w'.2.1 177 q = w.2.1 177 q
theorem zfEx_rfl (cb : Nat) (w : jw) : zfEx cb w w := ⟨rfl, fun _ _ => rfl, fun _ _ _ _ _ _ _ => rfl, fun _ _ _ _ => rfl, fun _ _ => ⟨rfl, rfl⟩⟩
theorem zfEx_trans {cb : Nat} {a b c : jw} (h : zfEx cb a b) (g : zfEx cb b c) : zfEx cb a c := ⟨g.1.trans h.1, fun x hx => (g.2.1 x hx).trans (h.2.1 x hx), fun x h1 h2 h3 h4 h5 h6 => (g.2.2.1 x h1 h2 h3 h4 h5 h6).trans (h.2.2.1 x h1 h2 h3 h4 h5 h6), fun p p1 p2 p3 => (g.2.2.2.1 p p1 p2 p3).trans (h.2.2.2.1 p p1 p2 p3), fun q hq => ⟨(g.2.2.2.2 q hq).1.trans (h.2.2.2.2 q hq).1, (g.2.2.2.2 q hq).2.trans (h.2.2.2.2 q hq).2⟩⟩
theorem zfEx_m {cb : Nat} {w w' : jw} (h : zfEm cb w w') : zfEx cb w w' := ⟨h.1, h.2.1, fun j _ _ _ _ j5 j6 => h.2.2.1 j j5 j6, fun p p1 p2 _ => h.2.2.2.1 p p1 p2, h.2.2.2.2⟩
theorem zfEx_I {cb : Nat} {w : jw} {j : Nat} {x : Int32} (hj : j = 11 ∨ j = 12 ∨ j = 13 ∨ j = 14 ∨ j = 26 ∨ j = 30) : zfEx cb w (jsetI w 162 j x) := ⟨rfl, fun a ha => z_jI2 ha, fun q h1 h2 h3 h4 h5 h6 => by rw [z_jI1, zup_ne (by omega)], fun _ _ _ _ => rfl, fun _ _ => ⟨rfl, rfl⟩⟩
theorem zfEx_X {cb : Nat} {w : jw} {i : Nat} {x : Int32} : zfEx cb w (jsetX w 178 i x) := ⟨rfl, fun _ _ => rfl, fun _ _ _ _ _ _ _ => rfl, fun p _ _ p3 => z_jX2 p3, fun q _ => by rw [z_jX2 (by decide), z_jX2 (by decide)]; exact ⟨rfl, rfl⟩⟩
theorem zTRx_fr {T : List zT} {cb : Nat} {w w' : jw} (h : zTRx T w) (f : zfEx cb w w') : zTRx T w' := fun i x hx => by
  rw [f.2.2.2.1 165 (by decide) (by decide) (by decide), f.2.2.2.1 166 (by decide) (by decide) (by decide), f.2.2.2.1 167 (by decide) (by decide) (by decide)]
  exact h i x hx
def zDu (T : List zT) (i0 : Nat) (fr : List zFm) (i : Nat) : Prop := ∀ w, zTC T w → f_X10_total 0 (zat w i0) = jbd2 (f_X10_unit (f_X10_totalN (7 - (fr.length - 1))) (nI (fr.length - 1)) (zat w i)) (zkU (zenv w) fr)
def zHa (T : List zT) (i0 : Nat) (fr : List zFm) (c : List zcd1) (j : Nat) : Prop := ∀ w, zTC T w → f_X10_total 0 (zat w i0) = zkU (zenv w) fr (zvl (zenv w) c) (zat w j)
def zEx (T : List zT) (i0 j : Nat) (c : List zcd1) : Prop := zCd c ∧ ∀ w, zTC T w → f_X10_total 0 (zat w i0) = some (zvl (zenv w) c, zat w j)
def zFr (fr : List zFm) (i : Nat) : Prop := fr.length ≤ 7 ∧ ∀ f ∈ fr, zFok f ∧ f.2.2.1 ≤ i ∧ f.2.2.2.2.2 ≤ i
def zRs (T : List zT) (cb : Nat) (fr : List zFm) (cc : List zcd1) (i : Nat) (w : jw) : Prop := w.1 162 11 = nI i ∧ w.1 162 12 = nI (fr.length - 1) ∧ w.1 162 13 = 0 ∧ zCo cb cc w ∧ zWt (zwt fr) w ∧ zTRx T w ∧ cb + cc.length + zno fr ≤ i
def zOut (T : List zT) (cb i0 : Nat) (w wm : jw) (rc rm : Option jw) : Prop :=
  (∃ j c wm', rc = some (zpA w j 0) ∧ rm = some wm' ∧ i0 < j ∧ j < T.length ∧ zEx T i0 j c ∧ wm'.1 162 11 = nI j ∧ wm'.1 162 12 = 0 ∧ wm'.1 162 13 = 0 ∧ zCo cb c wm' ∧ cb + c.length ≤ j ∧ zfEx cb wm wm') ∨
  ∃ j f wm', (f = 1 ∨ f = 2) ∧ j < T.length ∧ rc = some (zpA w j f) ∧ rm = some wm' ∧ wm'.1 162 13 = f ∧ wm'.1 162 14 = (zt T j).2.1 ∧ zfEx cb wm wm'
theorem zOut_fr {T : List zT} {cb i0 : Nat} {w wm wm1 : jw} {rc rm : Option jw} (f : zfEx cb wm wm1) (h : zOut T cb i0 w wm1 rc rm) : zOut T cb i0 w wm rc rm := by
  rcases h with ⟨j, c, wm', a1, a2, a3, a4, a5, a6, a7, a8, a9, a10, a11⟩ | ⟨j, g, wm', a1, a2, a3, a4, a5, a6, a7⟩
  · exact Or.inl ⟨j, c, wm', a1, a2, a3, a4, a5, a6, a7, a8, a9, a10, zfEx_trans f a11⟩
  · exact Or.inr ⟨j, g, wm', a1, a2, a3, a4, a5, a6, zfEx_trans f a7⟩
theorem z_nx {T : List zT} (tk : zTok T) {i : Nat} (hi : i < T.length) (h1 : (zt T i).1 ≠ kStop) (h2 : (zt T i).1 ≠ kNo) (h4 : i < 400) : i + 1 < T.length := by
  rcases Nat.lt_or_ge (i + 1) T.length with c | c
  · exact c
  · rcases tk.2.2.2 (by omega) (zt T i) (by rw [show T.length - 1 = i by omega]; exact zt_some hi) with z | z
    · exact absurd z h1
    · exact absurd z h2
theorem zR_f (w : jw) (k x : Int32) : (jsetI (jsetI w 162 13 k) 162 14 x).1 162 13 = k ∧ (jsetI (jsetI w 162 13 k) 162 14 x).1 162 14 = x := by
  rw [z_jI1, zup_ne (by decide), z_jI1, zup_eq, zup_eq]
  exact ⟨rfl, rfl⟩
theorem zR_ff {cb : Nat} (w : jw) (k x : Int32) : zfEx cb w (jsetI (jsetI w 162 13 k) 162 14 x) := zfEx_trans (zfEx_I (by omega)) (zfEx_I (by omega))
/-- going on at the last place of all -/
theorem z_goF {T : List zT} {w : jw} (hT : zTRx T w) (h1 : w.1 162 13 = 0) (h2 : w.1 162 11 = nI 400) (hi : 400 < T.length) (hl : T.length ≤ 401) : f_X12_goesOn w = some (jsetI (jsetI w 162 13 2) 162 14 (zt T 400).2.1) := by
  rw [z_goR4 h2, z_failR hT h1 h2 hi hl, z_jbd]
/-- a fault stands: the reference's unit, and its loop -/
theorem z_unitF {w : jw} (h : w.1 162 13 = 1 ∨ w.1 162 13 = 2) : f_X12_unit w = some w := by
  have h0 : w.1 162 13 ≠ 0 := by rcases h with z | z <;> rw [z] <;> decide
  have h1 : ¬ w.1 162 13 ≤ 0 := by rcases h with z | z <;> rw [z] <;> decide
  unfold f_X12_unit
  rw [z_isF h0, z_jbd2, if_pos (show jb false = 0 from rfl), if_neg h0, z_failR2 h1, z_jbd]
theorem z_ex1F {w : jw} (h : w.1 162 13 = 1 ∨ w.1 162 13 = 2) (n : Nat) (b1 b2 : Int32) : l_X12_expression (n + 1) 1 b1 b2 w = some w := by
  have h0 : w.1 162 13 ≠ 0 := by rcases h with z | z <;> rw [z] <;> decide
  have h1 : ¬ w.1 162 13 ≤ 0 := by rcases h with z | z <;> rw [z] <;> decide
  rw [show l_X12_expression (n + 1) 1 b1 b2 w = _ from by unfold l_X12_expression; exact rfl]
  rw [if_neg (by decide), if_pos (show (1 : Nat) = 1 from rfl), z_isF h0, z_jbd2, if_pos (show jb false = 0 from rfl), z_unitF h, z_jbd, if_neg h1]
theorem z_ex0F {w : jw} (h : w.1 162 13 = 1 ∨ w.1 162 13 = 2) (n : Nat) (b1 : Int32) : l_X12_expression (n + 1) 0 b1 1 w = some w := by
  have h0 : w.1 162 13 ≠ 0 := by rcases h with z | z <;> rw [z] <;> decide
  rw [show l_X12_expression (n + 1) 0 b1 1 w = _ from by unfold l_X12_expression; exact rfl]
  rw [if_pos (show (0 : Nat) = 0 from rfl), if_neg (by decide), if_neg h0]
theorem z_ex0 {w : jw} (h : w.1 162 13 = 0) (n : Nat) (b1 : Int32) : l_X12_expression (n + 1) 0 b1 1 w = l_X12_expression n 1 b1 1 w := by
  rw [show l_X12_expression (n + 1) 0 b1 1 w = _ from by unfold l_X12_expression; exact rfl]
  rw [if_pos (show (0 : Nat) = 0 from rfl), if_neg (by decide), if_pos h]
/-- the reference, a unit due -/
theorem z_ex1 {T : List zT} {w : jw} (hT : zTRx T w) (h1 : w.1 162 13 = 0) {i : Nat} (h2 : w.1 162 11 = nI i) (hi : i < T.length) (hl : T.length ≤ 401) (n : Nat) : l_X12_expression (n + 1) 1 0 1 w = (if (zt T i).1 = kLp then jbd (if (w.1 162 12) = 6 then jbd (f_X12_fail 2 w) fun q17 => some q17 else some w) fun w10 => jl (jsetI w10 162 12 ((w10.1 162 12) + 1)) fun w12 => jbd (f_X12_goesOn w12) fun q13 => jg (jin (q13.1 162 30) 64) (jl (jsetX q13 178 (Int32.toNatClampNeg (q13.1 162 30)) 6) fun w15 => jl (jsetI w15 162 30 ((w15.1 162 30) + 1)) fun w16 => (l_X12_expression n 1 0 1 w16)) else jbd (f_X12_unit w) fun q7 => (if (q7.1 162 13) ≤ 0 then (l_X12_expression n 2 0 1 q7) else some q7)) := by
  rw [show l_X12_expression (n + 1) 1 0 1 w = _ from by unfold l_X12_expression; exact rfl]
  rw [if_neg (by decide), if_pos (show (1 : Nat) = 1 from rfl), z_isR hT h1 h2 hi hl, z_jbd2, show (6 : Int32) = zkR kLp from rfl, z_isK hT hi (by decide)]
  by_cases c : (zt T i).1 = kLp
  · rw [decide_eq_true c, if_neg (show ¬ jb true = 0 by decide), if_pos c]
  · rw [decide_eq_false c, if_pos (show jb false = 0 from rfl), if_neg c]
theorem z_unitR {T : List zT} {w : jw} (hT : zTRx T w) (h1 : w.1 162 13 = 0) {i : Nat} (h2 : w.1 162 11 = nI i) (hi : i < T.length) (hl : T.length ≤ 401) : f_X12_unit w = (if (zt T i).1 = kInt then jbd (f_X12_emit 0 (zt T i).2.2 w) fun q17 => jbd (f_X12_goesOn q17) fun q18 => some q18 else if 8 ≤ (zt T i).1.1 ∧ (zt T i).1.1 ≤ 13 then jbd (f_X12_emit 1 (nI ((zt T i).1.1 - 8)) w) fun q14 => jbd (f_X12_goesOn q14) fun q15 => some q15 else jbd (f_X12_fail 1 w) fun q9 => some q9) := by
  obtain ⟨t1, t2, t3⟩ := hT i _ (zt_some hi)
  have gj : jin (w.1 162 11) 403 = true := by rw [h2]; exact z_in (by omega) (by decide)
  have cl : Int32.toNatClampNeg (w.1 162 11) = i := by rw [h2, nI_clamp (by omega)]
  unfold f_X12_unit
  rw [z_isR hT h1 h2 hi hl, z_jbd2, show (2 : Int32) = zkR kInt from rfl, z_isK hT hi (by decide)]
  by_cases c : (zt T i).1 = kInt
  · rw [decide_eq_true c, if_neg (show ¬ jb true = 0 by decide), if_pos c, z_jg gj, cl, t3 c]
  · rw [decide_eq_false c, if_pos (show jb false = 0 from rfl), if_pos h1, if_neg c, z_jg gj, z_jg gj, z_jg gj, cl]
    have key : ∀ k : zK, k ≠ kNo → ((zkR k < 25) ↔ ¬ 8 ≤ k.1 ∨ 13 < k.1) ∧ (8 ≤ k.1 → k.1 ≤ 13 → ¬ 30 < zkR k ∧ zkR k - 25 = nI (k.1 - 8)) := by decide
    rcases t1 with z | ⟨z1, z2⟩
    · by_cases n1 : (zt T i).1 = kNo
      · rw [z, n1, if_pos (by decide), if_neg (by decide)]
      · obtain ⟨k1, k2⟩ := key (zt T i).1 n1
        by_cases d : 8 ≤ (zt T i).1.1 ∧ (zt T i).1.1 ≤ 13
        · rw [if_pos d, z, if_neg (fun q => by have := k1.mp q; omega), if_neg (k2 d.1 d.2).1, (k2 d.1 d.2).2]
        · rw [if_neg d, z, if_pos (k1.mpr (by omega))]
    · rw [z1, z2, if_pos (by decide), if_neg (by decide)]
/-- the reference, a unit had -/
theorem z_ex2 {T : List zT} {w : jw} (hT : zTRx T w) (h1 : w.1 162 13 = 0) {i d : Nat} (h2 : w.1 162 11 = nI i) (hi : i < T.length) (hl : T.length ≤ 401) (h3 : w.1 162 12 = nI d) (hd : d ≤ 6) (n : Nat) : l_X12_expression (n + 1) 2 0 1 w = (if (zt T i).1 = kRp ∧ d ≠ 0 then jbd (f_X12_comesOut 0 w) fun q123 => jl (jsetI q123 162 30 ((q123.1 162 30) - 1)) fun w124 => jl (jsetI w124 162 12 ((w124.1 162 12) - 1)) fun w125 => jbd (f_X12_goesOn w125) fun q126 => (l_X12_expression n 2 0 1 q126) else if 17 ≤ (zt T i).1.1 then jbd (f_X12_comesOut (if 19 ≤ (zt T i).1.1 then 1 else 0) w) fun q37 => jg (jin (q37.1 162 11) 403) (jg (jin (q37.1 162 30) 64) (jl (jsetX q37 178 (Int32.toNatClampNeg (q37.1 162 30)) (q37.2.1 165 (Int32.toNatClampNeg (q37.1 162 11)))) fun w40 => jl (jsetI w40 162 30 ((w40.1 162 30) + 1)) fun w41 => jbd (f_X12_goesOn w41) fun q42 => (l_X12_expression n 0 0 1 q42))) else jbd (if d = 0 then some w else jbd (f_X12_fail 1 w) fun q55 => some q55) fun w52 => jbd (f_X12_comesOut 0 w52) fun q54 => some q54) := by
  have H : ∀ r, f_X12_is r w = some (decide (w.2.1 165 i = r), w) := z_isR hT h1 h2 hi hl
  have e8 : decide (w.2.1 165 i = 8) = decide ((zt T i).1 = 17) := z_isK (b := 17) hT hi (by decide)
  have e9 : decide (w.2.1 165 i = 9) = decide ((zt T i).1 = 18) := z_isK (b := 18) hT hi (by decide)
  have e10 : decide (w.2.1 165 i = 10) = decide ((zt T i).1 = 19) := z_isK (b := 19) hT hi (by decide)
  have e15 : decide (w.2.1 165 i = 15) = decide ((zt T i).1 = 20) := z_isK (b := 20) hT hi (by decide)
  have e16 : decide (w.2.1 165 i = 16) = decide ((zt T i).1 = 21) := z_isK (b := 21) hT hi (by decide)
  have o1 : ∀ k : zK, ((decide (k = 17) || decide (k = 18) || decide (k = 19) || decide (k = 20) || decide (k = 21)) = true) ↔ 17 ≤ k.1 := by decide
  have o2 : ∀ k : zK, ((decide (k = 19) || decide (k = 20) || decide (k = 21)) = true) ↔ 19 ≤ k.1 := by decide
  have le0 : ((w.1 162 12) ≤ 0) ↔ d = 0 := by
    rw [h3]
    constructor
    · intro z
      rcases Nat.eq_zero_or_pos d with c | c
      · exact c
      · exact absurd z (nI_ge (a := 0) c (by omega))
    · intro z; rw [z]; decide
  have op1 : (if (decide (w.2.1 165 i = 8) || decide (w.2.1 165 i = 9) || decide (w.2.1 165 i = 10) || decide (w.2.1 165 i = 15) || decide (w.2.1 165 i = 16)) = true then (1 : Int32) else 0) = if 17 ≤ (zt T i).1.1 then 1 else 0 := by
    rw [e8, e9, e10, e15, e16]
    by_cases c : 17 ≤ (zt T i).1.1
    · rw [if_pos ((o1 _).mpr c), if_pos c]
    · rw [if_neg (fun z => c ((o1 _).mp z)), if_neg c]
  have op2 : (if (decide (w.2.1 165 i = 10) || decide (w.2.1 165 i = 15) || decide (w.2.1 165 i = 16)) = true then (1 : Int32) else 0) = if 19 ≤ (zt T i).1.1 then 1 else 0 := by
    rw [e10, e15, e16]
    by_cases c : 19 ≤ (zt T i).1.1
    · rw [if_pos ((o2 _).mpr c), if_pos c]
    · rw [if_neg (fun z => c ((o2 _).mp z)), if_neg c]
  have lt : (if (w.1 162 12) ≤ 0 then some w else jbd (f_X12_fail 1 w) fun q55 => some q55) = if d = 0 then some w else jbd (f_X12_fail 1 w) fun q55 => some q55 := by
    by_cases c : d = 0
    · rw [if_pos (le0.mpr c), if_pos c]
    · rw [if_neg (fun z => c (le0.mp z)), if_neg c]
  rw [show l_X12_expression (n + 1) 2 0 1 w = _ from by unfold l_X12_expression; exact rfl]
  rw [if_neg (by decide), if_neg (by decide), H, z_jbd2, show (7 : Int32) = zkR kRp from rfl, z_isK hT hi (by decide)]
  by_cases c : (zt T i).1 = kRp
  · rw [decide_eq_true c, if_neg (show ¬ jb true = 0 by decide)]
    by_cases e : d = 0
    · rw [if_pos (le0.mpr e), z_ops H, op1, if_neg (show ¬ ((zt T i).1 = kRp ∧ d ≠ 0) from fun z => z.2 e), if_neg (show ¬ 17 ≤ (zt T i).1.1 by rw [c]; decide), if_neg (show ¬ 17 ≤ (zt T i).1.1 by rw [c]; decide), if_pos rfl, lt]
    · rw [if_neg (fun z => e (le0.mp z)), if_pos ⟨c, e⟩]
  · rw [decide_eq_false c, if_pos (show jb false = 0 from rfl), z_ops H, op1, if_neg (show ¬ ((zt T i).1 = kRp ∧ d ≠ 0) from fun z => c z.1)]
    by_cases e : 17 ≤ (zt T i).1.1
    · rw [if_pos e, if_pos e, if_neg (by decide), z_strong H, op2]
    · rw [if_neg e, if_neg e, if_pos rfl, lt]
/-- the reference, a fault, in the midst of a term -/
theorem z_ex2F {w : jw} (h : w.1 162 13 = 1 ∨ w.1 162 13 = 2) (n : Nat) : l_X12_expression (n + 1) 2 0 1 w = jbd (f_X12_comesOut 0 w) fun q54 => some q54 := by
  have h0 : w.1 162 13 ≠ 0 := by rcases h with z | z <;> rw [z] <;> decide
  have h1 : ¬ w.1 162 13 ≤ 0 := by rcases h with z | z <;> rw [z] <;> decide
  have H : ∀ r, f_X12_is r w = some (false, w) := z_isF h0
  rw [show l_X12_expression (n + 1) 2 0 1 w = _ from by unfold l_X12_expression; exact rfl]
  rw [if_neg (by decide), if_neg (by decide), H, z_jbd2, if_pos (show jb false = 0 from rfl), z_ops H, if_pos (by decide), z_failR2 h1, z_jbd]
  split <;> rfl
end
