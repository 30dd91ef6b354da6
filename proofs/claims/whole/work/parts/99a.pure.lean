section
/-! both parsers, step by step -/
def zpA (w : jw) (i : Nat) (f : Int32) : jw := jsetI (jsetI w 10 4 (nI i)) 10 6 f
theorem zpA_4 (w : jw) (i : Nat) (f : Int32) : (zpA w i f).1 10 4 = nI i := by unfold zpA; rw [z_jI1, zup_ne (by decide), z_jI1, zup_eq]
theorem zpA_6 (w : jw) (i : Nat) (f : Int32) : (zpA w i f).1 10 6 = f := by unfold zpA; rw [z_jI1, zup_eq]
theorem z_jIe (w : jw) (a j : Nat) (x : Int32) (v : jw) (h : v.2 = w.2) (h1 : ∀ p q, (jsetI w a j x).1 p q = v.1 p q) : jsetI w a j x = v := by
  refine Prod.ext ?_ h.symm
  funext p q
  exact h1 p q
theorem zpA_s4 (w : jw) (i j : Nat) (f : Int32) : jsetI (zpA w i f) 10 4 (nI j) = zpA w j f := by
  refine z_jIe _ _ _ _ _ rfl fun p q => ?_
  show (if p = 10 ∧ q = 4 then nI j else if p = 10 ∧ q = 6 then f else if p = 10 ∧ q = 4 then nI i else w.1 p q) = if p = 10 ∧ q = 6 then f else if p = 10 ∧ q = 4 then nI j else w.1 p q
  by_cases c : p = 10 ∧ q = 4
  · rw [if_pos c, if_neg (by rintro ⟨_, z⟩; omega), if_pos c]
  · rw [if_neg c, if_neg c, if_neg c]
theorem zpA_s6 (w : jw) (i : Nat) (f g : Int32) : jsetI (zpA w i f) 10 6 g = zpA w i g := by
  refine z_jIe _ _ _ _ _ rfl fun p q => ?_
  show (if p = 10 ∧ q = 6 then g else if p = 10 ∧ q = 6 then f else if p = 10 ∧ q = 4 then nI i else w.1 p q) = if p = 10 ∧ q = 6 then g else if p = 10 ∧ q = 4 then nI i else w.1 p q
  by_cases c : p = 10 ∧ q = 6
  · rw [if_pos c, if_pos c]
  · rw [if_neg c, if_neg c, if_neg c]
theorem z_takeC (w : jw) {i : Nat} (hi : i < 400) : f_X7_take (zpA w i 0) = some (zpA w (i + 1) 0) := by
  unfold f_X7_take
  rw [zpA_4, zpA_6, if_pos (show nI i < 400 from nI_lt (b := 400) hi (by decide)), if_pos rfl, z_jl, nI_1, zpA_s4]
theorem z_failC (w : jw) (i : Nat) (k : Int32) : f_X7_fail k (zpA w i 0) = some (zpA w i k) := by
  unfold f_X7_fail
  rw [zpA_6, if_pos rfl, z_jl, zpA_s6]
theorem z_failC2 (w : jw) (i : Nat) (k : Int32) {f : Int32} (hf : f ≠ 0) : f_X7_fail k (zpA w i f) = some (zpA w i f) := by
  unfold f_X7_fail
  rw [zpA_6, if_neg hf]
theorem z_take4 (w : jw) : f_X7_take (zpA w 400 0) = some (zpA w 400 2) := by
  unfold f_X7_take
  rw [zpA_4, if_neg (by decide), z_failC, z_jbd, zpA_6, if_neg (by decide)]
theorem z_takeF (w : jw) (i : Nat) {f : Int32} (hf : f ≠ 0) : f_X7_take (zpA w i f) = some (zpA w i f) := by
  unfold f_X7_take
  split
  · rw [zpA_6, if_neg hf]
  · rw [z_failC2 w i 2 hf, z_jbd, zpA_6, if_neg hf]
theorem z_aheadC {T : List zT} {w : jw} (h : zTC T w) {i : Nat} (hi : i < 1000) (f : Int32) : f_X7_ahead (zpA w i f) = some (zkC (zt T i).1, zpA w i f) := by
  unfold f_X7_ahead
  rw [zpA_4, show rat ((zpA w i f).2.2.2 4) (nI i) = zkC (zt T i).1 from zTC_k h (by omega)]
/-! the reference -/
theorem zt_some {T : List zT} {i : Nat} (hi : i < T.length) : T[i]? = some (zt T i) := by
  unfold zt
  rw [List.getD_eq_getElem?_getD, List.getElem?_eq_getElem hi]
  rfl
theorem z_isF {w : jw} (h : w.1 162 13 ≠ 0) (r : Int32) : f_X12_is r w = some (false, w) := by
  unfold f_X12_is
  rw [if_neg h]
theorem z_isR {T : List zT} {w : jw} (hT : zTRx T w) (h1 : w.1 162 13 = 0) {i : Nat} (h2 : w.1 162 11 = nI i) (hi : i < T.length) (hl : T.length ≤ 401) (r : Int32) : f_X12_is r w = some (decide (w.2.1 165 i = r), w) := by
  unfold f_X12_is
  rw [if_pos h1, h2, z_jg (z_in (show i < 403 by omega) (by decide)), nI_clamp (by omega)]
  by_cases c : w.2.1 165 i = r
  · rw [if_pos c, decide_eq_true c]
  · rw [if_neg c, decide_eq_false c]
theorem z_isK {T : List zT} {w : jw} (hT : zTRx T w) {i : Nat} (hi : i < T.length) {b : zK} (hb : b ≠ kNo) : decide (w.2.1 165 i = zkR b) = decide ((zt T i).1 = b) := by
  rw [decide_eq_decide]
  exact zRk_eq (hT i _ (zt_some hi)).1 hb
theorem z_failR {T : List zT} {w : jw} (hT : zTRx T w) (h1 : w.1 162 13 = 0) {i : Nat} (h2 : w.1 162 11 = nI i) (hi : i < T.length) (hl : T.length ≤ 401) (k : Int32) : f_X12_fail k w = some (jsetI (jsetI w 162 13 k) 162 14 (zt T i).2.1) := by
  unfold f_X12_fail
  rw [h1, if_pos (by decide), z_jl, show (jsetI w 162 13 k).1 162 11 = nI i from by rw [z_jI1, zup_ne (by decide)]; exact h2, z_jg (z_in (show i < 403 by omega) (by decide)), nI_clamp (by omega), z_jl, show (jsetI w 162 13 k).2.1 166 i = (zt T i).2.1 from (hT i _ (zt_some hi)).2.1]
theorem z_failR2 {w : jw} (h : ¬ w.1 162 13 ≤ 0) (k : Int32) : f_X12_fail k w = some w := by
  unfold f_X12_fail
  rw [if_neg h]
theorem z_goR {w : jw} {i : Nat} (h2 : w.1 162 11 = nI i) (hi : i < 400) : f_X12_goesOn w = some (jsetI w 162 11 (nI (i + 1))) := by
  unfold f_X12_goesOn
  rw [h2, if_neg (show ¬ nI i = 400 from fun z => by have := (nI_eq (a := i) (b := 400) (by omega) (by decide)).mp z; omega), z_jl, nI_1]
theorem z_goR4 {w : jw} (h2 : w.1 162 11 = nI 400) : f_X12_goesOn w = jbd (f_X12_fail 2 w) fun q3 => some q3 := by
  unfold f_X12_goesOn
  rw [h2, if_pos (by decide)]
theorem z_ops {β : Type} {w : jw} {q : Int32 → Bool} (H : ∀ r, f_X12_is r w = some (q r, w)) (K : Int32 → jw → Option β) : (jbd2 (f_X12_is 8 w) fun x23 w24 => jbd2 (if (jb x23) = 0 then jbd2 (f_X12_is 9 w24) fun x57 w58 => (if (jb x57) = 0 then jbd2 (f_X12_is 10 w58) fun x61 w62 => (if (jb x61) = 0 then jbd2 (f_X12_is 15 w62) fun x65 w66 => (if (jb x65) = 0 then jbd2 (f_X12_is 16 w66) fun x69 w70 => (if (jb x69) = 0 then some ((0 : Int32), w70) else some ((1 : Int32), w70)) else some ((1 : Int32), w66)) else some ((1 : Int32), w62)) else some ((1 : Int32), w58)) else some ((1 : Int32), w24)) K) = K (if (q 8 || q 9 || q 10 || q 15 || q 16) = true then 1 else 0) w := by
  rw [H, z_jbd2]
  cases q 8 with
  | true => rfl
  | false =>
    rw [if_pos (show jb false = 0 from rfl), H, z_jbd2]
    cases q 9 with
    | true => rfl
    | false =>
      rw [if_pos (show jb false = 0 from rfl), H, z_jbd2]
      cases q 10 with
      | true => rfl
      | false =>
        rw [if_pos (show jb false = 0 from rfl), H, z_jbd2]
        cases q 15 with
        | true => rfl
        | false =>
          rw [if_pos (show jb false = 0 from rfl), H, z_jbd2]
          cases q 16 with
          | true => rfl
          | false => rfl
theorem z_strong {β : Type} {w : jw} {q : Int32 → Bool} (H : ∀ r, f_X12_is r w = some (q r, w)) (K : Int32 → jw → Option β) : (jbd2 (f_X12_is 10 w) fun x31 w32 => jbd2 (if (jb x31) = 0 then jbd2 (f_X12_is 15 w32) fun x44 w45 => (if (jb x44) = 0 then jbd2 (f_X12_is 16 w45) fun x48 w49 => (if (jb x48) = 0 then some ((0 : Int32), w49) else some ((1 : Int32), w49)) else some ((1 : Int32), w45)) else some ((1 : Int32), w32)) K) = K (if (q 10 || q 15 || q 16) = true then 1 else 0) w := by
  rw [H, z_jbd2]
  cases q 10 with
  | true => rfl
  | false =>
    rw [if_pos (show jb false = 0 from rfl), H, z_jbd2]
    cases q 15 with
    | true => rfl
    | false =>
      rw [if_pos (show jb false = 0 from rfl), H, z_jbd2]
      cases q 16 with
      | true => rfl
      | false => rfl
/-! the class's expression, one token -/
theorem zkC_tests : ∀ k : zK, ((zkC k = 40) ↔ k = kLp) ∧ ((zkC k = 41) ↔ k = kRp) := by decide
theorem z_isOpC (k : zK) (w : jw) : f_X7_isOperator (zkC k) w = some (decide (17 ≤ k.1), w) := by
  have : ∀ k : zK, (if zkC k = 43 then true else (if zkC k = 45 then true else (if zkC k = 42 then true else (if zkC k = 47 then true else (if zkC k = 37 then true else false))))) = decide (17 ≤ k.1) := by decide
  rw [← this k]
  unfold f_X7_isOperator
  (repeat' split) <;> rfl
theorem z_isUnC (k : zK) (w : jw) : f_X7_isUnit (zkC k) w = some (decide (k = kInt ∨ (8 ≤ k.1 ∧ k.1 ≤ 13)), w) := by
  have : ∀ k : zK, (if zkC k = 2 then true else (if zkC k < 8 then false else (if 13 < zkC k then false else true))) = decide (k = kInt ∨ (8 ≤ k.1 ∧ k.1 ≤ 13)) := by decide
  rw [← this k]
  unfold f_X7_isUnit
  (repeat' split) <;> rfl
theorem z_peF (w : jw) (i n : Nat) (b1 b2 b3 : Int32) {f : Int32} (hf : f ≠ 0) : l_X7_parseExpression (n + 1) b1 b2 b3 (zpA w i f) = some (zpA w i f) := by
  rw [show l_X7_parseExpression (n + 1) b1 b2 b3 (zpA w i f) = _ from by unfold l_X7_parseExpression; exact rfl]
  by_cases c : 400 < b3
  · rw [if_pos c]
  · rw [if_neg c, zpA_6, if_neg hf]
theorem z_peDue {T : List zT} {w : jw} (h : zTC T w) {i : Nat} (hi : i < 1000) {cnt : Nat} (hc : cnt ≤ 400) (n : Nat) (b1 : Int32) : l_X7_parseExpression (n + 1) b1 1 (nI cnt) (zpA w i 0) = (if (zt T i).1 = kLp then jbd (if b1 + 1 ≤ 6 then some (zpA w i 0) else jbd (f_X7_fail 2 (zpA w i 0)) fun q104 => some q104) fun w100 => jbd (f_X7_take w100) fun q102 => l_X7_parseExpression n (b1 + 1) 1 (nI (cnt + 1)) q102 else if (zt T i).1 = kInt ∨ (8 ≤ (zt T i).1.1 ∧ (zt T i).1.1 ≤ 13) then jbd (f_X7_take (zpA w i 0)) fun q96 => l_X7_parseExpression n b1 0 (nI (cnt + 1)) q96 else jbd (f_X7_fail 1 (zpA w i 0)) fun q93 => jbd (f_X7_take q93) fun q94 => l_X7_parseExpression n b1 1 (nI (cnt + 1)) q94) := by
  rw [show l_X7_parseExpression (n + 1) b1 1 (nI cnt) (zpA w i 0) = _ from by unfold l_X7_parseExpression; exact rfl]
  rw [if_neg (show ¬ (400 : Int32) < nI cnt from nI_nlt (a := 400) hc (by decide)), zpA_6, if_pos rfl, z_aheadC h hi, z_jbd2, if_neg (by decide)]
  by_cases c : (zt T i).1 = kLp
  · rw [if_pos ((zkC_tests _).1.mpr c), if_pos c, z_jl]
    simp only [z_jl, nI_1]
  · rw [if_neg (fun z => c ((zkC_tests _).1.mp z)), if_neg c, if_neg (by decide), z_isUnC, z_jbd2]
    by_cases d : (zt T i).1 = kInt ∨ (8 ≤ (zt T i).1.1 ∧ (zt T i).1.1 ≤ 13)
    · rw [decide_eq_true d, if_neg (show ¬ jb true = 0 by decide), if_pos d]
      simp only [z_jl, nI_1]
    · rw [decide_eq_false d, if_pos (show jb false = 0 from rfl), if_neg d, if_neg (by decide)]
      simp only [z_jl, nI_1]
theorem z_peHad {T : List zT} {w : jw} (h : zTC T w) {i : Nat} (hi : i < 1000) {cnt : Nat} (hc : cnt ≤ 400) (n : Nat) (b1 : Int32) : l_X7_parseExpression (n + 1) b1 0 (nI cnt) (zpA w i 0) = (if 17 ≤ (zt T i).1.1 then jbd (f_X7_take (zpA w i 0)) fun q22 => l_X7_parseExpression n b1 1 (nI (cnt + 1)) q22 else if b1 = 0 then some (zpA w i 0) else if (zt T i).1 = kRp then jbd (f_X7_take (zpA w i 0)) fun q18 => l_X7_parseExpression n (b1 + -1) 0 (nI (cnt + 1)) q18 else jbd (f_X7_fail 1 (zpA w i 0)) fun q20 => jbd (f_X7_take q20) fun q18 => l_X7_parseExpression n b1 0 (nI (cnt + 1)) q18) := by
  rw [show l_X7_parseExpression (n + 1) b1 0 (nI cnt) (zpA w i 0) = _ from by unfold l_X7_parseExpression; exact rfl]
  rw [if_neg (show ¬ (400 : Int32) < nI cnt from nI_nlt (a := 400) hc (by decide)), zpA_6, if_pos rfl, z_aheadC h hi, z_jbd2, if_pos rfl, if_pos rfl, if_pos rfl, z_isOpC, z_jbd2]
  by_cases c : 17 ≤ (zt T i).1.1
  · rw [decide_eq_true c, if_neg (show ¬ jb true = 0 by decide), if_pos c]
    simp only [z_jl, nI_1]
  · rw [decide_eq_false c, if_pos (show jb false = 0 from rfl), if_neg c]
    by_cases d : b1 = 0
    · rw [if_pos d, if_pos d]
    · rw [if_neg d, if_neg d]
      by_cases e : (zt T i).1 = kRp
      · rw [if_pos ((zkC_tests _).2.mpr e), if_pos e, z_jl, z_jbd2]
        simp only [z_jl, nI_1]
      · rw [if_neg (fun z => e ((zkC_tests _).2.mp z)), if_neg e, z_failC, z_jbd, z_jbd2, z_jbd]
        simp only [z_jl, nI_1]
end
