section
/-! room -/
def zcq (m : Int32) (e : zE) : Int32 := if m ≤ e.2.1 then 0 else 1
def zcp1 (x : zP) : Int32 := if x.1 = 1 then zLs (zcq x.2.1) x.2.2.2 else 0
def zen1 (x : zP) : Int32 := nI x.2.2.2.length
def zed1 (x : zP) : Int32 := if x.2.2.1 = -2 then 0 else 1
theorem z_allE_l {B P : Nat} {pg : Nat → zP} {w : jw} (h : zCw B P pg w) (hP : P ≤ 320) : ∀ (d n p : Nat) (c : Int32), p + d = P → d < n → l_X6_allEntries n c (nI p) w = some (c + zSu (fun p => zen1 (pg p)) d p, w) := by
  intro d
  induction d with
  | zero =>
    intro n p c h1 h2
    cases n with
    | zero => cases h2
    | succ n =>
      unfold l_X6_allEntries
      rw [h.2.1, if_pos (nI_le (by omega) (by omega))]
      show _ = some (c + 0, w)
      rw [Int32.add_zero]
  | succ d ih =>
    intro n p c h1 h2
    cases n with
    | zero => cases h2
    | succ n =>
      obtain ⟨q1, q2, q3, q4, q5, q6, q7⟩ := h.2.2.2.2.2.2.2.2.2 p (by omega)
      unfold l_X6_allEntries
      rw [h.2.1, if_neg (nI_ge (by omega) (by omega)), z_rat (by omega), q2, z_jl, z_jl, nI_1, ih n (p + 1) _ (by omega) (by omega), Int32.add_assoc]
      rfl
theorem z_endedP_l {B P : Nat} {pg : Nat → zP} {w : jw} (h : zCw B P pg w) (hP : P ≤ 320) : ∀ (d n p : Nat) (c : Int32), p + d = P → d < n → l_X6_endedPages n c (nI p) w = some (c + zSu (fun p => zed1 (pg p)) d p, w) := by
  intro d
  induction d with
  | zero =>
    intro n p c h1 h2
    cases n with
    | zero => cases h2
    | succ n =>
      unfold l_X6_endedPages
      rw [h.2.1, if_pos (nI_le (by omega) (by omega))]
      show _ = some (c + 0, w)
      rw [Int32.add_zero]
  | succ d ih =>
    intro n p c h1 h2
    cases n with
    | zero => cases h2
    | succ n =>
      obtain ⟨q1, q2, q3, q4, q5, q6, q7⟩ := h.2.2.2.2.2.2.2.2.2 p (by omega)
      unfold l_X6_endedPages
      rw [h.2.1, if_neg (nI_ge (by omega) (by omega)), z_rat (by omega), q4]
      simp only [z_jl, nI_1]
      show _ = some (c + (zed1 (pg p) + zSu (fun p => zed1 (pg p)) d (p + 1)), w)
      by_cases k : (pg p).2.2.1 = -2
      · have e : zed1 (pg p) = 0 := if_pos k
        rw [if_pos k, e, ih n (p + 1) c (by omega) (by omega), Int32.zero_add]
      · have e : zed1 (pg p) = 1 := if_neg k
        rw [if_neg k, e, ih n (p + 1) _ (by omega) (by omega), Int32.add_assoc]
theorem z_copC_i {B P p : Nat} {pg : Nat → zP} {w : jw} (h : zCw B P pg w) (hp : p < P) (hP : P ≤ 320) (hB : B ≤ 12) : ∀ (rest : List zE) (m i : Nat) (c : Int32), (pg p).2.2.2.drop i = rest → i ≤ (pg p).2.2.2.length → l_X6_copies (m + rest.length + 1) 1 c (nI p) (nI (p * B + (pg p).2.2.2.length)) (nI (p * B + i)) w = l_X6_copies m 0 (c + zLs (zcq (pg p).2.1) rest) (nI (p + 1)) 0 0 w := by
  obtain ⟨q1, q2, q3, q4, q5, q6, q7⟩ := h.2.2.2.2.2.2.2.2.2 p hp
  have pB : p * B ≤ 320 * 12 := Nat.mul_le_mul (by omega) hB
  intro rest
  induction rest with
  | nil =>
    intro m i c h1 h2
    have hii : (pg p).2.2.2.length ≤ i := by simpa using h1
    show l_X6_copies (m + 1) 1 c _ _ _ w = l_X6_copies m 0 (c + 0) _ 0 0 w
    rw [Int32.add_zero, ← nI_1]
    conv => lhs; unfold l_X6_copies
    rw [if_neg (show ¬ (1 : Nat) = 0 by decide), if_pos (nI_le (by omega) (by omega)), z_jl]
  | cons e rest ih =>
    intro m i c h1 h2
    obtain ⟨g1, g2, g3⟩ := zvdrop h1
    have IH := fun c => ih m (i + 1) c g2 (by omega)
    rw [show m + (e :: rest).length + 1 = (m + rest.length + 1) + 1 by simp only [List.length_cons]; omega]
    conv => lhs; unfold l_X6_copies
    rw [if_neg (show ¬ (1 : Nat) = 0 by decide), if_neg (nI_ge (by omega) (by omega)), z_rat (by omega), z_rat (by omega), q3, (q6 i e g1).2.2.1]
    simp only [z_jl]
    rw [show nI (p * B + i) + 1 = nI (p * B + (i + 1)) from nI_1 _]
    show _ = l_X6_copies m 0 (c + (zcq (pg p).2.1 e + zLs (zcq (pg p).2.1) rest)) _ 0 0 w
    by_cases k : (pg p).2.1 ≤ e.2.1
    · have z : zcq (pg p).2.1 e = 0 := if_pos k
      rw [if_pos k, z, IH, Int32.zero_add]
    · have z : zcq (pg p).2.1 e = 1 := if_neg k
      rw [if_neg k, z, IH, Int32.add_assoc]
theorem z_copC_l {B P : Nat} {pg : Nat → zP} {w : jw} (h : zCw B P pg w) (hP : P ≤ 320) (hB : B ≤ 12) : ∀ (d n p : Nat) (c : Int32), p + d = P → 14 * d < n → l_X6_copies n 0 c (nI p) 0 0 w = some (c + zSu (fun p => zcp1 (pg p)) d p, w) := by
  intro d
  induction d with
  | zero =>
    intro n p c h1 h2
    cases n with
    | zero => cases h2
    | succ n =>
      unfold l_X6_copies
      rw [if_pos rfl, h.2.1, if_pos (nI_le (by omega) (by omega))]
      show _ = some (c + 0, w)
      rw [Int32.add_zero]
  | succ d ih =>
    intro n p c h1 h2
    cases n with
    | zero => cases h2
    | succ n =>
      obtain ⟨q1, q2, q3, q4, q5, q6, q7⟩ := h.2.2.2.2.2.2.2.2.2 p (by omega)
      have pB : p * B ≤ 320 * 12 := Nat.mul_le_mul (by omega) hB
      conv => lhs; unfold l_X6_copies
      rw [if_pos rfl, h.2.1, if_neg (nI_ge (by omega) (by omega)), z_isLeafC w (by omega), z_jbd2, q1]
      show _ = some (c + (zcp1 (pg p) + zSu (fun p => zcp1 (pg p)) d (p + 1)), w)
      by_cases k : (pg p).1 = 1
      · have z : zcp1 (pg p) = zLs (zcq (pg p).2.1) (pg p).2.2.2 := if_pos k
        rw [decide_eq_true k, if_neg (show ¬ jb true = 0 by decide), z_ends h (by omega) (by omega), z_jbd2, z_first h, z_jbd2, z]
        have := z_copC_i h (show p < P by omega) hP hB (pg p).2.2.2 (n - (pg p).2.2.2.length - 1) 0 c rfl (by omega)
        rw [show n - (pg p).2.2.2.length - 1 + (pg p).2.2.2.length + 1 = n by omega, Nat.add_zero] at this
        rw [this, ih _ (p + 1) _ (by omega) (by omega), Int32.add_assoc]
      · have z : zcp1 (pg p) = 0 := if_neg k
        rw [decide_eq_false k, if_pos (show jb false = 0 from rfl), z_first h, z_jbd2, z]
        obtain ⟨m, hm⟩ : ∃ m, n = m + 1 := ⟨n - 1, by omega⟩
        subst hm
        conv => lhs; unfold l_X6_copies
        rw [if_neg (show ¬ (1 : Nat) = 0 by decide), if_pos (nI_pos' (by omega)), z_jl, nI_1, ih _ (p + 1) _ (by omega) (by omega), Int32.zero_add]
theorem z_copM_l {B P p : Nat} {pg : Nat → zP} {w : jw} (h : zM B P pg (w.2.1 182)) (hp : p < P) : ∀ (rest : List zE) (n i : Nat) (c : Int32), (pg p).2.2.2.drop i = rest → i ≤ (pg p).2.2.2.length → rest.length < n → l_X12_copiesIn n (nI p) c (nI i) w = some (c + zLs (zcq (pg p).2.1) rest, w) := by
  have hP := h.2.2.1
  obtain ⟨q1, q2, q3, q4, q5, q6⟩ := h.2.2.2 p hp
  intro rest
  induction rest with
  | nil =>
    intro n i c h1 h2 h3
    have hii : (pg p).2.2.2.length ≤ i := by simpa using h1
    cases n with
    | zero => cases h3
    | succ n =>
      unfold l_X12_copiesIn
      rw [z_entriesOf w (by omega), z_jbd2, q2, if_pos (nI_le (by omega) (by omega))]
      show _ = some (c + 0, w)
      rw [Int32.add_zero]
  | cons e rest ih =>
    intro n i c h1 h2 h3
    obtain ⟨g1, g2, g3⟩ := zvdrop h1
    simp only [List.length_cons] at h3
    cases n with
    | zero => cases h3
    | succ n =>
      unfold l_X12_copiesIn
      rw [z_entriesOf w (by omega), z_jbd2, q2, if_neg (nI_ge (by omega) (by omega)), z_entryAt, z_jbd2, z_pa p 1410 1410 rfl, nI_p2, show nI (2700 + 48 * p + 4 * i) + 1 = nI (2700 + 48 * p + 4 * i + 1) from nI_1 _, z_jg (z_in (by omega) (by decide)), z_jg (z_in (by omega) (by decide)), nI_clamp (by omega), nI_clamp (by omega), show 1410 + 4 * p + 2 = 1412 + 4 * p by omega, q3, (q6 i e g1).2.1]
      simp only [z_jl, nI_1]
      show _ = some (c + (zcq (pg p).2.1 e + zLs (zcq (pg p).2.1) rest), w)
      by_cases k : (pg p).2.1 ≤ e.2.1
      · have z : zcq (pg p).2.1 e = 0 := if_pos k
        rw [if_pos k, z, ih n (i + 1) c g2 (by omega) (by omega), Int32.zero_add]
      · have z : zcq (pg p).2.1 e = 1 := if_neg k
        rw [if_neg k, z, ih n (i + 1) _ g2 (by omega) (by omega), Int32.add_assoc]
theorem z_copM {B P p : Nat} {pg : Nat → zP} {w : jw} (h : zM B P pg (w.2.1 182)) (hp : p < P) : f_X12_copiesIn (nI p) w = some (zLs (zcq (pg p).2.1) (pg p).2.2.2, w) := by
  have q5 := (h.2.2.2 p hp).2.2.2.2.1
  have := z_copM_l h hp (pg p).2.2.2 jfu 0 0 rfl (by omega) (by show _ < 40000; omega)
  rw [Int32.zero_add] at this
  exact this
/-- what the reference answers at the end of its walk over the pages -/
def zrm (S : zS) (a x y z : Int32) : Int32 := if a.toInt = 0 then nI S.2.1 else if a.toInt = 1 then x else if a.toInt = 2 then y else if a.toInt = 3 then nI S.2.2.2.1.length else if a.toInt = 4 then z else if nI (S.2.2.2.2.length - 1) = 0 then 0 else (1000 * x) / nI (S.2.2.2.2.length - 1)
theorem z_roomM_l {S : zS} {w : jw} {a : Int32} (hM : zMi S (w.2.1 182)) : ∀ (d n p : Nat) (x y z : Int32), p + d = S.2.1 → d < n → l_X12_room n a x y z (nI p) w = some (zrm S a (x + zSu (fun p => zen1 (S.2.2.1 p)) d p) (y + zSu (fun p => zed1 (S.2.2.1 p)) d p) (z + zSu (fun p => zcp1 (S.2.2.1 p)) d p), w) := by
  have hP := hM.1.2.2.1
  intro d
  induction d with
  | zero =>
    intro n p x y z h1 h2
    cases n with
    | zero => cases h2
    | succ n =>
      unfold l_X12_room
      rw [z_jg z_j3, z_k3, hM.1.2.1, if_pos (nI_le (by omega) (by omega)), z_jg z_j3, z_jg j_2, k_2, hM.2.1.1, z_jg j_0, k_0, hM.2.2.2, z_jg j_0]
      show _ = some (zrm S a (x + 0) (y + 0) (z + 0), w)
      rw [Int32.add_zero, Int32.add_zero, Int32.add_zero]
      unfold zrm
      by_cases c0 : a.toInt = 0
      · rw [if_pos c0, if_pos c0]
      rw [if_neg c0, if_neg c0]
      by_cases c1 : a.toInt = 1
      · rw [if_pos c1, if_pos c1]
      rw [if_neg c1, if_neg c1]
      by_cases c2 : a.toInt = 2
      · rw [if_pos c2, if_pos c2]
      rw [if_neg c2, if_neg c2]
      by_cases c3 : a.toInt = 3
      · rw [if_pos c3, if_pos c3]
      rw [if_neg c3, if_neg c3]
      by_cases c4 : a.toInt = 4
      · rw [if_pos c4, if_pos c4]
      rw [if_neg c4, if_neg c4]
      by_cases c5 : nI (S.2.2.2.2.length - 1) = 0
      · rw [if_pos c5, if_pos c5]
      rw [if_neg c5, if_neg c5, z_jg (decide_eq_true c5)]
  | succ d ih =>
    intro n p x y z h1 h2
    cases n with
    | zero => cases h2
    | succ n =>
      obtain ⟨q1, q2, q3, q4, q5, q6⟩ := hM.1.2.2.2 p (by omega)
      have IH := fun x y z => ih n (p + 1) x y z (by omega) (by omega)
      unfold l_X12_room
      rw [z_jg z_j3, z_k3, hM.1.2.1, if_neg (nI_ge (by omega) (by omega)), z_entriesOf w (by omega), z_jbd2, q2, z_jl, z_pa p 1410 1410 rfl, nI_p3, z_jg (z_in (by omega) (by decide)), nI_clamp (by omega), show 1410 + 4 * p + 3 = 1413 + 4 * p by omega, q4]
      simp only [z_jl, nI_1, z_isLeafM w (show p < 8000 by omega), z_jbd2, q1, z_copM hM.1 (show p < S.2.1 by omega)]
      show _ = some (zrm S a (x + (zen1 (S.2.2.1 p) + zSu (fun p => zen1 (S.2.2.1 p)) d (p + 1))) (y + (zed1 (S.2.2.1 p) + zSu (fun p => zed1 (S.2.2.1 p)) d (p + 1))) (z + (zcp1 (S.2.2.1 p) + zSu (fun p => zcp1 (S.2.2.1 p)) d (p + 1))), w)
      rw [← Int32.add_assoc, ← Int32.add_assoc, ← Int32.add_assoc]
      have ez : zen1 (S.2.2.1 p) = nI (S.2.2.1 p).2.2.2.length := rfl
      rw [ez]
      by_cases k : (S.2.2.1 p).2.2.1 = -2
      · have e1 : zed1 (S.2.2.1 p) = 0 := if_pos k
        rw [if_pos k, e1, Int32.add_zero]
        by_cases l : (S.2.2.1 p).1 = 1
        · have e2 : zcp1 (S.2.2.1 p) = zLs (zcq (S.2.2.1 p).2.1) (S.2.2.1 p).2.2.2 := if_pos l
          rw [decide_eq_true l, if_neg (show ¬ jb true = 0 by decide), e2]
          exact IH _ _ _
        · have e2 : zcp1 (S.2.2.1 p) = 0 := if_neg l
          rw [decide_eq_false l, if_pos (show jb false = 0 from rfl), e2, Int32.add_zero]
          exact IH _ _ _
      · have e1 : zed1 (S.2.2.1 p) = 1 := if_neg k
        rw [if_neg k, e1]
        by_cases l : (S.2.2.1 p).1 = 1
        · have e2 : zcp1 (S.2.2.1 p) = zLs (zcq (S.2.2.1 p).2.1) (S.2.2.1 p).2.2.2 := if_pos l
          rw [decide_eq_true l, if_neg (show ¬ jb true = 0 by decide), e2]
          exact IH _ _ _
        · have e2 : zcp1 (S.2.2.1 p) = 0 := if_neg l
          rw [decide_eq_false l, if_pos (show jb false = 0 from rfl), e2, Int32.add_zero]
          exact IH _ _ _
theorem q_room {S : zS} (hI : zIn S) (a : Int32) : zQ S (f_X11_room a) (f_X12_room a) := by
  obtain ⟨P1, P2, B1, B2⟩ := z_P1 hI
  have l0 := zHi_len hI.2
  have lm := hI.2.2.1
  have eA : ∀ w, zCi S w → f_X6_allEntries w = some (zSu (fun p => zen1 (S.2.2.1 p)) S.2.1 0, w) := fun w hC => by
    have := z_allE_l hC.1 P2 S.2.1 jfu 0 0 (by omega) (by show _ < 40000; omega)
    rw [Int32.zero_add] at this
    exact this
  have eE : ∀ w, zCi S w → f_X6_endedPages w = some (zSu (fun p => zed1 (S.2.2.1 p)) S.2.1 0, w) := fun w hC => by
    have := z_endedP_l hC.1 P2 S.2.1 jfu 0 0 (by omega) (by show _ < 40000; omega)
    rw [Int32.zero_add] at this
    exact this
  have eK : ∀ w, zCi S w → f_X6_copies w = some (zSu (fun p => zcp1 (S.2.2.1 p)) S.2.1 0, w) := fun w hC => by
    have := z_copC_l hC.1 P2 B2 S.2.1 jfu 0 0 (by omega) (by show _ < 40000; omega)
    rw [Int32.zero_add] at this
    exact this
  have eR : ∀ w : jw, zMi S (w.2.1 182) → l_X12_room jfu a 0 0 0 0 w = some (zrm S a (zSu (fun p => zen1 (S.2.2.1 p)) S.2.1 0) (zSu (fun p => zed1 (S.2.2.1 p)) S.2.1 0) (zSu (fun p => zcp1 (S.2.2.1 p)) S.2.1 0), w) := fun w hM => by
    have := z_roomM_l (a := a) hM S.2.1 jfu 0 0 0 0 (by omega) (by show _ < 40000; omega)
    rw [Int32.zero_add, Int32.zero_add, Int32.zero_add] at this
    exact this
  generalize zSu (fun p => zen1 (S.2.2.1 p)) S.2.1 0 = A at eA eR
  generalize zSu (fun p => zed1 (S.2.2.1 p)) S.2.1 0 = E at eE eR
  generalize zSu (fun p => zcp1 (S.2.2.1 p)) S.2.1 0 = K at eK eR
  have eC : ∀ w, zCi S w → f_X11_room a w = some (if a.toInt = 0 then nI S.2.1 else if a.toInt = 1 then A else if a.toInt = 2 then E else if a.toInt = 3 then nI S.2.2.2.1.length else if a.toInt = 4 then K else if a.toInt = 5 then (if nI (S.2.2.2.2.length - 1) = 0 then 0 else (1000 * A) / nI (S.2.2.2.2.length - 1)) else -1, w) := fun w hC => by
    unfold f_X11_room f_X11_entriesByTime
    rw [hC.1.2.1, hC.2.1.2, List.length_map, eA w hC, z_jbd2, eE w hC, z_jbd2, eK w hC, z_jbd2, z_now' hC.2.2 l0, z_jbd2, eA w hC, z_jbd2]
    by_cases c0 : a.toInt = 0
    · rw [if_pos c0, if_pos c0]
    rw [if_neg c0, if_neg c0]
    by_cases c1 : a.toInt = 1
    · rw [if_pos c1, if_pos c1]
    rw [if_neg c1, if_neg c1]
    by_cases c2 : a.toInt = 2
    · rw [if_pos c2, if_pos c2]
    rw [if_neg c2, if_neg c2]
    by_cases c3 : a.toInt = 3
    · rw [if_pos c3, if_pos c3]
    rw [if_neg c3, if_neg c3]
    by_cases c4 : a.toInt = 4
    · rw [if_pos c4, if_pos c4]
    rw [if_neg c4, if_neg c4]
    by_cases c5 : a.toInt = 5
    · rw [if_pos c5, if_pos c5]
      by_cases c6 : S.2.2.2.2.length - 1 = 0
      · rw [c6, if_pos (show nI 0 ≤ 0 by decide), if_pos (show nI 0 = 0 by decide), z_jbd2]
      · rw [if_neg (nI_nle (by omega) (by omega)), if_neg (nI_ne0 (by omega) (by omega)), z_jg (decide_eq_true (nI_ne0 (by omega) (by omega))), z_jbd2, Int32.mul_comm]
    · rw [if_neg c5, if_neg c5]
  have eM : ∀ w : jw, zMi S (w.2.1 182) → f_X12_room a w = if jb (if a < 0 then false else if 5 < a then false else true) = 0 then some (-1, w) else some (zrm S a A E K, w) := fun w hM => by
    unfold f_X12_room
    rw [z_inM, z_jbd2, eR w hM]
  refine zQ_c _ eC (fun w hM => ?_)
  rw [eM w hM]
  by_cases c : a < 0
  · have bi := Int32.lt_iff_toInt_lt.mp c
    rw [show (0 : Int32).toInt = 0 by decide] at bi
    rw [if_pos c, if_pos (show jb false = 0 from rfl), if_neg (by omega), if_neg (by omega), if_neg (by omega), if_neg (by omega), if_neg (by omega), if_neg (by omega)]
  · rw [if_neg c]
    obtain ⟨j, j1, j2⟩ := nI_of c
    subst j2
    have bi := nI_toInt j1
    by_cases d : 5 < j
    · rw [if_pos (show (5 : Int32) < nI j from nI_lt (a := 5) d j1), if_pos (show jb false = 0 from rfl), if_neg (by omega), if_neg (by omega), if_neg (by omega), if_neg (by omega), if_neg (by omega), if_neg (by omega)]
    · rw [if_neg (show ¬ (5 : Int32) < nI j from nI_nlt (b := j) (a := 5) (by omega) (by omega)), if_neg (show ¬ jb true = 0 by decide)]
      unfold zrm
      by_cases c5 : (nI j).toInt = 5
      · rw [if_pos c5]
      · have hj : j = 0 ∨ j = 1 ∨ j = 2 ∨ j = 3 ∨ j = 4 := by omega
        rcases hj with e | e | e | e | e <;> subst e <;> rfl
end
