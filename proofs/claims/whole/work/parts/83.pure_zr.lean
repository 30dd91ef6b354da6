section
/-! page, entry -/
theorem z_openIn_l {B P p : Nat} {pg : Nat → zP} {w : jw} (h : zCw B P pg w) (hp : p < P) (hP : P ≤ 4000) (hB : B ≤ 12) : ∀ (rest : List zE) (n i c : Nat), (pg p).2.2.2.drop i = rest → i ≤ (pg p).2.2.2.length → rest.length < n → l_X6_openIn n (nI p) (nI c) (nI (p * B + (pg p).2.2.2.length)) (nI (p * B + i)) w = some (nI (c + rest.countP znw), w) := by
  obtain ⟨q1, q2, q3, q4, q5, q6, q7⟩ := h.2.2.2.2.2.2.2.2.2 p hp
  have pB : p * B ≤ 4000 * 12 := Nat.mul_le_mul (by omega) hB
  intro rest
  induction rest with
  | nil =>
    intro n i c h1 h2 h3
    have hii : (pg p).2.2.2.length ≤ i := by simpa using h1
    cases n with
    | zero => cases h3
    | succ n =>
      unfold l_X6_openIn
      rw [if_pos (nI_le (by omega) (by omega))]
      rfl
  | cons e rest ih =>
    intro n i c h1 h2 h3
    obtain ⟨g1, g2, g3⟩ := zvdrop h1
    simp only [List.length_cons] at h3
    cases n with
    | zero => cases h3
    | succ n =>
      unfold l_X6_openIn
      rw [if_neg (nI_ge (by omega) (by omega)), z_rat (by omega), (q6 i e g1).2.2.2]
      simp only [z_jl, nI_1]
      by_cases d : e.2.2.1 = -2
      · rw [if_pos d, show p * B + i + 1 = p * B + (i + 1) by omega, ih n (i + 1) (c + 1) g2 (by omega) (by omega), List.countP_cons_of_pos (by simp [znw, d]), show c + 1 + rest.countP znw = c + (rest.countP znw + 1) by omega]
      · rw [if_neg d, show p * B + i + 1 = p * B + (i + 1) by omega, ih n (i + 1) c g2 (by omega) (by omega), List.countP_cons_of_neg (by simp [znw, d])]
theorem z_openIn {B P p : Nat} {pg : Nat → zP} {w : jw} (h : zCw B P pg w) (hp : p < P) (hP : P ≤ 4000) (hB : B ≤ 12) : f_X6_openIn (nI p) w = some (nI ((pg p).2.2.2.countP znw), w) := by
  have q5 := (h.2.2.2.2.2.2.2.2.2 p hp).2.2.2.2.1
  unfold f_X6_openIn
  rw [z_ends h hp hP, z_jbd2, z_first h, z_jbd2]
  have := z_openIn_l h hp hP hB (pg p).2.2.2 jfu 0 0 rfl (by omega) (by show _ < 40000; omega)
  rw [Nat.zero_add] at this
  exact this
def zpp (P : Nat) (a : Int32) : Bool := if a < 0 then false else if nI P ≤ a then false else true
theorem zpp_t {P : Nat} {a : Int32} (hP : P ≤ 320) (h : zpp P a = true) : ∃ p, p < P ∧ a = nI p := by
  unfold zpp at h
  by_cases c : a < 0
  · rw [if_pos c] at h; cases h
  · rw [if_neg c] at h
    obtain ⟨j, j1, j2⟩ := nI_of c
    subst j2
    by_cases d : nI P ≤ nI j
    · rw [if_pos d] at h; cases h
    · exact ⟨j, by
        rcases Nat.lt_or_ge j P with z | z
        · exact z
        · exact absurd (nI_le z j1) d, rfl⟩
theorem z_isPageC {S : zS} {w : jw} (a : Int32) (h : zCi S w) : f_X6_isPage a w = some (zpp S.2.1 a, w) := by
  unfold f_X6_isPage zpp
  rw [h.1.2.1]
  by_cases c : a < 0
  · rw [if_pos c, if_pos c]
  · rw [if_neg c, if_neg c]
    split <;> rfl
theorem z_j3 : jin 3 34700 = true := by decide
theorem z_k3 : Int32.toNatClampNeg 3 = 3 := by decide
theorem z_isPageM {P : Nat} (a : Int32) (w : jw) (P1 : 1 ≤ P) (hP : P ≤ 320) : f_X12_in a 0 (nI P - 1) w = some (zpp P a, w) := by
  rw [z_inM, show nI P - 1 = nI (P - 1) from pk_sub (b := 1) P1]
  unfold zpp
  by_cases c : a < 0
  · rw [if_pos c, if_pos c]
  · rw [if_neg c, if_neg c]
    obtain ⟨j, j1, j2⟩ := nI_of c
    subst j2
    by_cases d : P ≤ j
    · rw [if_pos (nI_le d j1), if_pos (nI_lt (by omega) j1)]
    · rw [if_neg (nI_ge (by omega) (by omega)), if_neg (nI_nlt (by omega) (by omega))]
theorem z_P1 {S : zS} (hI : zIn S) : 1 ≤ S.2.1 ∧ S.2.1 ≤ 320 ∧ 6 ≤ S.1 ∧ S.1 ≤ 12 := by
  obtain ⟨h1, h2, h3, h4, h5, ⟨q0, h6, h6'⟩, h7, h8, h9⟩ := hI.1
  have := (List.getElem?_eq_some_iff.mp h6).1
  exact ⟨by omega, h4, h1, h2⟩
theorem q_page {S : zS} (hI : zIn S) (a b : Int32) : zQ S (f_X11_page a b) (f_X12_page a b) := by
  obtain ⟨P1, P2, B1, B2⟩ := z_P1 hI
  cases h1 : zpp S.2.1 a with
  | false => exact zQ_c (-1) (fun w hC => by unfold f_X11_page; rw [z_isPageC a hC, z_jbd2, h1]; rfl) (fun w hM => by unfold f_X12_page; rw [z_jg z_j3, z_k3, hM.1.2.1, z_isPageM a w P1 P2, z_jbd2, h1]; rfl)
  | true =>
    obtain ⟨p, p1, p2⟩ := zpp_t P2 h1
    subst p2
    have eC : ∀ w, zCi S w → f_X11_page (nI p) b w = (if b.toInt = 0 then some ((S.2.2.1 p).1, w) else if b.toInt = 1 then some (nI (S.2.2.1 p).2.2.2.length, w) else if b.toInt = 2 then some (nI ((S.2.2.1 p).2.2.2.countP znw), w) else if b.toInt = 3 then some ((S.2.2.1 p).2.1, w) else if b.toInt = 4 then some ((S.2.2.1 p).2.2.1, w) else some (-1, w)) := fun w hC => by
      obtain ⟨q1, q2, q3, q4, q5, q6, q7⟩ := hC.1.2.2.2.2.2.2.2.2.2 p p1
      unfold f_X11_page
      rw [z_isPageC _ hC, z_jbd2, h1, if_neg (show ¬ jb true = 0 by decide), z_openIn hC.1 p1 (by omega) B2, z_jbd2, z_rat (by omega), z_rat (by omega), z_rat (by omega), z_rat (by omega), q1, q2, q3, q4]
    have eM : ∀ w : jw, zMi S (w.2.1 182) → f_X12_page (nI p) b w = (if jb (if b < 0 then false else if 4 < b then false else true) = 0 then some (-1, w) else if b.toInt = 0 then some ((S.2.2.1 p).1, w) else if b.toInt = 1 then some (nI (S.2.2.1 p).2.2.2.length, w) else if b.toInt = 2 then some (nI ((S.2.2.1 p).2.2.2.countP znw), w) else jg (jin (((1410 + (4 * nI p)) + b) - 1) 34700) (some (w.2.1 182 (Int32.toNatClampNeg (((1410 + (4 * nI p)) + b) - 1)), w))) := fun w hM => by
      obtain ⟨q1, q2, q3, q4, q5, q6⟩ := hM.1.2.2.2 p p1
      unfold f_X12_page
      rw [z_jg z_j3, z_k3, hM.1.2.1, z_isPageM _ w P1 P2, z_jbd2, h1, if_neg (show ¬ jb true = 0 by decide), z_inM, z_jbd2, z_entriesOf w (by omega), z_jbd2, z_livingInM hM.1 p1, z_jbd2, z_pa p 1410 1410 rfl, z_jg (z_in (by omega) (by decide)), nI_clamp (by omega), q1, q2]
    by_cases c : b < 0
    · have bi := Int32.lt_iff_toInt_lt.mp c
      rw [show (0 : Int32).toInt = 0 by decide] at bi
      exact zQ_c (-1) (fun w hC => by rw [eC w hC, if_neg (by omega), if_neg (by omega), if_neg (by omega), if_neg (by omega), if_neg (by omega)]) (fun w hM => by rw [eM w hM, if_pos c]; rfl)
    · obtain ⟨j, j1, j2⟩ := nI_of c
      subst j2
      have bi := nI_toInt j1
      by_cases d : 4 < j
      · exact zQ_c (-1) (fun w hC => by rw [eC w hC, if_neg (by omega), if_neg (by omega), if_neg (by omega), if_neg (by omega), if_neg (by omega)]) (fun w hM => by rw [eM w hM, if_neg c, if_pos (show (4 : Int32) < nI j from nI_lt (a := 4) d j1)]; rfl)
      · have c4 : ¬ (4 : Int32) < nI j := nI_nlt (b := j) (a := 4) (by omega) (by omega)
        have hj : j = 0 ∨ j = 1 ∨ j = 2 ∨ j = 3 ∨ j = 4 := by omega
        rcases hj with e | e | e | e | e
        · subst e
          exact zQ_c (S.2.2.1 p).1 (fun w hC => by rw [eC w hC, if_pos (by decide)]) (fun w hM => by rw [eM w hM, if_neg c, if_neg c4, if_neg (show ¬ jb true = 0 by decide), if_pos (by decide)])
        · subst e
          exact zQ_c (nI (S.2.2.1 p).2.2.2.length) (fun w hC => by rw [eC w hC, if_neg (by decide), if_pos (by decide)]) (fun w hM => by rw [eM w hM, if_neg c, if_neg c4, if_neg (show ¬ jb true = 0 by decide), if_neg (by decide), if_pos (by decide)])
        · subst e
          exact zQ_c (nI ((S.2.2.1 p).2.2.2.countP znw)) (fun w hC => by rw [eC w hC, if_neg (by decide), if_neg (by decide), if_pos (by decide)]) (fun w hM => by rw [eM w hM, if_neg c, if_neg c4, if_neg (show ¬ jb true = 0 by decide), if_neg (by decide), if_neg (by decide), if_pos (by decide)])
        · subst e
          exact zQ_c (S.2.2.1 p).2.1 (fun w hC => by rw [eC w hC, if_neg (by decide), if_neg (by decide), if_neg (by decide), if_pos (by decide)]) (fun w hM => by
            obtain ⟨q1, q2, q3, q4, q5, q6⟩ := hM.1.2.2.2 p p1
            rw [eM w hM, if_neg c, if_neg c4, if_neg (show ¬ jb true = 0 by decide), if_neg (by decide), if_neg (by decide), if_neg (by decide), z_pa p 1410 1410 rfl, nI_add, show nI (1410 + 4 * p + 3) - 1 = nI (1412 + 4 * p) from (pk_sub (b := 1) (by omega)).trans (by rw [show 1410 + 4 * p + 3 - 1 = 1412 + 4 * p by omega]), z_jg (z_in (by omega) (by decide)), nI_clamp (by omega), q3])
        · subst e
          exact zQ_c (S.2.2.1 p).2.2.1 (fun w hC => by rw [eC w hC, if_neg (by decide), if_neg (by decide), if_neg (by decide), if_neg (by decide), if_pos (by decide)]) (fun w hM => by
            obtain ⟨q1, q2, q3, q4, q5, q6⟩ := hM.1.2.2.2 p p1
            rw [eM w hM, if_neg c, if_neg c4, if_neg (show ¬ jb true = 0 by decide), if_neg (by decide), if_neg (by decide), if_neg (by decide), z_pa p 1410 1410 rfl, nI_add, show nI (1410 + 4 * p + 4) - 1 = nI (1413 + 4 * p) from (pk_sub (b := 1) (by omega)).trans (by rw [show 1410 + 4 * p + 4 - 1 = 1413 + 4 * p by omega]), z_jg (z_in (by omega) (by decide)), nI_clamp (by omega), q4])
theorem z_mul1 (p B : Nat) : nI p * nI B = nI (p * B) := pk_mul p B
theorem q_entry {S : zS} (hI : zIn S) (a b d : Int32) : zQ S (f_X11_entry a b d) (f_X12_entry a b d) := by
  obtain ⟨P1, P2, B1, B2⟩ := z_P1 hI
  cases h1 : zpp S.2.1 a with
  | false => exact zQ_c (-1000) (fun w hC => by unfold f_X11_entry; rw [z_isPageC a hC, z_jbd2, h1]; rfl) (fun w hM => by unfold f_X12_entry; rw [z_jg z_j3, z_k3, hM.1.2.1, z_isPageM a w P1 P2, z_jbd2, h1]; rfl)
  | true =>
    obtain ⟨p, p1, p2⟩ := zpp_t P2 h1
    subst p2
    have pB : p * S.1 ≤ 320 * 12 := Nat.mul_le_mul (by omega) B2
    generalize hes : (S.2.2.1 p).2.2.2 = es
    have eC : ∀ w, zCi S w → f_X11_entry (nI p) b d w = (if b < 0 then some (-1000, w) else if b < nI es.length then (if d.toInt = 0 then some (rat (w.2.2.2 27) (nI (p * S.1) + b), w) else if d.toInt = 1 then some (rat (w.2.2.2 31) (nI (p * S.1) + b), w) else if d.toInt = 2 then some (rat (w.2.2.2 33) (nI (p * S.1) + b), w) else if d.toInt = 3 then some (rat (w.2.2.2 29) (nI (p * S.1) + b), w) else some (-1000, w)) else some (-1000, w)) := fun w hC => by
      obtain ⟨q1, q2, q3, q4, q5, q6, q7⟩ := hC.1.2.2.2.2.2.2.2.2.2 p p1
      unfold f_X11_entry
      rw [z_isPageC _ hC, z_jbd2, h1, if_neg (show ¬ jb true = 0 by decide), z_rat (by omega), q2, z_first hC.1, z_jbd2, z_jl, hes]
    have eM : ∀ w : jw, zMi S (w.2.1 182) → f_X12_entry (nI p) b d w = (if jb (if b < 0 then false else if nI es.length - 1 < b then false else true) = 0 then some (-1000, w) else if jb (if d < 0 then false else if 3 < d then false else true) = 0 then some (-1000, w) else jg (jin ((2700 + (48 * nI p)) + (4 * b) + d) 34700) (some (w.2.1 182 (Int32.toNatClampNeg ((2700 + (48 * nI p)) + (4 * b) + d)), w))) := fun w hM => by
      obtain ⟨q1, q2, q3, q4, q5, q6⟩ := hM.1.2.2.2 p p1
      unfold f_X12_entry f_X12_entryAt
      rw [z_jg z_j3, z_k3, hM.1.2.1, z_isPageM _ w P1 P2, z_jbd2, h1, if_neg (show ¬ jb true = 0 by decide), z_entriesOf w (by omega), z_jbd2, q2, hes, z_inM, z_jbd2, z_inM, z_jbd2, z_jbd2]
    have no : ∀ v, (∀ w : jw, zCi S w → f_X11_entry (nI p) b d w = some (v, w)) → (∀ w : jw, zMi S (w.2.1 182) → f_X12_entry (nI p) b d w = some (v, w)) → zQ S (f_X11_entry (nI p) b d) (f_X12_entry (nI p) b d) := fun v => zQ_c v
    by_cases c : b < 0
    · exact no (-1000) (fun w hC => by rw [eC w hC, if_pos c]) (fun w hM => by rw [eM w hM, if_pos c]; rfl)
    · obtain ⟨i, i1, i2⟩ := nI_of c
      subst i2
      by_cases c2 : i < es.length
      · have hl : es.length ≤ 12 ∨ True := Or.inr trivial
        obtain ⟨e, he⟩ : ∃ e, es[i]? = some e := ⟨es[i], List.getElem?_eq_getElem c2⟩
        have lt : es.length < 2 ^ 31 ∨ 2 ^ 31 ≤ es.length := Nat.lt_or_ge _ _
        have key : es.length ≤ 12 → zQ S (f_X11_entry (nI p) (nI i) d) (f_X12_entry (nI p) (nI i) d) := fun el => by
          have b1 : ¬ nI es.length - 1 < nI i := by rw [show nI es.length - 1 = nI (es.length - 1) from pk_sub (b := 1) (by omega)]; exact nI_nlt (by omega) (by omega)
          have sl : nI (p * S.1) + nI i = nI (p * S.1 + i) := nI_add _ _
          have me : ∀ j, (2700 + (48 * nI p)) + (4 * nI i) + nI j = nI (2700 + 48 * p + 4 * i + j) := fun j => by rw [z_ea, nI_add]
          have fC : ∀ w, zCi S w → zF (w.2.2.2 27) (w.2.2.2 29) (w.2.2.2 31) (w.2.2.2 33) (p * S.1 + i) e := fun w hC => (hC.1.2.2.2.2.2.2.2.2.2 p p1).2.2.2.2.2.1 i e (by rw [hes]; exact he)
          have fM : ∀ w : jw, zMi S (w.2.1 182) → zG (w.2.1 182) (2700 + 48 * p + 4 * i) e := fun w hM => (hM.1.2.2.2 p p1).2.2.2.2.2 i e (by rw [hes]; exact he)
          by_cases k : d < 0
          · have bi := Int32.lt_iff_toInt_lt.mp k
            rw [show (0 : Int32).toInt = 0 by decide] at bi
            exact no (-1000) (fun w hC => by rw [eC w hC, if_neg c, if_pos (nI_lt c2 (by omega)), if_neg (by omega), if_neg (by omega), if_neg (by omega), if_neg (by omega)]) (fun w hM => by rw [eM w hM, if_neg c, if_neg b1, if_neg (show ¬ jb true = 0 by decide), if_pos k]; rfl)
          · obtain ⟨j, j1, j2⟩ := nI_of k
            subst j2
            have bi := nI_toInt j1
            by_cases k2 : 3 < j
            · exact no (-1000) (fun w hC => by rw [eC w hC, if_neg c, if_pos (nI_lt c2 (by omega)), if_neg (by omega), if_neg (by omega), if_neg (by omega), if_neg (by omega)]) (fun w hM => by rw [eM w hM, if_neg c, if_neg b1, if_neg (show ¬ jb true = 0 by decide), if_neg k, if_pos (show (3 : Int32) < nI j from nI_lt (a := 3) k2 j1)]; rfl)
            · have k3 : ¬ (3 : Int32) < nI j := nI_nlt (b := j) (a := 3) (by omega) (by omega)
              have hj : j = 0 ∨ j = 1 ∨ j = 2 ∨ j = 3 := by omega
              have M : ∀ w : jw, zMi S (w.2.1 182) → f_X12_entry (nI p) (nI i) (nI j) w = some (w.2.1 182 (2700 + 48 * p + 4 * i + j), w) := fun w hM => by
                rw [eM w hM, if_neg c, if_neg b1, if_neg (show ¬ jb true = 0 by decide), if_neg k, if_neg k3, if_neg (show ¬ jb true = 0 by decide), me j, z_jg (z_in (by omega) (by decide)), nI_clamp (by omega)]
              rcases hj with z | z | z | z
              · subst z
                exact no e.1 (fun w hC => by rw [eC w hC, if_neg c, if_pos (nI_lt c2 (by omega)), if_pos (by decide), sl, z_rat (by omega), (fC w hC).1]) (fun w hM => by rw [M w hM]; exact congrArg (fun x => some (x, w)) (fM w hM).1)
              · subst z
                exact no e.2.1 (fun w hC => by rw [eC w hC, if_neg c, if_pos (nI_lt c2 (by omega)), if_neg (by decide), if_pos (by decide), sl, z_rat (by omega), (fC w hC).2.2.1]) (fun w hM => by rw [M w hM]; exact congrArg (fun x => some (x, w)) (fM w hM).2.1)
              · subst z
                exact no e.2.2.1 (fun w hC => by rw [eC w hC, if_neg c, if_pos (nI_lt c2 (by omega)), if_neg (by decide), if_neg (by decide), if_pos (by decide), sl, z_rat (by omega), (fC w hC).2.2.2]) (fun w hM => by rw [M w hM]; exact congrArg (fun x => some (x, w)) (fM w hM).2.2.1)
              · subst z
                exact no e.2.2.2 (fun w hC => by rw [eC w hC, if_neg c, if_pos (nI_lt c2 (by omega)), if_neg (by decide), if_neg (by decide), if_neg (by decide), if_pos (by decide), sl, z_rat (by omega), (fC w hC).2.1]) (fun w hM => by rw [M w hM]; exact congrArg (fun x => some (x, w)) (fM w hM).2.2.2)
        intro w wm hC hM
        have el : es.length ≤ 12 := by
          have := (hM.1.2.2.2 p p1).2.2.2.2.1
          rw [hes] at this
          exact this
        exact key el w wm hC hM
      · intro w wm hC hM
        have el : es.length ≤ 12 := by
          have := (hM.1.2.2.2 p p1).2.2.2.2.1
          rw [hes] at this
          exact this
        refine ⟨-1000, w, wm, ?_, zfQc_rfl w, ?_, zfQm_rfl wm⟩
        · rw [eC w hC, if_neg c, if_neg (nI_nlt (by omega) (by omega))]
        · have b1 : nI es.length - 1 < nI i := by
            by_cases z : es.length = 0
            · rw [z]
              show (-1 : Int32) < nI i
              exact Int32.lt_iff_toInt_lt.mpr (by rw [nI_toInt i1]; show (-1 : Int) < _; omega)
            · rw [show nI es.length - 1 = nI (es.length - 1) from pk_sub (b := 1) (by omega)]; exact nI_lt (by omega) i1
          rw [eM wm hM, if_neg c, if_pos b1]
          rfl
end
