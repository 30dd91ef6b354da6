section
/-! terms: their code, what it comes to; the reference's pile -/
abbrev zcd1 : Type := Int32 × Int32
def zop (k a b : Int32) : Int32 := if k ≤ 4 then (if k = 2 then a + b else if k = 3 then a - b else a * b) else (if b = 0 then 0 else if k = 5 then a / b else a - a / b * b)
def zev (env : Nat → Int32) : List zcd1 → List Int32 → List Int32
  | [], st => st
  | c :: cs, st => zev env cs (if 2 ≤ c.1 then (match st with
    | b :: a :: r => zop c.1 a b :: r
    | _ => st) else if c.1 = 0 then c.2 :: st else env c.2.toNatClampNeg :: st)
theorem zev_app (env : Nat → Int32) : ∀ (a b : List zcd1) (st : List Int32), zev env (a ++ b) st = zev env b (zev env a st) := by
  intro a
  induction a with
  | nil => intro b st; rfl
  | cons c cs ih => intro b st; exact ih b _
def zvl (env : Nat → Int32) (c : List zcd1) : Int32 := (zev env c []).headD 0
def zht : List zcd1 → Nat → Option Nat
  | [], h => some h
  | c :: cs, h => if 2 ≤ c.1 then (if 2 ≤ h then zht cs (h - 1) else none) else zht cs (h + 1)
theorem zht_cons (c : zcd1) (cs : List zcd1) (h : Nat) : zht (c :: cs) h = if 2 ≤ c.1 then (if 2 ≤ h then zht cs (h - 1) else none) else zht cs (h + 1) := rfl
theorem zht_app : ∀ (a b : List zcd1) (h h' : Nat), zht a h = some h' → zht (a ++ b) h = zht b h' := by
  intro a
  induction a with
  | nil => intro b h h' e; cases e; rfl
  | cons c cs ih =>
    intro b h h' e
    rw [List.cons_append, zht_cons]
    rw [zht_cons] at e
    by_cases k : 2 ≤ c.1
    · rw [if_pos k] at e ⊢
      by_cases q : 2 ≤ h
      · rw [if_pos q] at e ⊢; exact ih b _ _ e
      · rw [if_neg q] at e; cases e
    · rw [if_neg k] at e ⊢
      exact ih b _ _ e
def zck (x : zcd1) : Prop := x.1 = 0 ∨ (x.1 = 1 ∧ ∃ n, n < 6 ∧ x.2 = nI n) ∨ ∃ k, 2 ≤ k ∧ k ≤ 6 ∧ x.1 = nI k
def zCd (c : List zcd1) : Prop := (∀ env st, zev env c st = zvl env c :: st) ∧ (∀ h, zht c h = some (h + 1)) ∧ ∀ x ∈ c, zck x
theorem zCd_int (v : Int32) : zCd [(0, v)] := ⟨fun _ _ => rfl, fun _ => rfl, fun x hx => by rw [List.mem_singleton.mp hx]; exact Or.inl rfl⟩
theorem zvl_int (env : Nat → Int32) (v : Int32) : zvl env [(0, v)] = v := rfl
theorem zCd_var {n : Nat} (h : n < 6) : zCd [(1, nI n)] := ⟨fun _ _ => rfl, fun _ => rfl, fun x hx => by rw [List.mem_singleton.mp hx]; exact Or.inr (Or.inl ⟨rfl, n, h, rfl⟩)⟩
theorem zvl_var (env : Nat → Int32) {n : Nat} (h : n < 6) : zvl env [(1, nI n)] = env n := by
  show env (Int32.toNatClampNeg (nI n)) = env n
  rw [nI_clamp (by omega)]
theorem zvl_op (env : Nat → Int32) {a b : List zcd1} (ha : zCd a) (hb : zCd b) {k : Nat} (k2 : 2 ≤ k) (k6 : k ≤ 6) (st : List Int32) : zev env (a ++ b ++ [(nI k, 0)]) st = zop (nI k) (zvl env a) (zvl env b) :: st := by
  rw [zev_app, zev_app, ha.1, hb.1]
  show (if (2 : Int32) ≤ nI k then _ else _) = _
  rw [if_pos (show (2 : Int32) ≤ nI k from nI_le (a := 2) k2 (by omega))]
theorem zCd_op {a b : List zcd1} (ha : zCd a) (hb : zCd b) {k : Nat} (k2 : 2 ≤ k) (k6 : k ≤ 6) : zCd (a ++ b ++ [(nI k, 0)]) := by
  refine ⟨fun env st => ?_, fun h => ?_, fun x hx => ?_⟩
  · rw [zvl_op env ha hb k2 k6]
    unfold zvl
    rw [zvl_op env ha hb k2 k6]
    rfl
  · rw [zht_app _ _ h (h + 2) (by rw [zht_app _ _ h (h + 1) (ha.2.1 h), hb.2.1])]
    unfold zht
    rw [if_pos (show (2 : Int32) ≤ nI k from nI_le (a := 2) k2 (by omega)), if_pos (by omega)]
    rfl
  · rcases List.mem_append.mp hx with z | z
    · rcases List.mem_append.mp z with y | y
      · exact ha.2.2 x y
      · exact hb.2.2 x y
    · rw [List.mem_singleton.mp z]
      exact Or.inr (Or.inr ⟨k, k2, k6, rfl⟩)
theorem zvl_o (env : Nat → Int32) {a b : List zcd1} (ha : zCd a) (hb : zCd b) {k : Nat} (k2 : 2 ≤ k) (k6 : k ≤ 6) : zvl env (a ++ b ++ [(nI k, 0)]) = zop (nI k) (zvl env a) (zvl env b) := by
  rw [show zvl env (a ++ b ++ [(nI k, 0)]) = (zev env (a ++ b ++ [(nI k, 0)]) []).headD 0 from rfl, zvl_op env ha hb k2 k6]
  rfl
/-- the reference's rows of code from a place on -/
def zCm (f : Nat) (c : List zcd1) (w : jw) : Prop := ∀ (i : Nat) (x : zcd1), c[i]? = some x → w.2.1 176 (f + i) = x.1 ∧ w.2.1 177 (f + i) = x.2
def zPi (st : List Int32) (w : jw) : Prop := ∀ (j : Nat) (x : Int32), st[j]? = some x → w.2.1 180 (st.length - 1 - j) = x
theorem zPi_push {st : List Int32} {w : jw} {x : Int32} (h : zPi st w) : zPi (x :: st) (jsetX w 180 st.length x) := fun j y hy => by
  rw [z_jX1, List.length_cons]
  cases j with
  | zero => cases hy; rw [show st.length + 1 - 1 - 0 = st.length by omega, zup_eq]
  | succ j =>
    have : j + 1 < st.length + 1 := (List.getElem?_eq_some_iff.mp hy).1
    rw [zup_ne (by omega), show st.length + 1 - 1 - (j + 1) = st.length - 1 - j by omega]
    exact h j y hy
theorem zPi_op {st : List Int32} {w : jw} {a b x : Int32} (h : zPi (b :: a :: st) w) : zPi (x :: st) (jsetX w 180 st.length x) := zPi_push (fun j y hy => by
  have := h (j + 2) y hy
  rw [List.length_cons, List.length_cons, show st.length + 1 + 1 - 1 - (j + 2) = st.length - 1 - j by omega] at this
  exact this)
theorem z_term_l {f tot : Nat} {c : List zcd1} (env : Nat → Int32) (ht : f + c.length = tot) (t4 : tot ≤ 420) (ck : ∀ x ∈ c, zck x) (cl : c.length ≤ 400) {b1 : Int32} : ∀ (rest : List zcd1) (n i : Nat) (st : List Int32) (w : jw), c.drop i = rest → i ≤ c.length → rest.length < n → zCm f c w → zPi st w → st.length ≤ i → (∀ j, j < 6 → w.2.1 179 j = env j) → (∃ h', zht rest st.length = some h' ∧ 1 ≤ h') → ∃ w', l_X12_termOf n b1 (nI tot) (nI st.length) (nI (f + i)) w = some ((zev env rest st).getLastD 0, w') ∧ zfA 180 w w' := by
  intro rest
  induction rest with
  | nil =>
    intro n i st w h1 h2 h3 hc hp h4 he ⟨h', h5, h6⟩
    have hi : c.length ≤ i := by simpa using h1
    cases n with
    | zero => cases h3
    | succ n =>
      unfold l_X12_termOf zev
      rw [if_pos (nI_le (by omega) (by omega)), z_jg (show jin 0 400 = true by decide)]
      refine ⟨w, ?_, zfA_rfl 180 w⟩
      have sl : 1 ≤ st.length := by unfold zht at h5; cases h5; exact h6
      have sn : st ≠ [] := fun z => by rw [z] at sl; exact absurd sl (by decide)
      have e : w.2.1 180 0 = st.getLastD 0 := by
        have := hp (st.length - 1) (st.getLast sn) (by rw [List.getElem?_eq_getElem (by omega), List.getLast_eq_getElem])
        rw [show st.length - 1 - (st.length - 1) = 0 by omega] at this
        rw [this, List.getLastD_eq_getLast?, List.getLast?_eq_some_getLast sn]
        rfl
      rw [← e]
      rfl
  | cons x rest ih =>
    intro n i st w h1 h2 h3 hc hp h4 he ⟨h', h5, h6⟩
    simp only [List.length_cons] at h3
    have ge : c[i]? = some x := by
      have : (c.drop i)[0]? = some x := by rw [h1]; rfl
      rwa [List.getElem?_drop, Nat.add_zero] at this
    have il : i < c.length := (List.getElem?_eq_some_iff.mp ge).1
    have mx := ck x (List.mem_of_getElem? ge)
    have g6 : c.drop (i + 1) = rest := by
      rw [← List.drop_drop, h1]
      rfl
    obtain ⟨k1, k2⟩ := hc i x ge
    cases n with
    | zero => cases h3
    | succ n =>
      have gi : jin (nI (f + i)) 420 = true := z_in (by omega) (by decide)
      have step : ∀ (st' : List Int32) (y : Int32) (pos : Nat), zPi st' (jsetX w 180 pos y) → st'.length ≤ i + 1 → zht rest st'.length = some h' → ∃ w', l_X12_termOf n b1 (nI tot) (nI st'.length) (nI (f + (i + 1))) (jsetX w 180 pos y) = some ((zev env rest st').getLastD 0, w') ∧ zfA 180 w w' := fun st' y pos p1 p2 p3 => by
        obtain ⟨w', r1, r2⟩ := ih n (i + 1) st' (jsetX w 180 pos y) g6 (by omega) (by omega) (fun j z hz => by rw [z_jX2 (by decide), z_jX2 (by decide)]; exact hc j z hz) p1 p2 (fun j hj => by rw [z_jX2 (by decide)]; exact he j hj) ⟨h', p3, h6⟩
        exact ⟨w', r1, zfA_trans (zfA_X w 180 _ _) r2⟩
      unfold l_X12_termOf
      rw [if_neg (nI_ge (by omega) (by omega)), z_jg gi, nI_clamp (by omega), k1, z_jl]
      unfold zev
      unfold zht at h5
      rcases mx with z | ⟨z, m, m1, m2⟩ | ⟨k, m1, m2, z⟩
      · rw [z, if_neg (by decide)] at h5
        rw [z, if_neg (by decide), if_pos rfl, z_jg gi, z_jg (z_in (show st.length < 400 by omega) (by decide)), nI_clamp (by omega), k2, z_jl, z_jl, z_jl, nI_1, nI_1, if_neg (by decide), if_pos rfl]
        have R := step (x.2 :: st) x.2 st.length (zPi_push hp) (by rw [List.length_cons]; omega) h5
        rw [List.length_cons] at R
        exact R
      · rw [z, if_neg (by decide)] at h5
        rw [z, if_neg (by decide), if_neg (by decide), z_jg gi, k2, m2, z_jg (z_in m1 (by decide)), z_jg (z_in (show st.length < 400 by omega) (by decide)), nI_clamp (by omega), nI_clamp (by omega), he m m1, z_jl, z_jl, z_jl, nI_1, nI_1, if_neg (by decide), if_neg (by decide)]
        have R := step (env m :: st) (env m) st.length (zPi_push hp) (by rw [List.length_cons]; omega) h5
        rw [List.length_cons] at R
        exact R
      · have z2 : (2 : Int32) ≤ x.1 := by rw [z]; exact nI_le (a := 2) m1 (by omega)
        rw [if_pos z2] at h5
        by_cases s2 : 2 ≤ st.length
        · rw [if_pos s2] at h5
          obtain ⟨b', a', r, rfl⟩ : ∃ b' a' r, st = b' :: a' :: r := by
            cases st with
            | nil => exact absurd s2 (by decide)
            | cons b' st =>
              cases st with
              | nil => exact absurd s2 (by show ¬ 2 ≤ 1; decide)
              | cons a' r => exact ⟨b', a', r, rfl⟩
          have e1 : w.2.1 180 (r.length + 1) = b' := by
            have := hp 0 b' rfl
            rwa [show (b' :: a' :: r).length - 1 - 0 = r.length + 1 from rfl] at this
          have e2 : w.2.1 180 r.length = a' := by
            have := hp 1 a' rfl
            rwa [show (b' :: a' :: r).length - 1 - 1 = r.length from rfl] at this
          have rl : r.length + 2 ≤ i := h4
          have s1 : nI (b' :: a' :: r).length + -1 = nI (r.length + 1) := by
            rw [show (b' :: a' :: r).length = r.length + 1 + 1 from rfl]
            exact pk_m1 _
          have s3 : nI (r.length + 1) - 1 = nI r.length := pk_sub (b := 1) (by omega)
          have gt : jin (nI r.length) 400 = true := z_in (by omega) (by decide)
          rw [if_pos z2, s1, z_jl, s3, z_jg gt, nI_clamp (by omega), e2, z_jl, z_jg (z_in (show r.length + 1 < 400 by omega) (by decide)), nI_clamp (by omega), e1, z_jl, if_pos z2]
          show ∃ w', _ = some ((zev env rest (zop x.1 a' b' :: r)).getLastD 0, w') ∧ zfA 180 w w'
          have R : ∀ y, ∃ w', l_X12_termOf n b1 (nI tot) (nI (r.length + 1)) (nI (f + (i + 1))) (jsetX w 180 r.length y) = some ((zev env rest (y :: r)).getLastD 0, w') ∧ zfA 180 w w' := fun y => step (y :: r) y r.length (zPi_op hp) (by rw [List.length_cons]; omega) h5
          unfold zop
          by_cases q4 : x.1 ≤ 4
          · rw [if_pos q4, if_pos q4]
            by_cases q2 : x.1 = 2
            · rw [if_pos q2, if_pos q2, z_jg gt, z_jl, z_jl, nI_1]; exact R _
            · rw [if_neg q2, if_neg q2]
              by_cases q3 : x.1 = 3
              · rw [if_pos q3, if_pos q3, z_jg gt, z_jl, z_jl, nI_1]; exact R _
              · rw [if_neg q3, if_neg q3, z_jg gt, z_jl, z_jl, nI_1]; exact R _
          · rw [if_neg q4, if_neg q4]
            by_cases q0 : b' = 0
            · rw [if_pos q0, if_pos q0, z_jg gt, z_jl, z_jl, nI_1]; exact R _
            · rw [if_neg q0, if_neg q0]
              by_cases q5 : x.1 = 5
              · rw [if_pos q5, if_pos q5, z_jg (decide_eq_true q0), z_jg gt, z_jl, z_jl, nI_1]; exact R _
              · rw [if_neg q5, if_neg q5, z_jg (decide_eq_true q0), z_jg gt, z_jl, z_jl, nI_1]; exact R _
        · rw [if_neg s2] at h5; cases h5
theorem z_term {f : Nat} {c : List zcd1} {env : Nat → Int32} {w : jw} (hc : zCd c) (t4 : f + c.length ≤ 420) (cl : c.length ≤ 400) (hm : zCm f c w) (he : ∀ j, j < 6 → w.2.1 179 j = env j) : ∃ w', f_X12_termOf (nI f) (nI (f + c.length)) w = some (zvl env c, w') ∧ zfA 180 w w' := by
  obtain ⟨w', r1, r2⟩ := z_term_l (b1 := nI f) env rfl t4 hc.2.2 cl c jfu 0 [] w rfl (by omega) (show _ < 40000 by omega) hm (fun j x hx => by cases hx) (by simp) he ⟨1, hc.2.1 0, by omega⟩
  refine ⟨w', ?_, r2⟩
  rw [hc.1 env []] at r1
  exact r1
end
