section
/-! what happened at each time: (put, key, value, to); the versions of it -/
abbrev zH : Type := Int32 × Int32 × Int32 × Int32
def zpt (h : zH) : Bool := decide (h.1 = 1)
def zver (t : Nat) (h : zH) : zE := (h.2.1, nI t, h.2.2.2, h.2.2.1)
def zvr : List zH → Nat → List zE
  | [], _ => []
  | h :: hs, t => if zpt h = true then zver t h :: zvr hs (t + 1) else zvr hs (t + 1)
theorem zvr_len : ∀ (hs : List zH) (t : Nat), (zvr hs t).length = hs.countP zpt := by
  intro hs
  induction hs with
  | nil => intro t; rfl
  | cons h hs ih =>
    intro t
    unfold zvr
    by_cases c : zpt h = true
    · rw [if_pos c, List.length_cons, ih, List.countP_cons_of_pos c]
    · rw [if_neg c, ih, List.countP_cons_of_neg c]
theorem zvr_app : ∀ (a b : List zH) (t : Nat), zvr (a ++ b) t = zvr a t ++ zvr b (t + a.length) := by
  intro a
  induction a with
  | nil => intro b t; rfl
  | cons h a ih =>
    intro b t
    rw [List.cons_append]
    show (if zpt h = true then zver t h :: zvr (a ++ b) (t + 1) else zvr (a ++ b) (t + 1)) = (if zpt h = true then zver t h :: zvr a (t + 1) else zvr a (t + 1)) ++ _
    rw [ih, List.length_cons, show t + 1 + a.length = t + (a.length + 1) by omega]
    split <;> rfl
def zix (hs : List zH) (f : Nat) : Nat := (hs.take f).countP zpt
theorem zsplit {hs : List zH} {f : Nat} {h : zH} (hf : hs[f]? = some h) : hs = hs.take f ++ h :: hs.drop (f + 1) ∧ (hs.take f).length = f := by
  obtain ⟨l, e⟩ := List.getElem?_eq_some_iff.mp hf
  refine ⟨?_, by rw [List.length_take]; omega⟩
  rw [← e, ← List.drop_eq_getElem_cons l, List.take_append_drop]
theorem zvr_at {hs : List zH} {f : Nat} {h : zH} (hf : hs[f]? = some h) (hp : zpt h = true) : (zvr hs 0)[zix hs f]? = some (zver f h) := by
  obtain ⟨e, l⟩ := zsplit hf
  have : zvr hs 0 = zvr (hs.take f) 0 ++ (zver f h :: zvr (hs.drop (f + 1)) (f + 1)) := by
    conv => lhs; rw [e]
    rw [zvr_app, l, Nat.zero_add]
    show _ ++ (if zpt h = true then _ else _) = _
    rw [if_pos hp]
  rw [this]
  unfold zix
  rw [← zvr_len (hs.take f) 0, List.getElem?_append_right (Nat.le_refl _), Nat.sub_self]
  rfl
theorem zvr_inv : ∀ (hs : List zH) (t i : Nat) (v : zE), (zvr hs t)[i]? = some v → ∃ f h, hs[f]? = some h ∧ zpt h = true ∧ v = zver (t + f) h ∧ i = (hs.take f).countP zpt := by
  intro hs
  induction hs with
  | nil => intro t i v h; simp [zvr] at h
  | cons h hs ih =>
    intro t i v hv
    unfold zvr at hv
    by_cases c : zpt h = true
    · rw [if_pos c] at hv
      cases i with
      | zero =>
        rw [List.getElem?_cons_zero] at hv
        cases hv
        exact ⟨0, h, rfl, c, rfl, rfl⟩
      | succ i =>
        rw [List.getElem?_cons_succ] at hv
        obtain ⟨f, g, g1, g2, g3, g4⟩ := ih _ _ _ hv
        exact ⟨f + 1, g, by simpa using g1, g2, by rw [g3]; congr 1; omega, by rw [List.take_succ_cons, List.countP_cons_of_pos c, g4]⟩
    · rw [if_neg c] at hv
      obtain ⟨f, g, g1, g2, g3, g4⟩ := ih _ _ _ hv
      exact ⟨f + 1, g, by simpa using g1, g2, by rw [g3]; congr 1; omega, by rw [List.take_succ_cons, List.countP_cons_of_neg c, g4]⟩
theorem zvr_set {hs : List zH} {f : Nat} {h : zH} {t : Int32} (hf : hs[f]? = some h) (hp : zpt h = true) : zvr (hs.set f (h.1, h.2.1, h.2.2.1, t)) 0 = (zvr hs 0).set (zix hs f) (h.2.1, nI f, t, h.2.2.1) := by
  obtain ⟨e, l⟩ := zsplit hf
  have e1 : hs.set f (h.1, h.2.1, h.2.2.1, t) = hs.take f ++ (h.1, h.2.1, h.2.2.1, t) :: hs.drop (f + 1) := by
    conv => lhs; rw [e]
    rw [List.set_append_right _ _ (by omega), l, Nat.sub_self]
    rfl
  have e2 : zvr hs 0 = zvr (hs.take f) 0 ++ (zver f h :: zvr (hs.drop (f + 1)) (f + 1)) := by
    conv => lhs; rw [e]
    rw [zvr_app, l, Nat.zero_add]
    show _ ++ (if zpt h = true then _ else _) = _
    rw [if_pos hp]
  rw [e1, zvr_app, l, Nat.zero_add, e2]
  unfold zix
  rw [← zvr_len (hs.take f) 0, List.set_append_right _ _ (Nat.le_refl _), Nat.sub_self]
  show _ ++ (if zpt (h.1, h.2.1, h.2.2.1, t) = true then _ else _) = _
  rw [if_pos (show zpt (h.1, h.2.1, h.2.2.1, t) = true from hp)]
  rfl
/-- FROM of the version of a key that lives at a time -/
def zlf (hs : List zH) (k : Int32) : Nat → Option Nat
  | 0 => none
  | n + 1 => match hs[n + 1]? with
    | some h => if h.2.1 = k then (if h.1 = 1 then some (n + 1) else none) else zlf hs k n
    | none => zlf hs k n
theorem zlf_some {hs : List zH} {k : Int32} : ∀ (n f : Nat), zlf hs k n = some f → 1 ≤ f ∧ f ≤ n ∧ (∃ h, hs[f]? = some h ∧ zpt h = true ∧ h.2.1 = k) ∧ ∀ m h, f < m → m ≤ n → hs[m]? = some h → h.2.1 ≠ k := by
  intro n
  induction n with
  | zero => intro f h; cases h
  | succ n ih =>
    intro f h
    unfold zlf at h
    cases hz : hs[n + 1]? with
    | none =>
      rw [hz] at h
      obtain ⟨a1, a2, a3, a4⟩ := ih f h
      refine ⟨a1, by omega, a3, fun m x m1 m2 m3 => ?_⟩
      by_cases c : m = n + 1
      · rw [c, hz] at m3; cases m3
      · exact a4 m x m1 (by omega) m3
    | some x =>
      rw [hz] at h
      simp only [] at h
      by_cases c : x.2.1 = k
      · rw [if_pos c] at h
        by_cases d : x.1 = 1
        · rw [if_pos d] at h
          cases h
          exact ⟨by omega, Nat.le_refl _, ⟨x, hz, decide_eq_true d, c⟩, fun m y m1 m2 => by omega⟩
        · rw [if_neg d] at h; cases h
      · rw [if_neg c] at h
        obtain ⟨a1, a2, a3, a4⟩ := ih f h
        refine ⟨a1, by omega, a3, fun m y m1 m2 m3 => ?_⟩
        by_cases e : m = n + 1
        · rw [e, hz] at m3; cases m3; exact c
        · exact a4 m y m1 (by omega) m3
theorem zlf_of {hs : List zH} {k : Int32} : ∀ (n f : Nat) (h : zH), 1 ≤ f → f ≤ n → hs[f]? = some h → zpt h = true → h.2.1 = k → (∀ m y, f < m → m ≤ n → hs[m]? = some y → y.2.1 ≠ k) → zlf hs k n = some f := by
  intro n
  induction n with
  | zero => intro f h f1 f2; omega
  | succ n ih =>
    intro f h f1 f2 hf hp hk ho
    unfold zlf
    by_cases c : f = n + 1
    · rw [← c, hf]
      simp only [if_pos hk, if_pos (of_decide_eq_true hp)]
    · have := ih f h f1 (by omega) hf hp hk (fun m y m1 m2 m3 => ho m y m1 (by omega) m3)
      cases hz : hs[n + 1]? with
      | none => exact this
      | some x =>
        simp only []
        rw [if_neg (ho (n + 1) x (by omega) (Nat.le_refl _) hz)]
        exact this
theorem zlf_congr {hs hs' : List zH} {k : Int32} : ∀ (n : Nat), (∀ i, i ≤ n → (hs'[i]?).map (fun h => (h.1, h.2.1)) = (hs[i]?).map (fun h => (h.1, h.2.1))) → zlf hs' k n = zlf hs k n := by
  intro n
  induction n with
  | zero => intro _; rfl
  | succ n ih =>
    intro h
    unfold zlf
    rw [ih (fun i hi => h i (by omega))]
    have e := h (n + 1) (Nat.le_refl _)
    cases h1 : hs[n + 1]? with
    | none =>
      rw [h1] at e
      cases h2 : hs'[n + 1]? with
      | none => rfl
      | some y => rw [h2] at e; cases e
    | some x =>
      rw [h1] at e
      cases h2 : hs'[n + 1]? with
      | none => rw [h2] at e; cases e
      | some y =>
        rw [h2] at e
        simp only [Option.map_some, Option.some.injEq, Prod.mk.injEq] at e
        simp only [e.1, e.2]
def zHi (hs : List zH) : Prop := hs[0]? = some ((0, -1, 0, 0) : zH) ∧ hs.length < 100000 ∧ (∀ (i : Nat) (h : zH), 1 ≤ i → hs[i]? = some h → (h.1 = 0 ∨ h.1 = 1) ∧ ¬ h.2.1 < 0 ∧ h.2.1 < 1000) ∧
  ∀ (i : Nat) (h : zH), hs[i]? = some h → zpt h = true → (h.2.2.2 = -2 ∧ ∀ (j : Nat) (h' : zH), i < j → hs[j]? = some h' → h'.2.1 ≠ h.2.1) ∨ (∃ (j : Nat) (h' : zH), i < j ∧ hs[j]? = some h' ∧ h.2.2.2 = nI j ∧ h'.2.1 = h.2.1 ∧ ∀ (m : Nat) (h'' : zH), i < m → m < j → hs[m]? = some h'' → h''.2.1 ≠ h.2.1)
def zhap (hs : List zH) (put key value : Int32) : List zH := (match zlf hs key (hs.length - 1) with
  | some f => hs.set f ((hs.getD f (0, 0, 0, 0)).1, (hs.getD f (0, 0, 0, 0)).2.1, (hs.getD f (0, 0, 0, 0)).2.2.1, nI hs.length)
  | none => hs) ++ [(put, key, value, -2)]
def zliv (hs : List zH) : Nat := (zvr hs 0).countP znw
theorem zHi_len {hs : List zH} (h : zHi hs) : 0 < hs.length := (List.getElem?_eq_some_iff.mp h.1).1
theorem zHi_pos {hs : List zH} (h : zHi hs) {f : Nat} {x : zH} (hf : hs[f]? = some x) (hp : zpt x = true) : 1 ≤ f := by
  rcases Nat.eq_zero_or_pos f with z | z
  · subst z
    rw [h.1] at hf
    cases hf
    exact absurd hp (by decide)
  · exact z
/-- a version lives at a time just when nothing happened to its key since -/
theorem zlv_ver {hs : List zH} (h : zHi hs) {f τ : Nat} {x : zH} (hf : hs[f]? = some x) (hp : zpt x = true) (hτ : τ < 100000) : zlv (nI τ) (zver f x) = true ↔ f ≤ τ ∧ ∀ m y, f < m → m ≤ τ → hs[m]? = some y → y.2.1 ≠ x.2.1 := by
  have fl := (List.getElem?_eq_some_iff.mp hf).1
  have hl := h.2.1
  unfold zlv zver
  simp only []
  by_cases c : f ≤ τ
  · rw [if_neg (nI_nlt c (by omega))]
    rcases h.2.2.2 f x hf hp with ⟨z1, z2⟩ | ⟨j, y, j1, j2, j3, j4, j5⟩
    · rw [if_pos z1]
      exact ⟨fun _ => ⟨c, fun m y m1 m2 m3 => z2 m y m1 m3⟩, fun _ => rfl⟩
    · have jl := (List.getElem?_eq_some_iff.mp j2).1
      rw [j3, if_neg (show ¬ nI j = -2 from fun e => nI_pos (show j < 2 ^ 31 by omega) (by rw [e]; decide))]
      by_cases d : j ≤ τ
      · rw [if_pos (nI_le d (by omega))]
        exact ⟨fun z => (by cases z), fun z => absurd j4 (z.2 j y j1 d j2)⟩
      · rw [if_neg (nI_ge (by omega) (by omega))]
        exact ⟨fun _ => ⟨c, fun m y m1 m2 m3 => j5 m y m1 (by omega) m3⟩, fun _ => rfl⟩
  · rw [if_pos (nI_lt (by omega) (by omega))]
    exact ⟨fun z => (by cases z), fun z => absurd z.1 c⟩
theorem zlv_lf {hs : List zH} (h : zHi hs) {f τ : Nat} {x : zH} (hf : hs[f]? = some x) (hp : zpt x = true) (hτ : τ < 100000) : zlv (nI τ) (zver f x) = true ↔ zlf hs x.2.1 τ = some f := by
  rw [zlv_ver h hf hp hτ]
  constructor
  · rintro ⟨a, b⟩
    exact zlf_of τ f x (zHi_pos h hf hp) a hf hp rfl b
  · intro z
    obtain ⟨a1, a2, a3, a4⟩ := zlf_some τ f z
    exact ⟨a2, a4⟩
theorem znw_lf {hs : List zH} (h : zHi hs) {f : Nat} {x : zH} (hf : hs[f]? = some x) (hp : zpt x = true) : znw (zver f x) = true ↔ zlf hs x.2.1 (hs.length - 1) = some f := by
  have fl := (List.getElem?_eq_some_iff.mp hf).1
  have hl := h.2.1
  rw [← zlv_lf h hf hp (by omega), zlv_ver h hf hp (by omega)]
  constructor
  · intro z
    refine ⟨by omega, fun m y m1 m2 m3 => ?_⟩
    rcases h.2.2.2 f x hf hp with ⟨z1, z2⟩ | ⟨j, y', j1, j2, j3, j4, j5⟩
    · exact z2 m y m1 m3
    · have jl := (List.getElem?_eq_some_iff.mp j2).1
      have := znw_to z
      have e : x.2.2.2 = -2 := this
      rw [j3] at e
      exact absurd (show nI j < 0 by rw [e]; decide) (nI_pos (by omega))
  · rintro ⟨_, b⟩
    refine znw_of ?_
    rcases h.2.2.2 f x hf hp with ⟨z1, z2⟩ | ⟨j, y', j1, j2, j3, j4, j5⟩
    · exact z1
    · have jl := (List.getElem?_eq_some_iff.mp j2).1
      exact absurd j4 (b j y' j1 (by omega) j2)
theorem zhap_len (hs : List zH) (put key value : Int32) : (zhap hs put key value).length = hs.length + 1 := by
  unfold zhap
  split <;> simp
theorem zhap_at {hs : List zH} {put key value : Int32} {i : Nat} {x : zH} (hx : hs[i]? = some x) : (zhap hs put key value)[i]? = some (if zlf hs key (hs.length - 1) = some i then (x.1, x.2.1, x.2.2.1, nI hs.length) else x) := by
  have il := (List.getElem?_eq_some_iff.mp hx).1
  unfold zhap
  cases hz : zlf hs key (hs.length - 1) with
  | none =>
    simp only []
    rw [List.getElem?_append_left il, hx, if_neg (by simp)]
  | some f =>
    simp only []
    rw [List.getElem?_append_left (by simpa using il), List.getElem?_set]
    by_cases c : f = i
    · subst c
      rw [if_pos rfl, if_pos il, if_pos rfl]
      simp [List.getD_eq_getElem?_getD, hx]
    · rw [if_neg c, hx, if_neg (fun z => c (by cases z; rfl))]
theorem zhap_new (hs : List zH) (put key value : Int32) : (zhap hs put key value)[hs.length]? = some (put, key, value, -2) := by
  unfold zhap
  split <;> simp
theorem zhap_old {hs : List zH} {put key value : Int32} {i : Nat} {y : zH} (h : (zhap hs put key value)[i]? = some y) (hi : i < hs.length) : ∃ x, hs[i]? = some x ∧ y.1 = x.1 ∧ y.2.1 = x.2.1 ∧ y.2.2.1 = x.2.2.1 ∧ y.2.2.2 = (if zlf hs key (hs.length - 1) = some i then nI hs.length else x.2.2.2) := by
  have hx := List.getElem?_eq_getElem hi
  rw [zhap_at hx] at h
  refine ⟨_, hx, ?_⟩
  by_cases c : zlf hs key (hs.length - 1) = some i
  · rw [if_pos c] at h ⊢
    cases h
    exact ⟨rfl, rfl, rfl, rfl⟩
  · rw [if_neg c] at h ⊢
    cases h
    exact ⟨rfl, rfl, rfl, rfl⟩
theorem zHi_hap {hs : List zH} {put key value : Int32} (h : zHi hs) (hp : put = 0 ∨ put = 1) (k1 : ¬ key < 0) (k2 : key < 1000) (hl : hs.length + 1 < 100000) : zHi (zhap hs put key value) := by
  have l0 := zHi_len h
  have last : ∀ i y, (zhap hs put key value)[i]? = some y → i < hs.length ∨ (i = hs.length ∧ y = (put, key, value, -2)) := fun i y hy => by
    have := (List.getElem?_eq_some_iff.mp hy).1
    rw [zhap_len] at this
    by_cases c : i < hs.length
    · exact Or.inl c
    · have : i = hs.length := by omega
      subst this
      rw [zhap_new] at hy
      cases hy
      exact Or.inr ⟨rfl, rfl⟩
  refine ⟨?_, by rw [zhap_len]; exact hl, fun i y i1 hy => ?_, fun i y hy py => ?_⟩
  · rw [zhap_at h.1, if_neg (fun z => by have := (zlf_some _ _ z).1; omega)]
  · rcases last i y hy with c | ⟨c1, c2⟩
    · obtain ⟨x, x1, x2, x3, x4, x5⟩ := zhap_old hy c
      rw [x2, x3]
      exact h.2.2.1 i x i1 x1
    · rw [c2]; exact ⟨hp, k1, k2⟩
  · rcases last i y hy with c | ⟨c1, c2⟩
    · obtain ⟨x, x1, x2, x3, x4, x5⟩ := zhap_old hy c
      have px : zpt x = true := by unfold zpt at *; rw [← x2]; exact py
      have oldk : ∀ m z, i < m → m < hs.length → (zhap hs put key value)[m]? = some z → ∃ z', hs[m]? = some z' ∧ z'.2.1 = z.2.1 := fun m z m1 m2 m3 => by
        obtain ⟨z', b1, b2, b3, _⟩ := zhap_old m3 m2
        exact ⟨z', b1, b3.symm⟩
      by_cases d : zlf hs key (hs.length - 1) = some i
      · rw [if_pos d] at x5
        obtain ⟨_, _, ⟨x', q1, q2, q3⟩, q4⟩ := zlf_some _ _ d
        rw [x1] at q1
        cases q1
        refine Or.inr ⟨hs.length, _, c, zhap_new hs put key value, x5, by rw [x3, q3], fun m z m1 m2 m3 => ?_⟩
        obtain ⟨z', b1, b2⟩ := oldk m z m1 m2 m3
        rw [← b2, x3, q3]
        exact q4 m z' m1 (by omega) b1
      · rw [if_neg d] at x5
        rw [x3, x5]
        rcases h.2.2.2 i x x1 px with ⟨z1, z2⟩ | ⟨j, y', j1, j2, j3, j4, j5⟩
        · refine Or.inl ⟨z1, fun j z j1 j2 => ?_⟩
          rcases last j z j2 with e | ⟨e1, e2⟩
          · obtain ⟨z', b1, b2⟩ := oldk j z j1 e j2
            rw [← b2]; exact z2 j z' j1 b1
          · rw [e2]
            intro ek
            have ek' : key = x.2.1 := ek
            exact d (by rw [ek']; exact zlf_of _ i x (zHi_pos h x1 px) (by omega) x1 px rfl (fun m z m1 m2 m3 => z2 m z m1 m3))
        · have jl := (List.getElem?_eq_some_iff.mp j2).1
          refine Or.inr ⟨j, _, j1, zhap_at j2, j3, ?_, fun m z m1 m2 m3 => ?_⟩
          · split <;> exact j4
          · obtain ⟨z', b1, b2⟩ := oldk m z m1 (by omega) m3
            rw [← b2]; exact j5 m z' m1 m2 b1
    · refine Or.inl ⟨by rw [c2], fun j z j1 j2 => ?_⟩
      have := (List.getElem?_eq_some_iff.mp j2).1
      rw [zhap_len] at this
      omega
theorem zlf_hap {hs : List zH} {put key value k : Int32} : ∀ n, n < hs.length → zlf (zhap hs put key value) k n = zlf hs k n := fun n hn => zlf_congr n (fun i hi => by
  have hx := List.getElem?_eq_getElem (show i < hs.length by omega)
  rw [zhap_at hx, hx]
  split <;> rfl)
theorem zlf_hap2 {hs : List zH} {put key value k : Int32} (l0 : 0 < hs.length) : zlf (zhap hs put key value) k hs.length = if key = k then (if put = 1 then some hs.length else none) else zlf hs k (hs.length - 1) := by
  obtain ⟨n, hn⟩ : ∃ n, hs.length = n + 1 := ⟨hs.length - 1, by omega⟩
  have e1 := zhap_new hs put key value
  rw [hn] at e1 ⊢
  show (match (zhap hs put key value)[n + 1]? with
    | some h => if h.2.1 = k then (if h.1 = 1 then some (n + 1) else none) else zlf (zhap hs put key value) k n
    | none => zlf (zhap hs put key value) k n) = _
  rw [e1]
  simp only [Nat.add_sub_cancel]
  rw [zlf_hap n (by omega)]
theorem zix_hap {hs : List zH} {put key value : Int32} {f : Nat} (hf : f ≤ hs.length) : zix (zhap hs put key value) f = zix hs f := by
  unfold zix zhap
  cases hz : zlf hs key (hs.length - 1) with
  | none => simp only []; rw [List.take_append_of_le_length hf]
  | some g =>
    simp only []
    rw [List.take_append_of_le_length (by rw [List.length_set]; exact hf), List.take_set]
    obtain ⟨_, _, ⟨x, q1, q2, q3⟩, _⟩ := zlf_some _ _ hz
    have gd : hs.getD g (0, 0, 0, 0) = x := by simp [List.getD_eq_getElem?_getD, q1]
    rw [gd]
    by_cases c : g < f
    · have q1' : (hs.take f)[g]? = some x := by rw [List.getElem?_take_of_lt c]; exact q1
      obtain ⟨e, l⟩ := zsplit q1'
      conv => lhs; rw [e]
      conv => rhs; rw [e]
      rw [List.set_append_right _ _ (by omega), l, Nat.sub_self]
      show List.countP zpt (_ ++ (x.1, x.2.1, x.2.2.1, nI hs.length) :: _) = _
      rw [List.countP_append, List.countP_append, List.countP_cons_of_pos q2, List.countP_cons_of_pos (show zpt (x.1, x.2.1, x.2.2.1, nI hs.length) = true from q2)]
    · rw [List.set_eq_of_length_le (by rw [List.length_take]; omega)]
end
