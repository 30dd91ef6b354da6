section
/-! pages: as they are in themselves, in the class's rows (zC), in the reference's row (zM) -/
abbrev zP : Type := Int32 × Int32 × Int32 × List zE
def zup {α : Type} (f : Nat → α) (p : Nat) (x : α) : Nat → α := fun q => if q = p then x else f q
theorem zup_eq {α : Type} (f : Nat → α) (p : Nat) (x : α) : zup f p x p = x := by unfold zup; rw [if_pos rfl]
theorem zup_ne {α : Type} {f : Nat → α} {p q : Nat} {x : α} (h : q ≠ p) : zup f p x q = f q := by unfold zup; rw [if_neg h]
def zCp (B p : Nat) (x : zP) (K S D F ks vs fs ts : List Int32) : Prop := K.getD p 0 = x.1 ∧ S.getD p 0 = nI x.2.2.2.length ∧ D.getD p 0 = x.2.1 ∧ F.getD p 0 = x.2.2.1 ∧ x.2.2.2.length ≤ B ∧ zSg ks vs fs ts (p * B) x.2.2.2 ∧ ∀ i, x.2.2.2.length ≤ i → i < B → ts.getD (p * B + i) 0 = -2
def zC (B P : Nat) (pg : Nat → zP) (K S D F ks vs fs ts : List Int32) : Prop :=
  K.length = P ∧ S.length = P ∧ D.length = P ∧ F.length = P ∧ ks.length = P * B ∧ vs.length = P * B ∧ fs.length = P * B ∧ ts.length = P * B ∧ ∀ p, p < P → zCp B p (pg p) K S D F ks vs fs ts
def zMp (p : Nat) (x : zP) (N : Nat → Int32) : Prop := N (1410 + 4 * p) = x.1 ∧ N (1411 + 4 * p) = nI x.2.2.2.length ∧ N (1412 + 4 * p) = x.2.1 ∧ N (1413 + 4 * p) = x.2.2.1 ∧ x.2.2.2.length ≤ 12 ∧ zSm N (2700 + 48 * p) x.2.2.2
def zM (B P : Nat) (pg : Nat → zP) (N : Nat → Int32) : Prop := N 1 = nI B ∧ N 3 = nI P ∧ P ≤ 320 ∧ ∀ p, p < P → zMp p (pg p) N
theorem z_pB {p q : Nat} (B : Nat) (h : p < q) : p * B + B ≤ q * B := by
  have := Nat.mul_le_mul_right B (show p + 1 ≤ q from h)
  rw [Nat.succ_mul] at this
  exact this
theorem z_ix {p q i j B : Nat} (h : p * B + i = q * B + j) (hi : i < B) (hj : j < B) : p = q := by
  rcases Nat.lt_trichotomy p q with c | c | c
  · have := z_pB B c; omega
  · exact c
  · have := z_pB B c; omega
theorem zlen_lt {es : List zE} {i : Nat} {e : zE} (h : es[i]? = some e) : i < es.length := (List.getElem?_eq_some_iff.mp h).1
theorem zC_to {B P p i : Nat} {pg : Nat → zP} {K S D F ks vs fs ts : List Int32} {e : zE} {t : Int32} (h : zC B P pg K S D F ks vs fs ts) (hp : p < P) (he : (pg p).2.2.2[i]? = some e) :
    zC B P (zup pg p ((pg p).1, (pg p).2.1, (pg p).2.2.1, (pg p).2.2.2.set i (e.1, e.2.1, t, e.2.2.2))) K S D F ks vs fs (ts.set (p * B + i) t) := by
  obtain ⟨h1, h2, h3, h4, h5, h6, h7, h8, h9⟩ := h
  have hi := zlen_lt he
  have hB := (h9 p hp).2.2.2.2.1
  have hs : p * B + i < ts.length := by rw [h8]; have := z_pB B hp; omega
  refine ⟨h1, h2, h3, h4, h5, h6, h7, by simpa using h8, fun q hq => ?_⟩
  obtain ⟨g1, g2, g3, g4, g5, g6, g7⟩ := h9 q hq
  by_cases c : q = p
  · subst c
    rw [zup_eq]
    refine ⟨g1, by simpa using g2, g3, g4, by simpa using g5, fun j e' hj => ?_, fun j j1 j2 => ?_⟩
    · by_cases d : i = j
      · subst d
        simp only [List.getElem?_set, if_pos, hi] at hj
        cases hj
        obtain ⟨f1, f2, f3, f4⟩ := g6 i e he
        refine ⟨f1, f2, f3, ?_⟩
        rw [z_gset _ _ _ hs, if_pos rfl]
      · simp only [List.getElem?_set, if_neg d] at hj
        obtain ⟨f1, f2, f3, f4⟩ := g6 j e' hj
        refine ⟨f1, f2, f3, ?_⟩
        rw [z_gset _ _ _ hs, if_neg (by omega)]
        exact f4
    · simp only [List.length_set] at j1
      rw [z_gset _ _ _ hs, if_neg (by omega)]
      exact g7 j j1 j2
  · rw [zup_ne c]
    refine ⟨g1, g2, g3, g4, g5, fun j e' hj => ?_, fun j j1 j2 => ?_⟩
    · obtain ⟨f1, f2, f3, f4⟩ := g6 j e' hj
      have := zlen_lt hj
      refine ⟨f1, f2, f3, ?_⟩
      rw [z_gset _ _ _ hs, if_neg (fun x => c (z_ix x (by omega) (by omega)))]
      exact f4
    · rw [z_gset _ _ _ hs, if_neg (fun x => c (z_ix x (by omega) (by omega)))]
      exact g7 j j1 j2
theorem zC_fin {B P p : Nat} {pg : Nat → zP} {K S D F ks vs fs ts : List Int32} {t : Int32} (h : zC B P pg K S D F ks vs fs ts) (hp : p < P) :
    zC B P (zup pg p ((pg p).1, (pg p).2.1, t, (pg p).2.2.2)) K S D (F.set p t) ks vs fs ts := by
  obtain ⟨h1, h2, h3, h4, h5, h6, h7, h8, h9⟩ := h
  refine ⟨h1, h2, h3, by simpa using h4, h5, h6, h7, h8, fun q hq => ?_⟩
  obtain ⟨g1, g2, g3, g4, g5, g6, g7⟩ := h9 q hq
  by_cases c : q = p
  · subst c
    rw [zup_eq]
    exact ⟨g1, g2, g3, by rw [z_gset _ _ _ (by omega), if_pos rfl], g5, g6, g7⟩
  · rw [zup_ne c]
    exact ⟨g1, g2, g3, by rw [z_gset _ _ _ (by omega), if_neg c]; exact g4, g5, g6, g7⟩
theorem zC_app {B P p : Nat} {pg : Nat → zP} {K S D F ks vs fs ts : List Int32} {k v f : Int32} (h : zC B P pg K S D F ks vs fs ts) (hp : p < P) (hl : (pg p).2.2.2.length < B) :
    zC B P (zup pg p ((pg p).1, (pg p).2.1, (pg p).2.2.1, (pg p).2.2.2 ++ [(k, f, -2, v)])) K (S.set p (nI (pg p).2.2.2.length + 1)) D F (ks.set (p * B + (pg p).2.2.2.length) k) (vs.set (p * B + (pg p).2.2.2.length) v) (fs.set (p * B + (pg p).2.2.2.length) f) ts := by
  obtain ⟨h1, h2, h3, h4, h5, h6, h7, h8, h9⟩ := h
  have hs : p * B + (pg p).2.2.2.length < P * B := by have := z_pB B hp; omega
  refine ⟨h1, by simpa using h2, h3, h4, by simpa using h5, by simpa using h6, by simpa using h7, h8, fun q hq => ?_⟩
  obtain ⟨g1, g2, g3, g4, g5, g6, g7⟩ := h9 q hq
  by_cases c : q = p
  · subst c
    rw [zup_eq]
    refine ⟨g1, ?_, g3, g4, by simp; omega, fun j e' hj => ?_, fun j j1 j2 => ?_⟩
    · rw [z_gset _ _ _ (by omega), if_pos rfl, nI_1]
      simp
    · by_cases d : j = (pg q).2.2.2.length
      · subst d
        simp only [List.getElem?_append, Nat.lt_irrefl, if_false, Nat.sub_self] at hj
        cases hj
        refine ⟨?_, ?_, ?_, g7 _ (Nat.le_refl _) hl⟩
        · rw [z_gset _ _ _ (by omega), if_pos rfl]
        · rw [z_gset _ _ _ (by omega), if_pos rfl]
        · rw [z_gset _ _ _ (by omega), if_pos rfl]
      · have hj2 := zlen_lt hj
        simp only [List.length_append, List.length_cons, List.length_nil] at hj2
        have hj3 : j < (pg q).2.2.2.length := by omega
        simp only [List.getElem?_append, if_pos hj3] at hj
        obtain ⟨f1, f2, f3, f4⟩ := g6 j e' hj
        refine ⟨?_, ?_, ?_, f4⟩
        · rw [z_gset _ _ _ (by omega), if_neg (by omega)]; exact f1
        · rw [z_gset _ _ _ (by omega), if_neg (by omega)]; exact f2
        · rw [z_gset _ _ _ (by omega), if_neg (by omega)]; exact f3
    · simp only [List.length_append, List.length_cons, List.length_nil] at j1
      exact g7 j (by omega) j2
  · rw [zup_ne c]
    refine ⟨g1, by rw [z_gset _ _ _ (by omega), if_neg c]; exact g2, g3, g4, g5, fun j e' hj => ?_, g7⟩
    obtain ⟨f1, f2, f3, f4⟩ := g6 j e' hj
    have := zlen_lt hj
    have ne : ¬ q * B + j = p * B + (pg p).2.2.2.length := fun x => c (z_ix x (by omega) hl)
    refine ⟨?_, ?_, ?_, f4⟩
    · rw [z_gset _ _ _ (by omega), if_neg ne]; exact f1
    · rw [z_gset _ _ _ (by omega), if_neg ne]; exact f2
    · rw [z_gset _ _ _ (by omega), if_neg ne]; exact f3
theorem z_grep {l : List Int32} {n j : Nat} {x : Int32} (h : j < l.length) : (l ++ List.replicate n x).getD j 0 = l.getD j 0 := by
  simp only [List.getD_eq_getElem?_getD, List.getElem?_append, if_pos h]
theorem z_grep2 {l : List Int32} {n j : Nat} {x : Int32} (h : l.length ≤ j) (h2 : j < l.length + n) : (l ++ List.replicate n x).getD j 0 = x := by
  simp only [List.getD_eq_getElem?_getD, List.getElem?_append, if_neg (show ¬ j < l.length by omega)]
  simp [List.getElem?_replicate, show j - l.length < n by omega]
theorem zC_open {B P : Nat} {pg : Nat → zP} {K S D F ks vs fs ts : List Int32} {k t : Int32} (h : zC B P pg K S D F ks vs fs ts) :
    zC B (P + 1) (zup pg P (k, t, -2, [])) (K ++ [k]) (S ++ [0]) (D ++ [t]) (F ++ [-2]) (ks ++ List.replicate B 0) (vs ++ List.replicate B 0) (fs ++ List.replicate B 0) (ts ++ List.replicate B (-2)) := by
  obtain ⟨h1, h2, h3, h4, h5, h6, h7, h8, h9⟩ := h
  have e : (P + 1) * B = P * B + B := Nat.succ_mul P B
  refine ⟨by simpa using h1, by simpa using h2, by simpa using h3, by simpa using h4, by simp; omega, by simp; omega, by simp; omega, by simp; omega, fun q hq => ?_⟩
  by_cases c : q = P
  · subst c
    rw [zup_eq]
    refine ⟨?_, ?_, ?_, ?_, Nat.zero_le _, fun j e' hj => by simp at hj, fun j _ j2 => z_grep2 (by omega) (by omega)⟩
    · rw [z_gapp, if_pos h1.symm]
    · rw [z_gapp, if_pos h2.symm]; rfl
    · rw [z_gapp, if_pos h3.symm]
    · rw [z_gapp, if_pos h4.symm]
  · have hq' : q < P := by omega
    obtain ⟨g1, g2, g3, g4, g5, g6, g7⟩ := h9 q hq'
    have := z_pB B hq'
    rw [zup_ne c]
    refine ⟨?_, ?_, ?_, ?_, g5, fun j e' hj => ?_, fun j j1 j2 => ?_⟩
    · rw [z_gapp, if_neg (by omega)]; exact g1
    · rw [z_gapp, if_neg (by omega)]; exact g2
    · rw [z_gapp, if_neg (by omega)]; exact g3
    · rw [z_gapp, if_neg (by omega)]; exact g4
    · obtain ⟨f1, f2, f3, f4⟩ := g6 j e' hj
      have := zlen_lt hj
      refine ⟨?_, ?_, ?_, ?_⟩
      · rw [z_grep (by omega)]; exact f1
      · rw [z_grep (by omega)]; exact f2
      · rw [z_grep (by omega)]; exact f3
      · rw [z_grep (by omega)]; exact f4
    · rw [z_grep (by omega)]
      exact g7 j j1 j2
/-! the same in the reference's row -/
theorem zM_to {B P p i : Nat} {pg : Nat → zP} {N : Nat → Int32} {e : zE} {t : Int32} (h : zM B P pg N) (hp : p < P) (he : (pg p).2.2.2[i]? = some e) :
    zM B P (zup pg p ((pg p).1, (pg p).2.1, (pg p).2.2.1, (pg p).2.2.2.set i (e.1, e.2.1, t, e.2.2.2))) (zup N (2700 + 48 * p + 4 * i + 2) t) := by
  obtain ⟨h1, h2, h3, h4⟩ := h
  have hi := zlen_lt he
  have h12 := (h4 p hp).2.2.2.2.1
  refine ⟨by rw [zup_ne (by omega)]; exact h1, by rw [zup_ne (by omega)]; exact h2, h3, fun q hq => ?_⟩
  obtain ⟨g1, g2, g3, g4, g5, g6⟩ := h4 q hq
  by_cases c : q = p
  · subst c
    rw [zup_eq pg]
    refine ⟨by rw [zup_ne (by omega)]; exact g1, by rw [zup_ne (by omega)]; simpa using g2, by rw [zup_ne (by omega)]; exact g3, by rw [zup_ne (by omega)]; exact g4, by simpa using g5, fun j e' hj => ?_⟩
    by_cases d : i = j
    · subst d
      simp only [List.getElem?_set, if_pos, hi] at hj
      cases hj
      obtain ⟨f1, f2, f3, f4⟩ := g6 i e he
      exact ⟨by rw [zup_ne (by omega)]; exact f1, by rw [zup_ne (by omega)]; exact f2, by rw [zup_eq], by rw [zup_ne (by omega)]; exact f4⟩
    · simp only [List.getElem?_set, if_neg d] at hj
      obtain ⟨f1, f2, f3, f4⟩ := g6 j e' hj
      exact ⟨by rw [zup_ne (by omega)]; exact f1, by rw [zup_ne (by omega)]; exact f2, by rw [zup_ne (by omega)]; exact f3, by rw [zup_ne (by omega)]; exact f4⟩
  · rw [zup_ne c]
    refine ⟨by rw [zup_ne (by omega)]; exact g1, by rw [zup_ne (by omega)]; exact g2, by rw [zup_ne (by omega)]; exact g3, by rw [zup_ne (by omega)]; exact g4, g5, fun j e' hj => ?_⟩
    have := zlen_lt hj
    obtain ⟨f1, f2, f3, f4⟩ := g6 j e' hj
    exact ⟨by rw [zup_ne (by omega)]; exact f1, by rw [zup_ne (by omega)]; exact f2, by rw [zup_ne (by omega)]; exact f3, by rw [zup_ne (by omega)]; exact f4⟩
theorem zM_fin {B P p : Nat} {pg : Nat → zP} {N : Nat → Int32} {t : Int32} (h : zM B P pg N) (hp : p < P) :
    zM B P (zup pg p ((pg p).1, (pg p).2.1, t, (pg p).2.2.2)) (zup N (1413 + 4 * p) t) := by
  obtain ⟨h1, h2, h3, h4⟩ := h
  refine ⟨by rw [zup_ne (by omega)]; exact h1, by rw [zup_ne (by omega)]; exact h2, h3, fun q hq => ?_⟩
  obtain ⟨g1, g2, g3, g4, g5, g6⟩ := h4 q hq
  have seg : zSm (zup N (1413 + 4 * p) t) (2700 + 48 * q) (pg q).2.2.2 := fun j e' hj => by
    have := zlen_lt hj
    obtain ⟨f1, f2, f3, f4⟩ := g6 j e' hj
    exact ⟨by rw [zup_ne (by omega)]; exact f1, by rw [zup_ne (by omega)]; exact f2, by rw [zup_ne (by omega)]; exact f3, by rw [zup_ne (by omega)]; exact f4⟩
  by_cases c : q = p
  · subst c
    rw [zup_eq pg]
    exact ⟨by rw [zup_ne (by omega)]; exact g1, by rw [zup_ne (by omega)]; exact g2, by rw [zup_ne (by omega)]; exact g3, by rw [zup_eq], g5, seg⟩
  · rw [zup_ne c]
    exact ⟨by rw [zup_ne (by omega)]; exact g1, by rw [zup_ne (by omega)]; exact g2, by rw [zup_ne (by omega)]; exact g3, by rw [zup_ne (by omega)]; exact g4, g5, seg⟩
theorem zM_app {B P p : Nat} {pg : Nat → zP} {N : Nat → Int32} {k v f : Int32} (h : zM B P pg N) (hp : p < P) (hl : (pg p).2.2.2.length < 12) :
    zM B P (zup pg p ((pg p).1, (pg p).2.1, (pg p).2.2.1, (pg p).2.2.2 ++ [(k, f, -2, v)])) (zup (zup (zup (zup (zup N (2700 + 48 * p + 4 * (pg p).2.2.2.length) k) (2700 + 48 * p + 4 * (pg p).2.2.2.length + 1) f) (2700 + 48 * p + 4 * (pg p).2.2.2.length + 2) (-2)) (2700 + 48 * p + 4 * (pg p).2.2.2.length + 3) v) (1411 + 4 * p) (nI (pg p).2.2.2.length + 1)) := by
  obtain ⟨h1, h2, h3, h4⟩ := h
  generalize hL : (pg p).2.2.2.length = L at *
  have ot : ∀ a : Nat, (a < 2700 + 48 * p + 4 * L ∨ 2700 + 48 * p + 4 * L + 3 < a) → a ≠ 1411 + 4 * p → (zup (zup (zup (zup (zup N (2700 + 48 * p + 4 * L) k) (2700 + 48 * p + 4 * L + 1) f) (2700 + 48 * p + 4 * L + 2) (-2)) (2700 + 48 * p + 4 * L + 3) v) (1411 + 4 * p) (nI L + 1)) a = N a := fun a a1 a2 => by
    rw [zup_ne a2, zup_ne (by omega), zup_ne (by omega), zup_ne (by omega), zup_ne (by omega)]
  refine ⟨by rw [ot _ (by omega) (by omega)]; exact h1, by rw [ot _ (by omega) (by omega)]; exact h2, h3, fun q hq => ?_⟩
  obtain ⟨g1, g2, g3, g4, g5, g6⟩ := h4 q hq
  by_cases c : q = p
  · subst c
    rw [zup_eq pg]
    refine ⟨by rw [ot _ (by omega) (by omega)]; exact g1, by rw [zup_eq, nI_1]; simp [hL], by rw [ot _ (by omega) (by omega)]; exact g3, by rw [ot _ (by omega) (by omega)]; exact g4, by simp; omega, fun j e' hj => ?_⟩
    by_cases d : j = L
    · subst d
      rw [← hL] at hj
      simp only [List.getElem?_append, Nat.lt_irrefl, if_false, Nat.sub_self] at hj
      cases hj
      refine ⟨?_, ?_, ?_, ?_⟩
      · rw [zup_ne (by omega), zup_ne (by omega), zup_ne (by omega), zup_ne (by omega), zup_eq]
      · rw [zup_ne (by omega), zup_ne (by omega), zup_ne (by omega), zup_eq]
      · rw [zup_ne (by omega), zup_ne (by omega), zup_eq]
      · rw [zup_ne (by omega), zup_eq]
    · have hj2 := zlen_lt hj
      simp only [List.length_append, List.length_cons, List.length_nil] at hj2
      have hj3 : j < (pg q).2.2.2.length := by omega
      simp only [List.getElem?_append, if_pos hj3] at hj
      obtain ⟨f1, f2, f3, f4⟩ := g6 j e' hj
      exact ⟨by rw [ot _ (by omega) (by omega)]; exact f1, by rw [ot _ (by omega) (by omega)]; exact f2, by rw [ot _ (by omega) (by omega)]; exact f3, by rw [ot _ (by omega) (by omega)]; exact f4⟩
  · rw [zup_ne c]
    refine ⟨by rw [ot _ (by omega) (by omega)]; exact g1, by rw [ot _ (by omega) (by omega)]; exact g2, by rw [ot _ (by omega) (by omega)]; exact g3, by rw [ot _ (by omega) (by omega)]; exact g4, g5, fun j e' hj => ?_⟩
    have := zlen_lt hj
    obtain ⟨f1, f2, f3, f4⟩ := g6 j e' hj
    exact ⟨by rw [ot _ (by omega) (by omega)]; exact f1, by rw [ot _ (by omega) (by omega)]; exact f2, by rw [ot _ (by omega) (by omega)]; exact f3, by rw [ot _ (by omega) (by omega)]; exact f4⟩
theorem zM_open {B P : Nat} {pg : Nat → zP} {N : Nat → Int32} {k t : Int32} (h : zM B P pg N) (hP : P < 320) :
    zM B (P + 1) (zup pg P (k, t, -2, [])) (zup (zup (zup (zup (zup N (1410 + 4 * P) k) (1411 + 4 * P) 0) (1412 + 4 * P) t) (1413 + 4 * P) (-2)) 3 (nI P + 1)) := by
  obtain ⟨h1, h2, h3, h4⟩ := h
  have ot : ∀ a : Nat, (a < 1410 + 4 * P ∨ 1413 + 4 * P < a) → a ≠ 3 → (zup (zup (zup (zup (zup N (1410 + 4 * P) k) (1411 + 4 * P) 0) (1412 + 4 * P) t) (1413 + 4 * P) (-2)) 3 (nI P + 1)) a = N a := fun a a1 a2 => by
    rw [zup_ne a2, zup_ne (by omega), zup_ne (by omega), zup_ne (by omega), zup_ne (by omega)]
  refine ⟨by rw [ot _ (by omega) (by omega)]; exact h1, by rw [zup_eq, nI_1], hP, fun q hq => ?_⟩
  by_cases c : q = P
  · subst c
    rw [zup_eq pg]
    refine ⟨?_, ?_, ?_, ?_, Nat.zero_le _, fun j e' hj => by simp at hj⟩
    · rw [zup_ne (by omega), zup_ne (by omega), zup_ne (by omega), zup_ne (by omega), zup_eq]
    · rw [zup_ne (by omega), zup_ne (by omega), zup_ne (by omega), zup_eq]; rfl
    · rw [zup_ne (by omega), zup_ne (by omega), zup_eq]
    · rw [zup_ne (by omega), zup_eq]
  · obtain ⟨g1, g2, g3, g4, g5, g6⟩ := h4 q (by omega)
    rw [zup_ne c]
    refine ⟨by rw [ot _ (by omega) (by omega)]; exact g1, by rw [ot _ (by omega) (by omega)]; exact g2, by rw [ot _ (by omega) (by omega)]; exact g3, by rw [ot _ (by omega) (by omega)]; exact g4, g5, fun j e' hj => ?_⟩
    have := zlen_lt hj
    obtain ⟨f1, f2, f3, f4⟩ := g6 j e' hj
    exact ⟨by rw [ot _ (by omega) (by omega)]; exact f1, by rw [ot _ (by omega) (by omega)]; exact f2, by rw [ot _ (by omega) (by omega)]; exact f3, by rw [ot _ (by omega) (by omega)]; exact f4⟩
end
