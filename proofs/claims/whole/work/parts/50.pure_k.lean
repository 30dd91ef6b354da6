section
/-! the reference replaces a page of the way -/
def zMr (ro : List (Int32 × Int32)) (N : Nat → Int32) : Prop := N 2 = nI ro.length ∧ ∀ (i : Nat) (q : Int32 × Int32), ro[i]? = some q → N (10 + i) = q.1 ∧ N (710 + i) = q.2
def zfV (w w' : jw) : Prop := w'.2.2 = w.2.2 ∧ (∀ a, a ≠ 162 → w'.1 a = w.1 a) ∧ (∀ j, j ≠ 37 → w'.1 162 j = w.1 162 j) ∧ (∀ p, p ≠ 182 → p ≠ 184 → p ≠ 185 → p ≠ 186 → w'.2.1 p = w.2.1 p) ∧ (∀ a, (a < 2 ∨ (3 < a ∧ a < 10) ∨ 18100 ≤ a) → w'.2.1 182 a = w.2.1 182 a)
theorem zfV_rfl (w : jw) : zfV w w := ⟨rfl, fun _ _ => rfl, fun _ _ => rfl, fun _ _ _ _ _ => rfl, fun _ _ => rfl⟩
theorem zfV_trans {a b c : jw} (h : zfV a b) (g : zfV b c) : zfV a c := ⟨g.1.trans h.1, fun x hx => (g.2.1 x hx).trans (h.2.1 x hx), fun x hx => (g.2.2.1 x hx).trans (h.2.2.1 x hx), fun p p1 p2 p3 p4 => (g.2.2.2.1 p p1 p2 p3 p4).trans (h.2.2.2.1 p p1 p2 p3 p4), fun x hx => (g.2.2.2.2 x hx).trans (h.2.2.2.2 x hx)⟩
theorem zfV_N {w w' : jw} (h : zfN w w') : zfV w w' := ⟨h.2.1, fun _ _ => by rw [h.1], fun _ _ => by rw [h.1], fun p p1 _ _ _ => h.2.2.1 p p1, fun a ha => h.2.2.2 a (by omega) (by omega)⟩
theorem zfV_W {w w' : jw} (h : zfW w w') : zfV w w' := ⟨h.1, h.2.1, h.2.2.1, fun p _ p2 p3 p4 => h.2.2.2 p p2 p3 p4, fun a _ => by rw [h.2.2.2 182 (by decide) (by decide) (by decide)]⟩
theorem zfV_I {w : jw} {x : Int32} : zfV w (jsetI w 162 37 x) := ⟨rfl, fun _ ha => z_jI2 ha, fun j hj => by rw [z_jI1, zup_ne hj], fun _ _ _ _ _ => rfl, fun _ _ => rfl⟩
theorem zMr_N {ro : List (Int32 × Int32)} {w w' : jw} (h : zMr ro (w.2.1 182)) (f : zfN w w') (hl : ro.length ≤ 700) : zMr ro (w'.2.1 182) := by
  refine ⟨by rw [f.2.2.2 2 (by decide) (by decide)]; exact h.1, fun i q hq => ?_⟩
  have := (List.getElem?_eq_some_iff.mp hq).1
  rw [f.2.2.2 (10 + i) (by omega) (by omega), f.2.2.2 (710 + i) (by omega) (by omega)]
  exact h.2 i q hq
theorem z_10 (p : Nat) : (10 : Int32) + nI p = nI (10 + p) := nI_add 10 p
theorem z_710 (p : Nat) : (710 : Int32) + nI p = nI (710 + p) := nI_add 710 p
theorem zM_out {B P : Nat} {pg : Nat → zP} {N N' : Nat → Int32} (h : zM B P pg N) (ho : ∀ a, a = 1 ∨ a = 3 ∨ (1410 ≤ a ∧ a < 18100) → N' a = N a) : zM B P pg N' := by
  obtain ⟨h1, h2, h3, h4⟩ := h
  refine ⟨by rw [ho 1 (by omega)]; exact h1, by rw [ho 3 (by omega)]; exact h2, h3, fun p hp => ?_⟩
  obtain ⟨g1, g2, g3, g4, g5, g6⟩ := h4 p hp
  refine ⟨by rw [ho _ (by omega)]; exact g1, by rw [ho _ (by omega)]; exact g2, by rw [ho _ (by omega)]; exact g3, by rw [ho _ (by omega)]; exact g4, g5, fun i e hi => ?_⟩
  have := zlen_lt hi
  obtain ⟨f1, f2, f3, f4⟩ := g6 i e hi
  exact ⟨by rw [ho _ (by omega)]; exact f1, by rw [ho _ (by omega)]; exact f2, by rw [ho _ (by omega)]; exact f3, by rw [ho _ (by omega)]; exact f4⟩
theorem z_becomesRoot {ro : List (Int32 × Int32)} {w : jw} (x : Int32) (h : zMr ro (w.2.1 182)) (hl : ro.length < 700) : ∃ w', f_X12_becomesRoot x w = some w' ∧ zMr (ro ++ [(w.2.1 182 0, x)]) (w'.2.1 182) ∧ zfV w w' ∧ (∀ {B P : Nat} {pg : Nat → zP}, zM B P pg (w.2.1 182) → zM B P pg (w'.2.1 182)) := by
  unfold f_X12_becomesRoot
  simp only [z_jl, z_jg j_2, z_jg j_0, k_2, k_0, h.1, z_10, nI_clamp (show 10 + ro.length < 2 ^ 31 by omega), z_jg (z_in (show 10 + ro.length < 34700 by omega) (by decide)), z_jX1]
  rw [zup_ne (show 2 ≠ 10 + ro.length by omega), h.1, z_710, z_jg (z_in (show 710 + ro.length < 34700 by omega) (by decide)), nI_clamp (show 710 + ro.length < 2 ^ 31 by omega), zup_ne (show 2 ≠ 710 + ro.length by omega), zup_ne (show 2 ≠ 10 + ro.length by omega), h.1]
  have ot : ∀ a, a ≠ 2 → a ≠ 10 + ro.length → a ≠ 710 + ro.length → (jsetX (jsetX (jsetX w 182 (10 + ro.length) (w.2.1 182 0)) 182 (710 + ro.length) x) 182 2 (nI ro.length + 1)).2.1 182 a = w.2.1 182 a := fun a a1 a2 a3 => by
    rw [z_jX1, z_jX1, z_jX1, zup_ne a1, zup_ne a3, zup_ne a2]
  refine ⟨_, rfl, ⟨?_, fun i q hq => ?_⟩, ⟨rfl, fun _ _ => rfl, fun _ _ => rfl, fun p p1 _ _ _ => ?_, fun a ha => ot a (by omega) (by omega) (by omega)⟩, fun hM => zM_out hM (fun a ha => ot a (by omega) (by omega) (by omega))⟩
  · rw [z_jX1, zup_eq, nI_1]; simp
  · have hi := (List.getElem?_eq_some_iff.mp hq).1
    simp only [List.length_append, List.length_cons, List.length_nil] at hi
    by_cases c : i = ro.length
    · subst c
      simp only [List.getElem?_append, Nat.lt_irrefl, if_false, Nat.sub_self] at hq
      cases hq
      rw [z_jX1, z_jX1, z_jX1]
      refine ⟨?_, ?_⟩
      · rw [zup_ne (by omega), zup_ne (by omega), zup_eq]
      · rw [zup_ne (by omega), zup_eq]
    · have hi2 : i < ro.length := by omega
      simp only [List.getElem?_append, if_pos hi2] at hq
      rw [ot _ (by omega) (by omega) (by omega), ot _ (by omega) (by omega) (by omega)]
      exact h.2 i q hq
  · rw [z_jX2 p1, z_jX2 p1, z_jX2 p1]
theorem zmk_congr {B : Nat} {t : Int32} {P x : Nat} {F G : Nat → zP} {k : Int32} {r : List zE} (h : F x = G x) : zmk B t P F k r x = zmk B t P G k r x := by
  unfold zmk zup
  by_cases c : ztwo B r = true
  · rw [if_pos c, if_pos c]
    by_cases d : x = P + 1
    · rw [if_pos d, if_pos d]
    · rw [if_neg d, if_neg d]
      by_cases d2 : x = P
      · rw [if_pos d2, if_pos d2]
      · rw [if_neg d2, if_neg d2, h]
  · rw [if_neg c, if_neg c]
    by_cases d2 : x = P
    · rw [if_pos d2, if_pos d2]
    · rw [if_neg d2, if_neg d2, h]
def zx18 (B : Nat) (r : List zE) : Int32 := if ztwo B r = true then 1 else 0
def zx27 (B P : Nat) (r : List zE) : Int32 := if ztwo B r = true then nI (P + 1) else -1
def zx31 (B : Nat) (r : List zE) : Int32 := if ztwo B r = true then zsec r else 0
/-- the pages made of the row -/
theorem z_KA {B P : Nat} {pg : Nat → zP} {w : jw} {r : List zE} {k t : Int32} (h : zM B P pg (w.2.1 182)) (hw : zW w r) (ht : w.2.1 182 0 = t) (hP : P + 2 ≤ 320) (hr : r.length ≤ 32) (hto : ∀ e ∈ r, e.2.2.1 = -2) (hB6 : 6 ≤ B) (hB : B ≤ 12) (hh : r.length - r.length / 2 ≤ B) :
    ∃ w28, zfN w w28 ∧ zM B (P + zmn B r) (zmk B t P pg k r) (w28.2.1 182) ∧ ∀ {β : Type} (K : Int32 → Int32 → Int32 → Int32 → jw → Option β),
      (jbd (if (w.1 162 37) ≤ ((w.2.1 182 1) - 2) then some (0 : Int32) else some (1 : Int32)) fun x18 => jbd (if x18 = 0 then some (w.1 162 37) else some ((w.1 162 37) / 2)) fun x21 => jbd2 (f_X12_newPage k 0 x21 w) fun x24 w25 => jbd2 (if x18 = 0 then some (((-1) : Int32), w25) else jbd2 (f_X12_newPage k x21 (w25.1 162 37) w25) fun x103 w104 => some (x103, w104)) fun x27 w28 => jbd (if x18 = 0 then some (0 : Int32) else jg (jin x21 40) (some (w28.2.1 184 (Int32.toNatClampNeg x21)))) fun x31 => K x18 x24 x27 x31 w28) = K (zx18 B r) (nI P) (zx27 B P r) (zx31 B r) w28 := by
  rw [hw.1, h.1, show nI B - 2 = nI (B - 2) from pk_sub (b := 2) (by omega)]
  cases c : ztwo B r with
  | false =>
    have c2 : r.length ≤ B - 2 := by
      have := of_decide_eq_false c
      omega
    obtain ⟨w1, a1, a2, a3⟩ := z_newPage (a := 0) (b := r.length) k h hw (by omega) (by omega) hto (Nat.zero_le _) (Nat.le_refl _) (by omega)
    have a1' : f_X12_newPage k 0 (nI r.length) w = some (nI P, w1) := a1
    refine ⟨w1, a2, ?_, fun K => ?_⟩
    · unfold zmk
      rw [zmn_one c, c]
      rw [List.drop_zero, Nat.sub_zero, List.take_length, ht] at a3
      exact a3
    · rw [if_pos (nI_le c2 (by omega)), z_jbd, if_pos rfl, z_jbd, a1', z_jbd2, if_pos rfl, z_jbd2, if_pos rfl, z_jbd]
      unfold zx18 zx27 zx31
      rw [c]
      rfl
  | true =>
    have c2 : B - 2 < r.length := by
      have := of_decide_eq_true c
      omega
    have hd : nI r.length / 2 = nI (r.length / 2) := pk_div (d := 2) (by omega) (by decide) (by decide)
    obtain ⟨w1, a1, a2, a3⟩ := z_newPage (a := 0) (b := r.length / 2) k h hw (by omega) (by omega) hto (Nat.zero_le _) (by omega) (by omega)
    have a1' : f_X12_newPage k 0 (nI (r.length / 2)) w = some (nI P, w1) := a1
    obtain ⟨w2, b1, b2, b3⟩ := z_newPage (a := r.length / 2) (b := r.length) k a3 (zW_N hw a2) (by omega) (by omega) hto (by omega) (Nat.le_refl _) (by omega)
    have n0 : w1.2.1 182 0 = t := by rw [a2.2.2.2 0 (by decide) (by decide)]; exact ht
    refine ⟨w2, zfN_trans a2 b2, ?_, fun K => ?_⟩
    · unfold zmk
      rw [zmn_two c, if_pos c]
      rw [List.drop_zero, Nat.sub_zero, ht, n0] at b3
      have e : (r.drop (r.length / 2)).take (r.length - r.length / 2) = r.drop (r.length / 2) := List.take_of_length_le (by simp)
      rw [e] at b3
      exact b3
    · have hl : r.length / 2 < r.length := by omega
      have he := List.getElem?_eq_getElem hl
      rw [if_neg (nI_ge c2 (by omega)), z_jbd, if_neg (by decide), z_jbd, hd, a1', z_jbd2, if_neg (by decide), (zW_N hw a2).1, b1, z_jbd2, z_jbd2, if_neg (by decide), z_jg (z_in (show r.length / 2 < 40 by omega) (by decide)), z_jbd, nI_clamp (by omega), ((zW_N (zW_N hw a2) b2).2 _ _ he).1]
      unfold zx18 zx27 zx31
      rw [if_pos c, if_pos c, if_pos c]
      unfold zsec
      rw [zgetD he]
theorem z_siblingOf {B P p q ip : Nat} {pg : Nat → zP} {w : jw} {e0 : zE} {r : List zE} (h : zM B P pg (w.2.1 182)) (hq : q < P) (i1 : zfi (zto (nI p)) (pg q).2.2.2 0 = some ip) (i2 : (pg q).2.2.2[ip]? = some e0) (hr : r.length ≤ B / 4) :
    f_X12_siblingOf (nI q) (nI p) w = some ((match zsib B r e0.1 (pg q).2.2.2 with
      | some j => ((pg q).2.2.2.getD j.1 zdf).2.2.2
      | none => -1), w) := by
  have b1 := h.2.2.1
  have b2 := zM_12 h hq
  have il := zlen_lt i2
  unfold f_X12_siblingOf
  rw [z_entryFor (nI p) h hq, i1, z_jbd2, show zao (2700 + 48 * q) (some ip) = nI (2700 + 48 * q + 4 * ip) from rfl, z_jg (z_in (by omega) (by decide)), z_jl, nI_clamp (by omega), (zM_seg h hq ip e0 i2).1]
  have L := z_sib_l (v := nI p) (bd := e0.1) (by omega) (zM_L h hq) b2 (pg q).2.2.2 jfu 0 none none (zM_seg h hq) (by omega) (by show _ < 40000; omega) (fun x hx => by cases hx) (fun x hx => by cases hx)
  refine Eq.trans L ?_
  have val : ∀ j : Nat × Int32, (∃ e, (pg q).2.2.2[j.1]? = some e) → w.2.1 182 (2700 + 48 * q + 4 * j.1 + 3) = ((pg q).2.2.2.getD j.1 zdf).2.2.2 := fun j ⟨e, he⟩ => by
    rw [zgetD he]
    exact (zM_seg h hq j.1 e he).2.2.2
  unfold zsib
  rw [if_pos hr]
  cases ha : zbs (zna e0.1) zlt (pg q).2.2.2 0 none with
  | some x =>
    obtain ⟨e, g1, _⟩ := zbs_0 ha
    simp only []
    rw [val x ⟨e, g1⟩]
  | none =>
    simp only []
    cases hb : zbs (znb e0.1) zgt (pg q).2.2.2 0 none with
    | some x =>
      obtain ⟨e, g1, _⟩ := zbs_0 hb
      simp only []
      rw [val x ⟨e, g1⟩]
    | none => rfl
end
