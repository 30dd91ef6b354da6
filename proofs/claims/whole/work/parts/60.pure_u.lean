section
/-! how many pages a tree of so many levels has cost -/
def zsm : Nat → (Nat → Nat) → Nat
  | 0, _ => 0
  | n + 1, f => zsm n f + f n
theorem zsm_le {f g : Nat → Nat} : ∀ n, (∀ x, x < n → f x ≤ g x) → zsm n f ≤ zsm n g := by
  intro n
  induction n with
  | zero => intro _; exact Nat.le_refl _
  | succ n ih =>
    intro h
    have := ih (fun x hx => h x (by omega))
    have := h n (Nat.lt_succ_self n)
    unfold zsm
    omega
theorem zsm_add (f g : Nat → Nat) : ∀ n, zsm n (fun x => f x + g x) = zsm n f + zsm n g := by
  intro n
  induction n with
  | zero => rfl
  | succ n ih => unfold zsm; rw [ih]; show _ + _ + (f n + g n) = _; omega
theorem zsm_ind (p v : Nat) : ∀ n, zsm n (fun x => if x = p then v else 0) = if p < n then v else 0 := by
  intro n
  induction n with
  | zero => rfl
  | succ n ih =>
    unfold zsm
    rw [ih]
    show (if p < n then v else 0) + (if n = p then v else 0) = _
    by_cases c : n = p
    · subst c; rw [if_neg (by omega), if_pos rfl, if_pos (by omega)]; omega
    · rw [if_neg c]
      by_cases d : p < n
      · rw [if_pos d, if_pos (by omega)]; omega
      · rw [if_neg d, if_neg (by omega)]
theorem zsm_new {f : Nat → Nat} {n : Nat} : ∀ m, (∀ x, n ≤ x → x < n + m → f x = 0) → zsm (n + m) f = zsm n f := by
  intro m
  induction m with
  | zero => intro _; rfl
  | succ m ih =>
    intro h
    show zsm (n + m) f + f (n + m) = _
    rw [ih (fun x h1 h2 => h x h1 (by omega)), h (n + m) (by omega) (by omega)]
    rfl
def zcr (B : Nat) (pg : Nat → zP) (R : Nat) (lev : Nat → Nat) (x : Nat) : Nat := if (pg x).2.2.1 = -2 ∧ lev x ≠ 0 ∧ x ≠ R ∧ B ≤ (zLv pg x).length + 1 then 2 else 0
def zba (K : Nat) : Nat := if K = 0 then 1 else if K = 1 then 4 else 15 * K - 17
def zcc (K : Nat) : Nat := if K = 0 then 0 else if K = 1 then 2 else 4
def zpot (B P : Nat) (pg : Nat → zP) (R : Nat) (lev : Nat → Nat) : Prop := zba (lev R) + zcc (lev R) * min ((zLv pg R).length - 2) 3 + zsm P (zcr B pg R lev) ≤ P
theorem zcr_le (B : Nat) (pg : Nat → zP) (R : Nat) (lev : Nat → Nat) (x : Nat) : zcr B pg R lev x ≤ 2 := by unfold zcr; split <;> omega
theorem zpot_step {B P P' p q R : Nat} {F D : Nat → zP} {lev lev' : Nat → Nat} (h : zpot B P F R lev) (hp : p < P) (hq : q < P) (pq : p ≠ q) (pR : p ≠ R) (RP : R < P) (ap : (F p).2.2.1 = -2) (lv : ∀ x, x < P → lev' x = lev x)
    (oth : ∀ x, x < P → x ≠ p → x ≠ q → (D x).2.2.1 = -2 → (F x).2.2.1 = -2 ∧ (zLv D x).length = (zLv F x).length) (dp : (D p).2.2.1 ≠ -2) (hn : P ≤ P') (new : ∀ x, P ≤ x → x < P' → (zLv D x).length + 2 ≤ B) (aq : (F q).2.2.1 = -2) (rD : R ≠ q → (zLv D R).length = (zLv F R).length) (lqp : lev q = lev p + 1) 
    (cs : ((zLv D q).length ≤ (zLv F q).length) ∨ ((zLv D q).length = (zLv F q).length + 1 ∧ P' = P + 2 ∧ (lev p ≠ 0 → B ≤ (zLv F p).length + 1))) : zpot B P' D R lev' := by
  unfold zpot at *
  rw [lv R RP]
  have s0 : zsm P' (zcr B D R lev') = zsm P (zcr B D R lev') := by
    rw [show P' = P + (P' - P) by omega]
    refine zsm_new _ (fun x h1 h2 => ?_)
    have := new x h1 (by omega)
    unfold zcr
    rw [if_neg (fun z => by have := z.2.2.2; omega)]
  have s1 : zsm P (zcr B D R lev') + zcr B F R lev p + zcr B F R lev q ≤ zsm P (zcr B F R lev) + zcr B D R lev' q := by
    have := zsm_le (f := fun x => (zcr B D R lev' x + (if x = p then zcr B F R lev p else 0)) + (if x = q then zcr B F R lev q else 0)) (g := fun x => zcr B F R lev x + (if x = q then zcr B D R lev' q else 0)) P (fun x hx => by
      by_cases c : x = p
      · subst c
        have : zcr B D R lev' x = 0 := by unfold zcr; rw [if_neg (fun z => dp z.1)]
        rw [this, if_pos rfl, if_neg pq, if_neg pq]
        omega
      · by_cases d : x = q
        · subst d
          rw [if_neg c, if_pos rfl, if_pos rfl]
          omega
        · rw [if_neg c, if_neg d, if_neg d]
          have : zcr B D R lev' x ≤ zcr B F R lev x := by
            unfold zcr
            by_cases e : (D x).2.2.1 = -2 ∧ lev' x ≠ 0 ∧ x ≠ R ∧ B ≤ (zLv D x).length + 1
            · obtain ⟨o1, o2⟩ := oth x hx c d e.1
              rw [if_pos e, if_pos ⟨o1, by rw [← lv x hx]; exact e.2.1, e.2.2.1, by rw [← o2]; exact e.2.2.2⟩]
              exact Nat.le_refl _
            · rw [if_neg e]; exact Nat.zero_le _
          omega)
    rw [zsm_add, zsm_add, zsm_add, zsm_ind, zsm_ind, zsm_ind, if_pos hp, if_pos hq, if_pos hq] at this
    exact this
  rw [s0]
  by_cases qR : q = R
  · subst qR
    have z1 : zcr B F q lev q = 0 := by unfold zcr; rw [if_neg (fun z => z.2.2.1 rfl)]
    have z2 : zcr B D q lev' q = 0 := by unfold zcr; rw [if_neg (fun z => z.2.2.1 rfl)]
    rcases cs with c | ⟨c1, c2, c3⟩
    · have mm : min ((zLv D q).length - 2) 3 ≤ min ((zLv F q).length - 2) 3 := by omega
      have := Nat.mul_le_mul_left (zcc (lev q)) mm
      omega
    · have mm : min ((zLv D q).length - 2) 3 ≤ min ((zLv F q).length - 2) 3 + 1 := by omega
      have m2 := Nat.mul_le_mul_left (zcc (lev q)) mm
      rw [Nat.mul_succ] at m2
      by_cases l0 : lev p = 0
      · have : zcc (lev q) = 2 := by unfold zcc; rw [lqp, l0]; rfl
        omega
      · have e4 : zcc (lev q) ≤ 4 := by unfold zcc; split; omega; split <;> omega
        have cp : zcr B F q lev p = 2 := by unfold zcr; rw [if_pos ⟨ap, l0, pR, c3 l0⟩]
        omega
  · have rr := rD (fun e => qR e.symm)
    rw [rr]
    rcases cs with c | ⟨c1, c2, c3⟩
    · have : zcr B D R lev' q ≤ zcr B F R lev q := by
        unfold zcr
        by_cases e : (D q).2.2.1 = -2 ∧ lev' q ≠ 0 ∧ q ≠ R ∧ B ≤ (zLv D q).length + 1
        · rw [if_pos e, if_pos ⟨aq, by rw [← lv q hq]; exact e.2.1, e.2.2.1, by have := e.2.2.2; omega⟩]
          exact Nat.le_refl _
        · rw [if_neg e]; exact Nat.zero_le _
      omega
    · have := zcr_le B D R lev' q
      omega
theorem zpot_1 {B P R : Nat} {F D : Nat → zP} {lev lev' : Nat → Nat} (h : zpot B P F R lev) (lv : ∀ x, x < P → lev' x = lev x) (lP : lev' P = lev R) (oth : ∀ x, x < P → x ≠ R → (D x).2.2.1 = (F x).2.2.1 ∧ (zLv D x).length = (zLv F x).length) (dR : (D R).2.2.1 ≠ -2) (len : (zLv D P).length = (zLv F R).length) : zpot B (P + 1) D P lev' := by
  unfold zpot at *
  rw [lP, len]
  have s0 : zsm (P + 1) (zcr B D P lev') = zsm P (zcr B D P lev') := zsm_new (n := P) 1 (fun x h1 h2 => by
    have : x = P := by omega
    subst this
    unfold zcr
    rw [if_neg (fun z => z.2.2.1 rfl)])
  have s1 : zsm P (zcr B D P lev') ≤ zsm P (zcr B F R lev) := zsm_le P (fun x hx => by
    unfold zcr
    by_cases e : (D x).2.2.1 = -2 ∧ lev' x ≠ 0 ∧ x ≠ P ∧ B ≤ (zLv D x).length + 1
    · have xR : x ≠ R := fun z => dR (z ▸ e.1)
      obtain ⟨o1, o2⟩ := oth x hx xR
      rw [if_pos e, if_pos ⟨by rw [← o1]; exact e.1, by rw [← lv x hx]; exact e.2.1, xR, by rw [← o2]; exact e.2.2.2⟩]
      exact Nat.le_refl _
    · rw [if_neg e]; exact Nat.zero_le _)
  omega
theorem zba_up (K : Nat) : zba (K + 1) ≤ zba K + zcc K * 3 + 3 := by
  unfold zba zcc
  rcases Nat.lt_or_ge K 2 with h | h
  · have : K = 0 ∨ K = 1 := by omega
    rcases this with rfl | rfl <;> decide
  · rw [if_neg (by omega), if_neg (by omega), if_neg (by omega), if_neg (by omega), if_neg (by omega), if_neg (by omega)]
    omega
theorem zba_dn (K : Nat) (m : Nat) (h : m ≤ 3) : zba K + zcc K * m ≤ zba (K + 1) := by
  have m2 := Nat.mul_le_mul_left (zcc K) h
  have : zba K + zcc K * 3 ≤ zba (K + 1) := by
    unfold zba zcc
    rcases Nat.lt_or_ge K 2 with h | h
    · have : K = 0 ∨ K = 1 := by omega
      rcases this with rfl | rfl <;> decide
    · rw [if_neg (by omega), if_neg (by omega), if_neg (by omega), if_neg (by omega), if_neg (by omega), if_neg (by omega)]
      omega
  omega
theorem zpot_2 {B P R : Nat} {F D : Nat → zP} {lev lev' : Nat → Nat} (h : zpot B P F R lev) (lv : ∀ x, x < P → lev' x = lev x) (lP : lev' (P + 2) = lev R + 1) (oth : ∀ x, x < P → x ≠ R → (D x).2.2.1 = (F x).2.2.1 ∧ (zLv D x).length = (zLv F x).length) (dR : (D R).2.2.1 ≠ -2) (len : 5 ≤ (zLv F R).length) (l2 : (zLv D (P + 2)).length = 2) (new : ∀ x, P ≤ x → x < P + 2 → (zLv D x).length + 2 ≤ B) : zpot B (P + 3) D (P + 2) lev' := by
  unfold zpot at *
  rw [lP, l2]
  have s0 : zsm (P + 3) (zcr B D (P + 2) lev') = zsm P (zcr B D (P + 2) lev') := zsm_new (n := P) 3 (fun x h1 h2 => by
    unfold zcr
    by_cases c : x = P + 2
    · rw [if_neg (fun z => z.2.2.1 c)]
    · have := new x h1 (by omega)
      rw [if_neg (fun z => by have := z.2.2.2; omega)])
  have s1 : zsm P (zcr B D (P + 2) lev') ≤ zsm P (zcr B F R lev) := zsm_le P (fun x hx => by
    unfold zcr
    by_cases e : (D x).2.2.1 = -2 ∧ lev' x ≠ 0 ∧ x ≠ P + 2 ∧ B ≤ (zLv D x).length + 1
    · have xR : x ≠ R := fun z => dR (z ▸ e.1)
      obtain ⟨o1, o2⟩ := oth x hx xR
      rw [if_pos e, if_pos ⟨by rw [← o1]; exact e.1, by rw [← lv x hx]; exact e.2.1, xR, by rw [← o2]; exact e.2.2.2⟩]
      exact Nat.le_refl _
    · rw [if_neg e]; exact Nat.zero_le _)
  have mm : min ((zLv F R).length - 2) 3 = 3 := by omega
  rw [mm] at h
  have := zba_up (lev R)
  have e0 : zcc (lev R + 1) * min (2 - 2) 3 = 0 := by rw [show min (2 - 2) 3 = 0 from rfl, Nat.mul_zero]
  omega
theorem zpot_cl {B P R c : Nat} {F D : Nat → zP} {lev : Nat → Nat} (h : zpot B P F R lev) (lP : lev R = lev c + 1) (oth : ∀ x, x < P → x ≠ R → (D x).2.2.1 = (F x).2.2.1 ∧ (zLv D x).length = (zLv F x).length) (dR : (D R).2.2.1 ≠ -2) : zpot B P D c lev := by
  unfold zpot at *
  have s1 : zsm P (zcr B D c lev) ≤ zsm P (zcr B F R lev) := zsm_le P (fun x hx => by
    unfold zcr
    by_cases e : (D x).2.2.1 = -2 ∧ lev x ≠ 0 ∧ x ≠ c ∧ B ≤ (zLv D x).length + 1
    · have xR : x ≠ R := fun z => dR (z ▸ e.1)
      obtain ⟨o1, o2⟩ := oth x hx xR
      rw [if_pos e, if_pos ⟨by rw [← o1]; exact e.1, e.2.1, xR, by rw [← o2]; exact e.2.2.2⟩]
      exact Nat.le_refl _
    · rw [if_neg e]; exact Nat.zero_le _)
  have d := zba_dn (lev c) (min ((zLv D c).length - 2) 3) (by omega)
  rw [← lP] at d
  omega
theorem zpot_cg {B P R : Nat} {F D : Nat → zP} {lev : Nat → Nat} (h : zpot B P F R lev) (RP : R < P) (l0 : ∀ x, x < P → (D x).2.2.1 = (F x).2.2.1 ∧ ((zLv D x).length = (zLv F x).length ∨ lev x = 0)) : zpot B P D R lev := by
  unfold zpot at *
  have s1 : zsm P (zcr B D R lev) ≤ zsm P (zcr B F R lev) := zsm_le P (fun x hx => by
    unfold zcr
    by_cases e : (D x).2.2.1 = -2 ∧ lev x ≠ 0 ∧ x ≠ R ∧ B ≤ (zLv D x).length + 1
    · obtain ⟨o1, o2⟩ := l0 x hx
      rcases o2 with o2 | o2
      · rw [if_pos e, if_pos ⟨by rw [← o1]; exact e.1, e.2.1, e.2.2.1, by rw [← o2]; exact e.2.2.2⟩]
        exact Nat.le_refl _
      · exact absurd o2 e.2.1
    · rw [if_neg e]; exact Nat.zero_le _)
  rcases (l0 R RP).2 with o | o
  · rw [o]; omega
  · have : zcc (lev R) = 0 := by unfold zcc; rw [o]; rfl
    rw [this] at h ⊢
    omega
theorem zpot_lev {B P R : Nat} {F : Nat → zP} {lev : Nat → Nat} (h : zpot B P F R lev) (hP : P < 280) : lev R ≤ 19 := by
  unfold zpot at h
  have : zba (lev R) ≤ P := by omega
  unfold zba at this
  split at this
  · omega
  · split at this
    · omega
    · omega
end
