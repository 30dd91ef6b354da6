section
/-! terms: the class's going through the tokens -/
def zt (T : List zT) (i : Nat) : zT := T.getD i (kStop, 0, 0)
theorem z_mapD {α : Type} {T : List α} {f : α → Int32} {d : α} (hd : f d = 0) (i : Nat) : (T.map f).getD i 0 = f (T.getD i d) := by
  rw [List.getD_eq_getElem?_getD, List.getD_eq_getElem?_getD, List.getElem?_map]
  cases T[i]? with
  | none => exact hd.symm
  | some x => rfl
theorem zTC_k {T : List zT} {w : jw} (h : zTC T w) {i : Nat} (hi : i < 2 ^ 31) : rat (w.2.2.2 4) (nI i) = zkC (zt T i).1 := by
  rw [z_rat hi, h.1]; exact z_mapD (f := fun x : zT => zkC x.1) rfl i
theorem zTC_v {T : List zT} {w : jw} (h : zTC T w) {i : Nat} (hi : i < 2 ^ 31) : rat (w.2.2.2 6) (nI i) = (zt T i).2.2 := by
  rw [z_rat hi, h.2.1]; exact z_mapD (f := fun x : zT => x.2.2) rfl i
theorem zTC_p {T : List zT} {w : jw} (h : zTC T w) {i : Nat} (hi : i < 2 ^ 31) : rat (w.2.2.2 8) (nI i) = (zt T i).2.1 := by
  rw [z_rat hi, h.2.2]; exact z_mapD (f := fun x : zT => x.2.1) rfl i
def zenv (w : jw) (n : Nat) : Int32 := if n = 0 then rat (w.2.2.2 49) (nI (w.2.2.2 49).length - 1) else if n = 1 then rat (w.2.2.2 49) (nI (w.2.2.2 49).length - 2) else if n = 2 then nI (w.2.2.2 36).length - 1 else if n = 3 then w.1 35 4 else if n = 4 then w.1 48 5 else nI (w.2.2.2 19).length
theorem zkC_i : ∀ k : zK, ((zkC k).toInt = 8 ↔ k.1 = 8) ∧ ((zkC k).toInt = 9 ↔ k.1 = 9) ∧ ((zkC k).toInt = 10 ↔ k.1 = 10) ∧ ((zkC k).toInt = 11 ↔ k.1 = 11) ∧ ((zkC k).toInt = 12 ↔ k.1 = 12) ∧ ((zkC k).toInt = 13 ↔ k.1 = 13) := by decide
theorem z_varC (k : zK) (w : jw) : f_X10_variable (zkC k) w = some (if 8 ≤ k.1 ∧ k.1 ≤ 13 then zenv w (k.1 - 8) else 0, w) := by
  obtain ⟨e8, e9, e10, e11, e12, e13⟩ := zkC_i k
  unfold f_X10_variable f_X2_now
  by_cases c8 : k.1 = 8
  · rw [if_pos (e8.mpr c8), if_pos (by omega), c8]; rfl
  rw [if_neg (fun z => c8 (e8.mp z))]
  by_cases c9 : k.1 = 9
  · rw [if_pos (e9.mpr c9), if_pos (by omega), c9]; rfl
  rw [if_neg (fun z => c9 (e9.mp z))]
  by_cases c10 : k.1 = 10
  · rw [if_pos (e10.mpr c10), if_pos (by omega), c10]; rfl
  rw [if_neg (fun z => c10 (e10.mp z))]
  by_cases c11 : k.1 = 11
  · rw [if_pos (e11.mpr c11), if_pos (by omega), c11]; rfl
  rw [if_neg (fun z => c11 (e11.mp z))]
  by_cases c12 : k.1 = 12
  · rw [if_pos (e12.mpr c12), if_pos (by omega), c12]; rfl
  rw [if_neg (fun z => c12 (e12.mp z))]
  by_cases c13 : k.1 = 13
  · rw [if_pos (e13.mpr c13), if_pos (by omega), c13]; rfl
  rw [if_neg (fun z => c13 (e13.mp z)), if_neg (by omega)]
def zat (w : jw) (i : Nat) : jw := jsetI w 48 4 (nI i)
theorem zat_4 (w : jw) (i : Nat) : (zat w i).1 48 4 = nI i := by unfold zat; rw [z_jI1, zup_eq]
theorem zat_s (w : jw) (i j : Nat) : jsetI (zat w i) 48 4 (nI j) = zat w j := by
  unfold zat jsetI
  refine Prod.ext ?_ rfl
  funext p q
  show (if p = 48 ∧ q = 4 then nI j else if p = 48 ∧ q = 4 then nI i else w.1 p q) = if p = 48 ∧ q = 4 then nI j else w.1 p q
  by_cases c : p = 48 ∧ q = 4
  · rw [if_pos c, if_pos c]
  · rw [if_neg c, if_neg c, if_neg c]
theorem zat_e (w : jw) (i : Nat) : zenv (zat w i) = zenv w := by
  funext n
  unfold zenv
  rw [show (zat w i).1 35 4 = w.1 35 4 from by unfold zat; rw [z_jI2 (by decide)], show (zat w i).1 48 5 = w.1 48 5 from by unfold zat; rw [z_jI1, zup_ne (by decide)]]
  rfl
theorem zat_1 (w : jw) (i : Nat) : jsetI (zat w i) 48 4 ((zat w i).1 48 4 + 1) = zat w (i + 1) := by rw [zat_4, nI_1, zat_s]
theorem z_assoc {α β γ : Type} (x : Option (α × jw)) (f : α → jw → Option (β × jw)) (g : β → jw → Option (γ × jw)) : jbd2 (jbd2 x f) g = jbd2 x (fun a b => jbd2 (f a b) g) := by
  cases x with
  | none => rfl
  | some q => rfl
theorem z_jid (x : Option (Int32 × jw)) : jbd2 x (fun z w3 => some (z, w3)) = x := by
  cases x with
  | none => rfl
  | some q => rfl
variable {T : List zT} {w : jw} {i j : Nat} {tot : Int32 → jw → Option (Int32 × jw)}
theorem z_unit_i (h : zTC T w) (hi : i < 1000) (hk : (zt T i).1 = kInt) (a : Int32) : f_X10_unit tot a (zat w i) = some ((zt T i).2.2, zat w (i + 1)) := by
  unfold f_X10_unit
  rw [zat_4, show rat ((zat w i).2.2.2 4) (nI i) = zkC (zt T i).1 from zTC_k h (by omega), show rat ((zat w i).2.2.2 6) (nI i) = (zt T i).2.2 from zTC_v h (by omega), hk, z_jl, if_pos (show zkC kInt = 2 from rfl), z_jl, z_jl, if_neg (show ¬ zkC kInt = 40 by decide), nI_1, zat_s]
theorem z_unit_v (h : zTC T w) (hi : i < 1000) (hk : 8 ≤ (zt T i).1.1 ∧ (zt T i).1.1 ≤ 13) (a : Int32) : f_X10_unit tot a (zat w i) = some (zenv w ((zt T i).1.1 - 8), zat w (i + 1)) := by
  have n2 : ¬ zkC (zt T i).1 = 2 := fun z => by have := zkC_eq.mp (z.trans (show (2 : Int32) = zkC kInt from rfl)); rw [this] at hk; exact absurd hk (by decide)
  have n40 : ¬ zkC (zt T i).1 = 40 := fun z => by have := zkC_eq.mp (z.trans (show (40 : Int32) = zkC kLp from rfl)); rw [this] at hk; exact absurd hk (by decide)
  unfold f_X10_unit
  rw [zat_4, show rat ((zat w i).2.2.2 4) (nI i) = zkC (zt T i).1 from zTC_k h (by omega), z_jl, if_neg n2, z_varC, z_jbd2, z_jl, if_neg n40, if_pos hk, zat_e, zat_4, nI_1, zat_s]
theorem z_unit_p (h : zTC T w) (hi : i < 1000) (hk : (zt T i).1 = kLp) {l : Nat} (hl : l < 6) : f_X10_unit tot (nI l) (zat w i) = jbd2 (tot (nI (l + 1)) (zat w (i + 1))) fun z w3 => some (z, jsetI w3 48 4 (w3.1 48 4 + 1)) := by
  unfold f_X10_unit
  rw [zat_4, show rat ((zat w i).2.2.2 4) (nI i) = zkC (zt T i).1 from zTC_k h (by omega), hk, z_jl, if_neg (show ¬ zkC kLp = 2 by decide), z_varC, z_jbd2, z_jl, if_pos (show zkC kLp = 40 from rfl), if_neg (show ¬ (6 : Int32) ≤ nI l from nI_ge (b := 6) hl (by decide)), zat_4, nI_1, nI_1, zat_s]
  rfl
/-! what is left to do: a row of levels, each with its sum and its product under way -/
abbrev zFm : Type := Nat × List zcd1 × Nat × Nat × List zcd1 × Nat
def zsc (so : Nat) (a y : Int32) : Int32 := if so = 0 then y else zop (nI (so + 1)) a y
def zpc (po : Nat) (a x : Int32) : Int32 := if po = 0 then x else zop (nI (po + 3)) a x
def zscc (so : Nat) (cs c : List zcd1) : List zcd1 := if so = 0 then c else cs ++ c ++ [(nI (so + 1), 0)]
def zpcc (po : Nat) (cp c : List zcd1) : List zcd1 := if po = 0 then c else cp ++ c ++ [(nI (po + 3), 0)]
def zFok (f : zFm) : Prop := f.1 ≤ 2 ∧ (f.1 ≠ 0 → zCd f.2.1) ∧ f.2.2.2.1 ≤ 3 ∧ (f.2.2.2.1 ≠ 0 → zCd f.2.2.2.2.1)
theorem zscc_ok {so : Nat} {cs c : List zcd1} (h1 : so ≤ 2) (h2 : so ≠ 0 → zCd cs) (hc : zCd c) : zCd (zscc so cs c) ∧ ∀ env, zvl env (zscc so cs c) = zsc so (zvl env cs) (zvl env c) := by
  unfold zscc zsc
  by_cases k : so = 0
  · rw [if_pos k]; exact ⟨hc, fun env => by rw [if_pos k]⟩
  · rw [if_neg k]; exact ⟨zCd_op (h2 k) hc (by omega) (by omega), fun env => by rw [if_neg k, zvl_o env (h2 k) hc (by omega) (by omega)]⟩
theorem zpcc_ok {po : Nat} {cp c : List zcd1} (h1 : po ≤ 3) (h2 : po ≠ 0 → zCd cp) (hc : zCd c) : zCd (zpcc po cp c) ∧ ∀ env, zvl env (zpcc po cp c) = zpc po (zvl env cp) (zvl env c) := by
  unfold zpcc zpc
  by_cases k : po = 0
  · rw [if_pos k]; exact ⟨hc, fun env => by rw [if_pos k]⟩
  · rw [if_neg k]; exact ⟨zCd_op (h2 k) hc (by omega) (by omega), fun env => by rw [if_neg k, zvl_o env (h2 k) hc (by omega) (by omega)]⟩
def zkU (env : Nat → Int32) : List zFm → Int32 → jw → Option (Int32 × jw)
  | [], x, w => some (x, w)
  | f :: r, x, w => jbd2 (l_X10_product (f_X10_totalN (7 - r.length)) (jfu - f.2.2.2.2.2) (nI r.length) (zpc f.2.2.2.1 (zvl env f.2.2.2.2.1) x) (nI f.2.2.2.2.2) w) fun y w2 => jbd2 (l_X10_total (f_X10_totalN (7 - r.length)) (jfu - f.2.2.1) (nI r.length) (zsc f.1 (zvl env f.2.1) y) (nI f.2.2.1) w2) fun z w3 => if r.length = 0 then some (z, w3) else zkU env r z (jsetI w3 48 4 (w3.1 48 4 + 1))
theorem zkU_c (env : Nat → Int32) (f : zFm) (r : List zFm) (x : Int32) (w : jw) : zkU env (f :: r) x w = jbd2 (l_X10_product (f_X10_totalN (7 - r.length)) (jfu - f.2.2.2.2.2) (nI r.length) (zpc f.2.2.2.1 (zvl env f.2.2.2.2.1) x) (nI f.2.2.2.2.2) w) fun y w2 => jbd2 (l_X10_total (f_X10_totalN (7 - r.length)) (jfu - f.2.2.1) (nI r.length) (zsc f.1 (zvl env f.2.1) y) (nI f.2.2.1) w2) fun z w3 => if r.length = 0 then some (z, w3) else zkU env r z (jsetI w3 48 4 (w3.1 48 4 + 1)) := rfl
def zF0 : zFm := (0, [], 0, 0, [], 0)
theorem zU_start (h : zTC T w) (i : Nat) : f_X10_total 0 (zat w i) = jbd2 (f_X10_unit (f_X10_totalN 7) (nI 0) (zat w i)) (zkU (zenv w) [zF0]) := by
  show f_X10_totalB (f_X10_totalN 7) 0 (zat w i) = _
  unfold f_X10_totalB f_X10_product
  rw [z_assoc]
  congr 1
  funext x w2
  rw [zkU_c]
  show _ = jbd2 (l_X10_product (f_X10_totalN 7) jfu (nI 0) x (nI 0) w2) fun y w2 => jbd2 (l_X10_total (f_X10_totalN 7) jfu (nI 0) y (nI 0) w2) fun z w3 => some (z, w3)
  congr 1
  funext y w3
  exact (z_jid _).symm
theorem zU_open (h : zTC T w) (hi : i < 1000) (hk : (zt T i).1 = kLp) {r : List zFm} {f : zFm} (hr : r.length < 6) (env : Nat → Int32) : jbd2 (f_X10_unit (f_X10_totalN (7 - r.length)) (nI r.length) (zat w i)) (zkU env (f :: r)) = jbd2 (f_X10_unit (f_X10_totalN (7 - (f :: r).length)) (nI (f :: r).length) (zat w (i + 1))) (zkU env (zF0 :: f :: r)) := by
  rw [z_unit_p h hi hk hr, z_assoc, show 7 - r.length = (7 - (f :: r).length) + 1 by rw [List.length_cons]; omega]
  show jbd2 (f_X10_totalB (f_X10_totalN (7 - (f :: r).length)) (nI (f :: r).length) (zat w (i + 1))) _ = _
  unfold f_X10_totalB f_X10_product
  rw [z_assoc, z_assoc]
  congr 1
theorem zop_4 (a b : Int32) : zop (nI 4) a b = a * b := rfl
theorem zop_2 (a b : Int32) : zop (nI 2) a b = a + b := rfl
theorem zop_3 (a b : Int32) : zop (nI 3) a b = a - b := rfl
theorem zop_5 (a b : Int32) : zop (nI 5) a b = if b = 0 then 0 else a / b := rfl
theorem zop_6 (a b : Int32) : zop (nI 6) a b = if b = 0 then 0 else a - a / b * b := rfl
theorem z_fu {m : Nat} (h : m < 400) : jfu - m = (jfu - (m + 1)) + 1 := by
  show 40000 - m = (40000 - (m + 1)) + 1
  omega
theorem zU_mul (h : zTC T w) (hj : j < 1000) {k : zK} (hk : (zt T j).1 = k) (k1 : 19 ≤ k.1) {so sm po pm : Nat} {cs cp c : List zcd1} {r : List zFm} (env : Nat → Int32) (p1 : po ≤ 3) (p2 : po ≠ 0 → zCd cp) (hc : zCd c) (hp : pm < 400) : zkU env ((so, cs, sm, po, cp, pm) :: r) (zvl env c) (zat w j) = jbd2 (f_X10_unit (f_X10_totalN (7 - r.length)) (nI r.length) (zat w (j + 1))) (zkU env ((so, cs, sm, k.1 - 18, zpcc po cp c, pm + 1) :: r)) := by
  rw [zkU_c]
  show jbd2 (l_X10_product (f_X10_totalN (7 - r.length)) (jfu - pm) (nI r.length) (zpc po (zvl env cp) (zvl env c)) (nI pm) (zat w j)) _ = _
  rw [← (zpcc_ok p1 p2 hc).2 env, z_fu hp]
  unfold l_X10_product
  rw [if_neg (show ¬ (400 : Int32) ≤ nI pm from nI_ge (b := 400) hp (by decide)), zat_4, show rat ((zat w j).2.2.2 4) (nI j) = zkC (zt T j).1 from zTC_k h (by omega), hk, z_jl, nI_1, zat_s, nI_1]
  have e : k = 19 ∨ k = 20 ∨ k = 21 := by
    revert k1; revert k; intro k _ k1
    have : k.1 = 19 ∨ k.1 = 20 ∨ k.1 = 21 := by omega
    rcases this with z | z | z
    · exact Or.inl (Fin.ext z)
    · exact Or.inr (Or.inl (Fin.ext z))
    · exact Or.inr (Or.inr (Fin.ext z))
  rcases e with z | z | z
  · subst z
    rw [if_pos (show zkC 19 = 42 from rfl), z_jl, z_assoc]
    congr 1
  · subst z
    rw [if_neg (show ¬ zkC 20 = 42 by decide), if_pos (show zkC 20 = 47 from rfl), z_jl, z_assoc]
    congr 1
    funext x w2
    rw [if_neg (show ¬ zkC 20 = 42 by decide), if_pos (show zkC 20 = 47 from rfl), zkU_c]
    show _ = jbd2 (l_X10_product (f_X10_totalN (7 - r.length)) (jfu - (pm + 1)) (nI r.length) (zop (nI 5) (zvl env (zpcc po cp c)) x) (nI (pm + 1)) w2) _
    rw [zop_5]
    by_cases d : x = 0
    · rw [if_pos d, if_pos d, z_jl]
    · rw [if_neg d, if_neg d, z_jg (decide_eq_true d), z_jl, z_jl]
  · subst z
    rw [if_neg (show ¬ zkC 21 = 42 by decide), if_neg (show ¬ zkC 21 = 47 by decide), if_pos (show zkC 21 = 37 from rfl), z_jl, z_assoc]
    congr 1
    funext x w2
    rw [if_neg (show ¬ zkC 21 = 42 by decide), if_neg (show ¬ zkC 21 = 47 by decide), zkU_c]
    show _ = jbd2 (l_X10_product (f_X10_totalN (7 - r.length)) (jfu - (pm + 1)) (nI r.length) (zop (nI 6) (zvl env (zpcc po cp c)) x) (nI (pm + 1)) w2) _
    rw [zop_6]
    by_cases d : x = 0
    · rw [if_pos d, if_pos d, z_jl]
    · rw [if_neg d, if_neg d, z_jg (decide_eq_true d), z_jl, z_jl]
/-- a product stops where no sign of its own stands -/
theorem z_prs (h : zTC T w) (hj : j < 1000) (hk : (zt T j).1.1 < 19) {a v : Int32} {m : Nat} (hm : m < 400) : l_X10_product tot (jfu - m) a v (nI m) (zat w j) = some (v, zat w j) := by
  have hn : ∀ b : zK, 19 ≤ b.1 → ¬ zkC (zt T j).1 = zkC b := fun b hb z => by have := zkC_eq.mp z; rw [this] at hk; omega
  rw [z_fu hm]
  unfold l_X10_product
  rw [if_neg (show ¬ (400 : Int32) ≤ nI m from nI_ge (b := 400) hm (by decide)), zat_4, show rat ((zat w j).2.2.2 4) (nI j) = zkC (zt T j).1 from zTC_k h (by omega), z_jl, if_neg (show ¬ zkC _ = 42 from hn 19 (by decide)), if_neg (show ¬ zkC _ = 47 from hn 20 (by decide)), if_neg (show ¬ zkC _ = 37 from hn 21 (by decide))]
theorem z_tos (h : zTC T w) (hj : j < 1000) (hk : (zt T j).1.1 < 17) {a v : Int32} {m : Nat} (hm : m < 400) : l_X10_total tot (jfu - m) a v (nI m) (zat w j) = some (v, zat w j) := by
  have hn : ∀ b : zK, 17 ≤ b.1 → ¬ zkC (zt T j).1 = zkC b := fun b hb z => by have := zkC_eq.mp z; rw [this] at hk; omega
  rw [z_fu hm]
  unfold l_X10_total
  rw [if_neg (show ¬ (400 : Int32) ≤ nI m from nI_ge (b := 400) hm (by decide)), zat_4, show rat ((zat w j).2.2.2 4) (nI j) = zkC (zt T j).1 from zTC_k h (by omega), z_jl, if_neg (show ¬ zkC _ = 43 from hn 17 (by decide)), if_neg (show ¬ zkC _ = 45 from hn 18 (by decide))]
theorem zU_add (h : zTC T w) (hj : j < 1000) {k : zK} (hk : (zt T j).1 = k) (k1 : k = 17 ∨ k = 18) {so sm po pm : Nat} {cs cp c : List zcd1} {r : List zFm} (env : Nat → Int32) (s1 : so ≤ 2) (s2 : so ≠ 0 → zCd cs) (p1 : po ≤ 3) (p2 : po ≠ 0 → zCd cp) (hc : zCd c) (hp : pm < 400) (hs : sm < 400) : zkU env ((so, cs, sm, po, cp, pm) :: r) (zvl env c) (zat w j) = jbd2 (f_X10_unit (f_X10_totalN (7 - r.length)) (nI r.length) (zat w (j + 1))) (zkU env ((k.1 - 16, zscc so cs (zpcc po cp c), sm + 1, 0, [], 0) :: r)) := by
  have hcp := zpcc_ok p1 p2 hc
  rw [zkU_c]
  show jbd2 (l_X10_product (f_X10_totalN (7 - r.length)) (jfu - pm) (nI r.length) (zpc po (zvl env cp) (zvl env c)) (nI pm) (zat w j)) _ = _
  rw [← hcp.2 env, z_prs h hj (by rw [hk]; rcases k1 with z | z <;> rw [z] <;> decide) hp, z_jbd2]
  show jbd2 (l_X10_total (f_X10_totalN (7 - r.length)) (jfu - sm) (nI r.length) (zsc so (zvl env cs) (zvl env (zpcc po cp c))) (nI sm) (zat w j)) _ = _
  rw [← (zscc_ok s1 s2 hcp.1).2 env, z_fu hs]
  unfold l_X10_total
  rw [if_neg (show ¬ (400 : Int32) ≤ nI sm from nI_ge (b := 400) hs (by decide)), zat_4, show rat ((zat w j).2.2.2 4) (nI j) = zkC (zt T j).1 from zTC_k h (by omega), hk, z_jl, nI_1, zat_s, nI_1]
  rcases k1 with z | z
  · subst z
    rw [if_pos (show zkC 17 = 43 from rfl), z_jl, z_assoc]
    unfold f_X10_product
    rw [z_assoc]
    congr 1
  · subst z
    rw [if_neg (show ¬ zkC 18 = 43 by decide), if_pos (show zkC 18 = 45 from rfl), z_jl, z_assoc]
    unfold f_X10_product
    rw [z_assoc]
    congr 1
theorem zU_end (h : zTC T w) (hj : j < 1000) (hk : (zt T j).1.1 < 17) {so sm po pm : Nat} {cs cp c : List zcd1} {r : List zFm} (env : Nat → Int32) (s1 : so ≤ 2) (s2 : so ≠ 0 → zCd cs) (p1 : po ≤ 3) (p2 : po ≠ 0 → zCd cp) (hc : zCd c) (hp : pm < 400) (hs : sm < 400) : zkU env ((so, cs, sm, po, cp, pm) :: r) (zvl env c) (zat w j) = if r.length = 0 then some (zvl env (zscc so cs (zpcc po cp c)), zat w j) else zkU env r (zvl env (zscc so cs (zpcc po cp c))) (zat w (j + 1)) := by
  have hcp := zpcc_ok p1 p2 hc
  rw [zkU_c]
  show jbd2 (l_X10_product (f_X10_totalN (7 - r.length)) (jfu - pm) (nI r.length) (zpc po (zvl env cp) (zvl env c)) (nI pm) (zat w j)) _ = _
  rw [← hcp.2 env, z_prs h hj (by omega) hp, z_jbd2]
  show jbd2 (l_X10_total (f_X10_totalN (7 - r.length)) (jfu - sm) (nI r.length) (zsc so (zvl env cs) (zvl env (zpcc po cp c))) (nI sm) (zat w j)) _ = _
  rw [← (zscc_ok s1 s2 hcp.1).2 env, z_tos h hj hk hs, z_jbd2, zat_1]
end
