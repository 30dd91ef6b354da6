section
/-! a text's tells: their build -/
abbrev zPrg : Type := (Nat → Nat) × (Nat → Nat) × (Nat → Nat) × (Nat → Nat) × (Nat → Nat) × (Nat → Int32) × (Nat → List zcd1) × (Nat → List zcd1) × (Nat → Nat) × (Nat → Bool)
/-- sort, place, the do about it (and one), mate, depth, rounds, codes, where they begin, whether rounds act -/
abbrev qso (P : zPrg) : Nat → Nat := P.1
abbrev qps (P : zPrg) : Nat → Nat := P.2.1
abbrev qpa (P : zPrg) : Nat → Nat := P.2.2.1
abbrev qmt (P : zPrg) : Nat → Nat := P.2.2.2.1
abbrev qdp (P : zPrg) : Nat → Nat := P.2.2.2.2.1
abbrev qvv (P : zPrg) : Nat → Int32 := P.2.2.2.2.2.1
abbrev qc1 (P : zPrg) : Nat → List zcd1 := P.2.2.2.2.2.2.1
abbrev qc2 (P : zPrg) : Nat → List zcd1 := P.2.2.2.2.2.2.2.1
abbrev qcf (P : zPrg) : Nat → Nat := P.2.2.2.2.2.2.2.2.1
abbrev qac (P : zPrg) : Nat → Bool := P.2.2.2.2.2.2.2.2.2
def zTa (T : List zT) (P : zPrg) (p : Nat) : Prop := qso P p ≤ 1 ∧ (zt T (qps P p)).1 = (if qso P p = 0 then kPut else kCut) ∧ (∃ j1 j2, zEx T (qps P p + 1) j1 (qc1 P p) ∧ ((qso P p = 0 ∧ zEx T j1 j2 (qc2 P p)) ∨ (qso P p = 1 ∧ qc2 P p = [] ∧ j2 = j1)) ∧ qps P (p + 1) = j2 + 1) ∧ qpa P (p + 1) = qpa P p ∧ qdp P (p + 1) = qdp P p
def zTd (T : List zT) (P : zPrg) (p : Nat) : Prop := qso P p = 2 ∧ (zt T (qps P p)).1 = kDo ∧ (zt T (qps P p + 1)).2.2 = qvv P p ∧ qps P (p + 1) = qps P p + 3 ∧ qpa P (p + 1) = p + 1 ∧ qdp P (p + 1) = qdp P p + 1 ∧ qdp P p ≤ 2
def zTe (T : List zT) (P : zPrg) (p : Nat) : Prop := qso P p = 3 ∧ (zt T (qps P p)).1 = kEn ∧ qps P (p + 1) = qps P p + 2 ∧ qmt P p < p ∧ qpa P p = qmt P p + 1 ∧ qso P (qmt P p) = 2 ∧ qmt P (qmt P p) = p ∧ qpa P (p + 1) = qpa P (qmt P p) ∧ qdp P p = qdp P (qmt P p) + 1 ∧ qdp P (p + 1) = qdp P (qmt P p)
def zStk (P : zPrg) : Nat → List Nat → Prop
  | n, [] => qpa P n = 0 ∧ qdp P n = 0
  | n, x :: s => qpa P n = x + 1 ∧ x < n ∧ qso P x = 2 ∧ qdp P n = qdp P x + 1 ∧ zStk P x s
def zAc (P : zPrg) (stk : List Nat) (n p : Nat) : Prop := ∃ q, q < n ∧ qpa P q = p + 1 ∧ (qso P q ≤ 1 ∨ (qso P q = 2 ∧ q ∉ stk ∧ qac P q = true))
def zPg (T : List zT) (n : Nat) (P : zPrg) (stk : List Nat) : Prop :=
  (∀ p, p < n → zTa T P p ∨ zTd T P p ∨ (zTe T P p ∧ qmt P p ∉ stk)) ∧
  (∀ p, p < n → qso P p = 2 → p ∉ stk → p < qmt P p ∧ qmt P p < n ∧ qso P (qmt P p) = 3 ∧ qmt P (qmt P p) = p) ∧
  (∀ p, p < n → qso P p = 2 → p ∈ stk → ∀ q, p < q → q ≤ n → p + 1 ≤ qpa P q) ∧
  (∀ p, p < n → qso P p = 2 → p ∉ stk → (∀ q, p < q → q ≤ qmt P p → p + 1 ≤ qpa P q) ∧ ∀ q, q ≤ n → qpa P q = p + 1 → q ≤ qmt P p) ∧
  (∀ p, p < n → qso P p = 2 → p ∈ stk → (qac P p = true ↔ zAc P stk n p)) ∧
  (∀ p, p < n → qso P p = 2 → p ∉ stk → (qac P p = true → qvv P p ≠ 0 ∧ zAc P stk n p) ∧ (qac P p = false → qvv P p ≠ 0 → ¬ zAc P stk n p)) ∧
  zStk P n stk ∧ (∀ q, q ≤ n → qpa P q ≤ q) ∧ qdp P 0 = 0
theorem zStk_lt {P : zPrg} : ∀ {stk : List Nat} {n : Nat}, zStk P n stk → ∀ x ∈ stk, x < n ∧ qso P x = 2 := by
  intro stk
  induction stk with
  | nil => intro n _ x hx; cases hx
  | cons y s ih =>
    intro n h x hx
    rcases List.mem_cons.mp hx with z | z
    · rw [z]; exact ⟨h.2.1, h.2.2.1⟩
    · have := ih h.2.2.2.2 x z
      have := h.2.1
      omega
theorem zStk_cg {P P' : zPrg} : ∀ {stk : List Nat} {n : Nat}, zStk P n stk → (∀ x, x ≤ n → qpa P' x = qpa P x ∧ qdp P' x = qdp P x) → (∀ x, x < n → qso P' x = qso P x) → zStk P' n stk := by
  intro stk
  induction stk with
  | nil => intro n h h1 _; exact ⟨by rw [(h1 n (Nat.le_refl _)).1]; exact h.1, by rw [(h1 n (Nat.le_refl _)).2]; exact h.2⟩
  | cons y s ih =>
    intro n h h1 h2
    have yn := h.2.1
    refine ⟨by rw [(h1 n (Nat.le_refl _)).1]; exact h.1, yn, by rw [h2 y yn]; exact h.2.2.1, ?_, ih h.2.2.2.2 (fun x hx => h1 x (by omega)) (fun x hx => h2 x (by omega))⟩
    rw [(h1 n (Nat.le_refl _)).2, (h1 y (by omega)).2]
    exact h.2.2.2.1
theorem zStk_mv {P : zPrg} {n m : Nat} {stk : List Nat} (h : zStk P n stk) (h1 : qpa P m = qpa P n) (h2 : qdp P m = qdp P n) (hm : n ≤ m) : zStk P m stk := by
  cases stk with
  | nil => exact ⟨by rw [h1]; exact h.1, by rw [h2]; exact h.2⟩
  | cons x s => exact ⟨by rw [h1]; exact h.1, by have := h.2.1; omega, h.2.2.1, by rw [h2]; exact h.2.2.2.1, h.2.2.2.2⟩
theorem zStk_pa {P : zPrg} {n : Nat} {stk : List Nat} (h : zStk P n stk) : (stk = [] ∧ qpa P n = 0) ∨ ∃ x s, stk = x :: s ∧ qpa P n = x + 1 := by
  cases stk with
  | nil => exact Or.inl ⟨rfl, h.1⟩
  | cons x s => exact Or.inr ⟨x, s, rfl, h.1⟩
theorem zStk_dp {P : zPrg} : ∀ {stk : List Nat} {n : Nat}, zStk P n stk → qdp P n = stk.length := by
  intro stk
  induction stk with
  | nil => intro n h; exact h.2
  | cons x s ih => intro n h; rw [h.2.2.2.1, ih h.2.2.2.2, List.length_cons]
/-- what was told before stays as it was -/
def zKeep (n : Nat) (P P' : zPrg) : Prop := (∀ q, q < n → qso P' q = qso P q) ∧ (∀ q, q ≤ n → qps P' q = qps P q ∧ qpa P' q = qpa P q ∧ qdp P' q = qdp P q) ∧ (∀ q, q < n → qvv P' q = qvv P q ∧ qc1 P' q = qc1 P q ∧ qc2 P' q = qc2 P q ∧ qcf P' q = qcf P q)
theorem zTa_k {T : List zT} {n p : Nat} {P P' : zPrg} (k : zKeep n P P') (hp : p < n) (h : zTa T P p) : zTa T P' p := by
  obtain ⟨k1, k2, k3⟩ := k
  unfold zTa
  rw [k1 p hp, (k2 p (by omega)).1, (k2 (p + 1) (by omega)).1, (k2 p (by omega)).2.1, (k2 (p + 1) (by omega)).2.1, (k2 p (by omega)).2.2, (k2 (p + 1) (by omega)).2.2, (k3 p hp).2.1, (k3 p hp).2.2.1]
  exact h
theorem zTd_k {T : List zT} {n p : Nat} {P P' : zPrg} (k : zKeep n P P') (hp : p < n) (h : zTd T P p) : zTd T P' p := by
  obtain ⟨k1, k2, k3⟩ := k
  unfold zTd
  rw [k1 p hp, (k2 p (by omega)).1, (k2 (p + 1) (by omega)).1, (k2 (p + 1) (by omega)).2.1, (k2 p (by omega)).2.2, (k2 (p + 1) (by omega)).2.2, (k3 p hp).1]
  exact h
theorem zTe_k {T : List zT} {n p : Nat} {P P' : zPrg} (k : zKeep n P P') (hp : p < n) (hm : qmt P' p = qmt P p ∧ qmt P' (qmt P p) = qmt P (qmt P p)) (h : zTe T P p) : zTe T P' p := by
  obtain ⟨k1, k2, k3⟩ := k
  have ml := h.2.2.2.1
  unfold zTe
  rw [hm.1, hm.2, k1 p hp, k1 _ (show qmt P p < n by omega), (k2 p (by omega)).1, (k2 (p + 1) (by omega)).1, (k2 p (by omega)).2.1, (k2 (p + 1) (by omega)).2.1, (k2 (qmt P p) (by omega)).2.1, (k2 p (by omega)).2.2, (k2 (p + 1) (by omega)).2.2, (k2 (qmt P p) (by omega)).2.2]
  exact h
/-- a put or a cut more -/
theorem zPg_act {T : List zT} {n : Nat} {P P' : zPrg} {stk : List Nat} (h : zPg T n P stk) (k : zKeep n P P') (hm : ∀ q, qmt P' q = qmt P q) (ha : ∀ q, q < n → qac P' q = if qpa P n = q + 1 then true else qac P q) (hn : zTa T P' n) : zPg T (n + 1) P' stk := by
  obtain ⟨h1, h2, h3, h4, h5, h6, h7, h8, h9⟩ := h
  obtain ⟨n1, n2, n3, n4, n5⟩ := hn
  have kp : ∀ q, q ≤ n → qpa P' q = qpa P q := fun q hq => (k.2.1 q hq).2.1
  have ks : ∀ q, q < n → qso P' q = qso P q := k.1
  have pn : qpa P' (n + 1) = qpa P n := by rw [n4, kp n (Nat.le_refl _)]
  have sl := zStk_lt h7
  have nso : ¬ qso P' n = 2 := by omega
  have acs : ∀ q, q < n → q ∉ stk → qso P q = 2 → qac P' q = qac P q := fun q hq hs h2q => by
    rw [ha q hq]
    by_cases c : qpa P n = q + 1
    · exfalso
      rcases zStk_pa h7 with ⟨_, z⟩ | ⟨x, s, z1, z2⟩
      · omega
      · have : q = x := by omega
        exact hs (by rw [this, z1]; exact List.mem_cons_self)
    · rw [if_neg c]
  have acm : ∀ p, p < n → (zAc P' stk (n + 1) p ↔ zAc P stk n p ∨ qpa P n = p + 1) := fun p hp => by
    constructor
    · rintro ⟨q, q1, q2, q3⟩
      by_cases c : q = n
      · rw [c, kp n (Nat.le_refl _)] at q2; exact Or.inr q2
      · refine Or.inl ⟨q, by omega, by rw [← kp q (by omega)]; exact q2, ?_⟩
        rw [ks q (by omega)] at q3
        rcases q3 with z | ⟨z1, z2, z3⟩
        · exact Or.inl z
        · exact Or.inr ⟨z1, z2, by rw [← acs q (by omega) z2 z1]; exact z3⟩
    · rintro (⟨q, q1, q2, q3⟩ | z)
      · refine ⟨q, by omega, by rw [kp q (by omega)]; exact q2, ?_⟩
        rw [ks q q1]
        rcases q3 with z | ⟨z1, z2, z3⟩
        · exact Or.inl z
        · exact Or.inr ⟨z1, z2, by rw [acs q q1 z2 z1]; exact z3⟩
      · exact ⟨n, by omega, by rw [kp n (Nat.le_refl _)]; exact z, Or.inl n1⟩
  refine ⟨fun p hp => ?_, fun p hp s2 ns => ?_, fun p hp s2 hs q q1 q2 => ?_, fun p hp s2 ns => ⟨fun q q1 q2 => ?_, fun q q1 q2 => ?_⟩, fun p hp s2 hs => ?_, fun p hp s2 ns => ?_, ?_, fun q hq => ?_, by rw [(k.2.1 0 (Nat.zero_le _)).2.2]; exact h9⟩
  · by_cases c : p = n
    · rw [c]; exact Or.inl ⟨n1, n2, n3, n4, n5⟩
    · rcases h1 p (by omega) with z | z | ⟨z, z'⟩
      · exact Or.inl (zTa_k k (by omega) z)
      · exact Or.inr (Or.inl (zTd_k k (by omega) z))
      · exact Or.inr (Or.inr ⟨zTe_k k (by omega) ⟨hm p, hm _⟩ z, by rw [hm p]; exact z'⟩)
  · by_cases c : p = n
    · rw [c] at s2; exact absurd s2 nso
    · rw [ks p (by omega)] at s2
      obtain ⟨a1, a2, a3, a4⟩ := h2 p (by omega) s2 ns
      rw [hm p, hm, ks _ a2]
      exact ⟨a1, by omega, a3, a4⟩
  · by_cases c : p = n
    · rw [c] at s2; exact absurd s2 nso
    · rw [ks p (by omega)] at s2
      by_cases d : q = n + 1
      · rw [d, pn]; exact h3 p (by omega) s2 hs n (by omega) (Nat.le_refl _)
      · rw [kp q (by omega)]; exact h3 p (by omega) s2 hs q q1 (by omega)
  · by_cases c : p = n
    · rw [c] at s2; exact absurd s2 nso
    · rw [ks p (by omega)] at s2
      have := (h2 p (by omega) s2 ns).2.1
      rw [hm p] at q2
      rw [kp q (by omega)]
      exact (h4 p (by omega) s2 ns).1 q q1 q2
  · by_cases c : p = n
    · rw [c] at s2; exact absurd s2 nso
    · rw [ks p (by omega)] at s2
      rw [hm p]
      by_cases d : q = n + 1
      · rw [d, pn] at q2
        exfalso
        rcases zStk_pa h7 with ⟨_, z⟩ | ⟨x, s, z1, z2⟩
        · omega
        · have : p = x := by omega
          exact ns (by rw [this, z1]; exact List.mem_cons_self)
      · rw [kp q (by omega)] at q2
        exact (h4 p (by omega) s2 ns).2 q (by omega) q2
  · by_cases c : p = n
    · rw [c] at s2; exact absurd s2 nso
    · rw [ks p (by omega)] at s2
      rw [ha p (by omega), acm p (by omega)]
      by_cases d : qpa P n = p + 1
      · rw [if_pos d]; exact ⟨fun _ => Or.inr d, fun _ => rfl⟩
      · rw [if_neg d, h5 p (by omega) s2 hs]
        exact ⟨Or.inl, fun z => z.resolve_right d⟩
  · by_cases c : p = n
    · rw [c] at s2; exact absurd s2 nso
    · rw [ks p (by omega)] at s2
      have hp' : p < n := by omega
      have nd : ¬ qpa P n = p + 1 := fun z => by
        rcases zStk_pa h7 with ⟨_, z'⟩ | ⟨x, s, z1, z2⟩
        · omega
        · have : p = x := by omega
          exact ns (by rw [this, z1]; exact List.mem_cons_self)
      rw [acs p hp' ns s2, (k.2.2 p hp').1, acm p hp']
      obtain ⟨a1, a2⟩ := h6 p hp' s2 ns
      exact ⟨fun z => ⟨(a1 z).1, Or.inl (a1 z).2⟩, fun z z2 z3 => a2 z z2 (z3.resolve_right nd)⟩
  · refine zStk_mv (n := n) (zStk_cg h7 (fun x hx => ⟨kp x hx, (k.2.1 x hx).2.2⟩) ks) (by rw [pn, kp n (Nat.le_refl _)]) ?_ (by omega)
    rw [n5]
  · by_cases d : q = n + 1
    · rw [d, pn]; have := h8 n (Nat.le_refl _); omega
    · rw [kp q (by omega)]; exact h8 q (by omega)
/-- a do more -/
theorem zPg_do {T : List zT} {n : Nat} {P P' : zPrg} {stk : List Nat} (h : zPg T n P stk) (k : zKeep n P P') (hm : ∀ q, qmt P' q = qmt P q) (ha : ∀ q, q < n → qac P' q = qac P q) (ha2 : qac P' n = false) (hn : zTd T P' n) : zPg T (n + 1) P' (n :: stk) := by
  obtain ⟨h1, h2, h3, h4, h5, h6, h7, h8, h9⟩ := h
  have hn' := hn
  obtain ⟨n1, n2, n3, n4, n5, n6, n7⟩ := hn
  have kp : ∀ q, q ≤ n → qpa P' q = qpa P q := fun q hq => (k.2.1 q hq).2.1
  have ks : ∀ q, q < n → qso P' q = qso P q := k.1
  have sl := zStk_lt h7
  have mem : ∀ p, p < n → (p ∈ n :: stk ↔ p ∈ stk) := fun p hp => ⟨fun z => (List.mem_cons.mp z).resolve_left (by omega), fun z => List.mem_cons_of_mem _ z⟩
  have acm : ∀ p, p < n → (zAc P' (n :: stk) (n + 1) p ↔ zAc P stk n p) := fun p hp => by
    constructor
    · rintro ⟨q, q1, q2, q3⟩
      by_cases c : q = n
      · exfalso
        rw [c] at q3
        rcases q3 with z | ⟨z1, z2, z3⟩
        · omega
        · exact z2 List.mem_cons_self
      · refine ⟨q, by omega, by rw [← kp q (by omega)]; exact q2, ?_⟩
        rw [ks q (by omega), ha q (by omega)] at q3
        rcases q3 with z | ⟨z1, z2, z3⟩
        · exact Or.inl z
        · exact Or.inr ⟨z1, fun y => z2 ((mem q (by omega)).mpr y), z3⟩
    · rintro ⟨q, q1, q2, q3⟩
      refine ⟨q, by omega, by rw [kp q (by omega)]; exact q2, ?_⟩
      rw [ks q q1, ha q q1]
      rcases q3 with z | ⟨z1, z2, z3⟩
      · exact Or.inl z
      · exact Or.inr ⟨z1, fun y => z2 ((mem q q1).mp y), z3⟩
  refine ⟨fun p hp => ?_, fun p hp s2 ns => ?_, fun p hp s2 hs q q1 q2 => ?_, fun p hp s2 ns => ⟨fun q q1 q2 => ?_, fun q q1 q2 => ?_⟩, fun p hp s2 hs => ?_, fun p hp s2 ns => ?_, ?_, fun q hq => ?_, by rw [(k.2.1 0 (Nat.zero_le _)).2.2]; exact h9⟩
  · by_cases c : p = n
    · rw [c]; exact Or.inr (Or.inl hn')
    · rcases h1 p (by omega) with z | z | ⟨z, z'⟩
      · exact Or.inl (zTa_k k (by omega) z)
      · exact Or.inr (Or.inl (zTd_k k (by omega) z))
      · refine Or.inr (Or.inr ⟨zTe_k k (by omega) ⟨hm p, hm _⟩ z, ?_⟩)
        have := z.2.2.2.1
        rw [hm p, mem _ (by omega)]
        exact z'
  · by_cases c : p = n
    · rw [c] at ns; exact absurd List.mem_cons_self ns
    · rw [ks p (by omega)] at s2
      obtain ⟨a1, a2, a3, a4⟩ := h2 p (by omega) s2 (fun z => ns ((mem p (by omega)).mpr z))
      rw [hm p, hm, ks _ a2]
      exact ⟨a1, by omega, a3, a4⟩
  · by_cases c : p = n
    · have : q = n + 1 := by omega
      rw [this, n5, c]; exact Nat.le_refl _
    · rw [ks p (by omega)] at s2
      have hs' := (mem p (by omega)).mp hs
      by_cases d : q = n + 1
      · rw [d, n5]; omega
      · rw [kp q (by omega)]; exact h3 p (by omega) s2 hs' q q1 (by omega)
  · by_cases c : p = n
    · rw [c] at ns; exact absurd List.mem_cons_self ns
    · rw [ks p (by omega)] at s2
      have ns' : p ∉ stk := fun z => ns ((mem p (by omega)).mpr z)
      have := (h2 p (by omega) s2 ns').2.1
      rw [hm p] at q2
      rw [kp q (by omega)]
      exact (h4 p (by omega) s2 ns').1 q q1 q2
  · by_cases c : p = n
    · rw [c] at ns; exact absurd List.mem_cons_self ns
    · rw [ks p (by omega)] at s2
      have ns' : p ∉ stk := fun z => ns ((mem p (by omega)).mpr z)
      rw [hm p]
      by_cases d : q = n + 1
      · rw [d, n5] at q2; omega
      · rw [kp q (by omega)] at q2
        exact (h4 p (by omega) s2 ns').2 q (by omega) q2
  · by_cases c : p = n
    · rw [c, ha2]
      refine ⟨fun z => absurd z (by decide), fun ⟨q, q1, q2, q3⟩ => ?_⟩
      exfalso
      rw [kp q (by omega)] at q2
      have := h8 q (by omega)
      omega
    · rw [ks p (by omega)] at s2
      rw [ha p (by omega), acm p (by omega)]
      exact h5 p (by omega) s2 ((mem p (by omega)).mp hs)
  · by_cases c : p = n
    · rw [c] at ns; exact absurd List.mem_cons_self ns
    · rw [ks p (by omega)] at s2
      have hp' : p < n := by omega
      rw [ha p hp', (k.2.2 p hp').1, acm p hp']
      exact h6 p hp' s2 (fun z => ns ((mem p hp').mpr z))
  · exact ⟨n5, by omega, n1, n6, zStk_cg h7 (fun x hx => ⟨kp x hx, (k.2.1 x hx).2.2⟩) ks⟩
  · by_cases d : q = n + 1
    · rw [d, n5]; exact Nat.le_refl _
    · rw [kp q (by omega)]; exact h8 q (by omega)
end
