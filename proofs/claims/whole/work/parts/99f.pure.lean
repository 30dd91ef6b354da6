section
/-- an end more -/
theorem zPg_end {T : List zT} {n x : Nat} {P P' : zPrg} {s : List Nat} (h : zPg T n P (x :: s)) (k : zKeep n P P') (hm : ∀ q, q ≠ x → q ≠ n → qmt P' q = qmt P q) (hm1 : qmt P' n = x) (hm2 : qmt P' x = n) (ha : ∀ q, q < n → qac P' q = if q = x then (if qvv P x = 0 then false else qac P x) else if qvv P x ≠ 0 ∧ qac P x = true ∧ qpa P x = q + 1 then true else qac P q) (e1 : qso P' n = 3) (e2 : (zt T (qps P' n)).1 = kEn) (e3 : qps P' (n + 1) = qps P' n + 2) (e4 : qpa P' (n + 1) = qpa P' x) (e5 : qdp P' (n + 1) = qdp P' x) : zPg T (n + 1) P' s := by
  obtain ⟨h1, h2, h3, h4, h5, h6, h7, h8, h9⟩ := h
  have kp : ∀ q, q ≤ n → qpa P' q = qpa P q := fun q hq => (k.2.1 q hq).2.1
  have ks : ∀ q, q < n → qso P' q = qso P q := k.1
  obtain ⟨t1, t2, t3, t4, t5⟩ := h7
  have sx : ∀ y ∈ s, y < x := fun y hy => (zStk_lt t5 y hy).1
  have xs : x ∉ s := fun z => by have := sx x z; omega
  have xm : x ∈ x :: s := List.mem_cons_self
  have pax : qpa P x ≤ x := h8 x (by omega)
  have pn : qpa P' (n + 1) = qpa P x := by rw [e4, kp x (by omega)]
  have par : ∀ p, qpa P x = p + 1 → p ∈ s := fun p hp => by
    rcases zStk_pa t5 with ⟨_, z⟩ | ⟨y, s', z1, z2⟩
    · omega
    · have : p = y := by omega
      rw [this, z1]; exact List.mem_cons_self
  have cl : ∀ p, p ∉ s → p ≠ x → p ∉ x :: s := fun p h1 h2 z => (List.mem_cons.mp z).elim h2 h1
  have acs : ∀ q, q < n → q ∉ s → q ≠ x → qac P' q = qac P q := fun q hq hs nx => by
    rw [ha q hq, if_neg nx, if_neg (fun z => hs (par q z.2.2))]
  have acx : qac P' x = if qvv P x = 0 then false else qac P x := by rw [ha x t2, if_pos rfl]
  have acm : ∀ p, p < n → (zAc P' s (n + 1) p ↔ zAc P (x :: s) n p ∨ (qpa P x = p + 1 ∧ qac P' x = true)) := fun p hp => by
    constructor
    · rintro ⟨q, q1, q2, q3⟩
      by_cases c : q = n
      · exfalso
        rw [c] at q3
        rcases q3 with z | ⟨z1, z2, z3⟩ <;> omega
      · rw [kp q (by omega)] at q2
        by_cases d : q = x
        · rw [d] at q2 q3
          rcases q3 with z | ⟨z1, z2, z3⟩
          · rw [ks x t2] at z; omega
          · exact Or.inr ⟨q2, z3⟩
        · refine Or.inl ⟨q, by omega, q2, ?_⟩
          rw [ks q (by omega)] at q3
          rcases q3 with z | ⟨z1, z2, z3⟩
          · exact Or.inl z
          · exact Or.inr ⟨z1, cl q z2 d, by rw [← acs q (by omega) z2 d]; exact z3⟩
    · rintro (⟨q, q1, q2, q3⟩ | ⟨z1, z2⟩)
      · refine ⟨q, by omega, by rw [kp q (by omega)]; exact q2, ?_⟩
        rw [ks q q1]
        rcases q3 with z | ⟨z1, z2, z3⟩
        · exact Or.inl z
        · have z4 : q ∉ s := fun y => z2 (List.mem_cons_of_mem _ y)
          have z5 : q ≠ x := fun y => z2 (by rw [y]; exact xm)
          exact Or.inr ⟨z1, z4, by rw [acs q q1 z4 z5]; exact z3⟩
      · exact ⟨x, by omega, by rw [kp x (by omega)]; exact z1, Or.inr ⟨by rw [ks x t2]; exact t3, xs, z2⟩⟩
  have nso : ¬ qso P' n = 2 := by omega
  refine ⟨fun p hp => ?_, fun p hp s2 ns => ?_, fun p hp s2 hs q q1 q2 => ?_, fun p hp s2 ns => ⟨fun q q1 q2 => ?_, fun q q1 q2 => ?_⟩, fun p hp s2 hs => ?_, fun p hp s2 ns => ?_, ?_, fun q hq => ?_, by rw [(k.2.1 0 (Nat.zero_le _)).2.2]; exact h9⟩
  · by_cases c : p = n
    · rw [c]
      refine Or.inr (Or.inr ⟨⟨e1, e2, e3, by rw [hm1]; exact t2, by rw [hm1, kp n (Nat.le_refl _)]; exact t1, by rw [hm1, ks x t2]; exact t3, by rw [hm1, hm2], by rw [hm1]; exact e4, ?_, by rw [hm1]; exact e5⟩, by rw [hm1]; exact xs⟩)
      rw [hm1, (k.2.1 n (Nat.le_refl _)).2.2, (k.2.1 x (by omega)).2.2]
      exact t4
    · rcases h1 p (by omega) with z | z | ⟨z, z'⟩
      · exact Or.inl (zTa_k k (by omega) z)
      · exact Or.inr (Or.inl (zTd_k k (by omega) z))
      · have z1 : p ≠ x := fun y => by have := z.1; rw [y, t3] at this; omega
        have z2 : qmt P p ≠ x := fun y => z' (by rw [y]; exact xm)
        have z3 := z.2.2.2.1
        refine Or.inr (Or.inr ⟨zTe_k k (by omega) ⟨hm p z1 c, hm _ z2 (by omega)⟩ z, ?_⟩)
        rw [hm p z1 c]
        exact fun y => z' (List.mem_cons_of_mem _ y)
  · by_cases c : p = n
    · rw [c] at s2; exact absurd s2 nso
    · by_cases d : p = x
      · rw [d, hm2, hm1, e1]
        exact ⟨t2, by omega, rfl, rfl⟩
      · rw [ks p (by omega)] at s2
        obtain ⟨a1, a2, a3, a4⟩ := h2 p (by omega) s2 (cl p ns d)
        have a5 : qmt P p ≠ x := fun y => by rw [y, t3] at a3; omega
        rw [hm p d c, hm _ a5 (by omega), ks _ a2]
        exact ⟨a1, by omega, a3, a4⟩
  · by_cases c : p = n
    · rw [c] at s2; exact absurd s2 nso
    · rw [ks p (by omega)] at s2
      have hs' : p ∈ x :: s := List.mem_cons_of_mem _ hs
      by_cases d : q = n + 1
      · rw [d, pn]; exact h3 p (by omega) s2 hs' x (sx p hs) (by omega)
      · rw [kp q (by omega)]; exact h3 p (by omega) s2 hs' q q1 (by omega)
  · by_cases c : p = n
    · rw [c] at s2; exact absurd s2 nso
    · by_cases d : p = x
      · rw [d, hm2] at q2
        rw [d] at q1 ⊢
        rw [kp q (by omega)]
        exact h3 x t2 t3 xm q q1 q2
      · rw [ks p (by omega)] at s2
        have ns' := cl p ns d
        have := (h2 p (by omega) s2 ns').2.1
        rw [hm p d c] at q2
        rw [kp q (by omega)]
        exact (h4 p (by omega) s2 ns').1 q q1 q2
  · by_cases c : p = n
    · rw [c] at s2; exact absurd s2 nso
    · by_cases d : p = x
      · rw [d, hm2]
        by_cases f : q = n + 1
        · rw [f, pn] at q2; omega
        · omega
      · rw [ks p (by omega)] at s2
        have ns' := cl p ns d
        rw [hm p d c]
        by_cases f : q = n + 1
        · rw [f, pn] at q2
          exact absurd (par p q2) ns
        · rw [kp q (by omega)] at q2
          exact (h4 p (by omega) s2 ns').2 q (by omega) q2
  · by_cases c : p = n
    · rw [c] at s2; exact absurd s2 nso
    · rw [ks p (by omega)] at s2
      have d : p ≠ x := fun z => xs (by rw [← z]; exact hs)
      have hs' : p ∈ x :: s := List.mem_cons_of_mem _ hs
      rw [ha p (by omega), if_neg d, acm p (by omega), acx]
      by_cases f : qvv P x ≠ 0 ∧ qac P x = true ∧ qpa P x = p + 1
      · rw [if_pos f]
        exact ⟨fun _ => Or.inr ⟨f.2.2, by rw [if_neg f.1]; exact f.2.1⟩, fun _ => rfl⟩
      · rw [if_neg f, h5 p (by omega) s2 hs']
        refine ⟨Or.inl, fun z => z.resolve_right (fun ⟨y1, y2⟩ => f ⟨fun v0 => ?_, ?_, y1⟩)⟩
        · rw [if_pos v0] at y2; exact absurd y2 (by decide)
        · by_cases v0 : qvv P x = 0
          · rw [if_pos v0] at y2; exact absurd y2 (by decide)
          · rw [if_neg v0] at y2; exact y2
  · by_cases c : p = n
    · rw [c] at s2; exact absurd s2 nso
    · have hp' : p < n := by omega
      rw [(k.2.2 p hp').1, acm p hp']
      by_cases d : p = x
      · rw [d, acx]
        have np : ¬ qpa P x = x + 1 := by omega
        have hx := h5 x t2 t3 xm
        refine ⟨fun z => ?_, fun z v0 y => ?_⟩
        · by_cases v0 : qvv P x = 0
          · rw [if_pos v0] at z; exact absurd z (by decide)
          · rw [if_neg v0] at z
            exact ⟨v0, Or.inl (hx.mp z)⟩
        · rw [if_neg v0] at z
          rcases y with y | y
          · rw [hx.mpr y] at z; exact absurd z (by decide)
          · exact np y.1
      · rw [ks p hp'] at s2
        have ns' := cl p ns d
        rw [acs p hp' ns d]
        obtain ⟨a1, a2⟩ := h6 p hp' s2 ns'
        exact ⟨fun z => ⟨(a1 z).1, Or.inl (a1 z).2⟩, fun z z2 z3 => a2 z z2 (z3.resolve_right (fun y => ns (par p y.1)))⟩
  · refine zStk_mv (n := x) (zStk_cg t5 (fun y hy => ⟨kp y (by omega), (k.2.1 y (by omega)).2.2⟩) (fun y hy => ks y (by omega))) (by rw [pn, kp x (by omega)]) ?_ (by omega)
    rw [e5]
  · by_cases d : q = n + 1
    · rw [d, pn]; omega
    · rw [kp q (by omega)]; exact h8 q (by omega)
end
