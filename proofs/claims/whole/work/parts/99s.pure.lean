section
variable {T : List zT} {N : Nat} {P : zPrg}
/-- both come to the next put or cut, or to the end -/
def zNxt (T : List zT) (N : Nat) (P : zPrg) (p c : Nat) (rr : List Int32) (l : Int32) (w wm : jw) (G : Nat) : Prop := ∃ k' rr' ds' w' wm' m, (k' = N ∨ (k' < N ∧ qso P k' ≤ 1)) ∧ zStk P k' ds' ∧ (∀ d ∈ ds', qac P d = true) ∧ rr'.length = ds'.length ∧ (∀ n, l_X10_goOn (n + m) (nI c) w = l_X10_goOn n (nI (c + m)) w') ∧ m ≤ G ∧ zRe p rr.length l wm k' rr'.length l wm' ∧ zCs T N P k' rr' w' ∧ zMs N P rr' wm' ∧ zfGo w w' ∧ zf181 0 wm wm'
theorem zNxt_st {p c p1 : Nat} {rr r1 : List Int32} {l : Int32} {w wm w1 wm1 : jw} {G : Nat} (h1 : ∀ n, l_X10_goOn (n + 1) (nI c) w = l_X10_goOn n (nI (c + 1)) w1) (h2 : zRe p rr.length l wm p1 r1.length l wm1) (h3 : zfGo w w1) (h4 : zf181 0 wm wm1) (h : zNxt T N P p1 (c + 1) r1 l w1 wm1 G) : zNxt T N P p c rr l w wm (G + 1) := by
  obtain ⟨k', rr', ds', w', wm', m, a1, a2, a3, a4, a5, a6, a7, a8, a9, a10, a11⟩ := h
  refine ⟨k', rr', ds', w', wm', m + 1, a1, a2, a3, a4, fun n => ?_, by omega, zRe_trans h2 a7, a8, a9, zfGo_trans h3 a10, zf181_trans h4 a11⟩
  rw [← Nat.add_assoc, h1, a5 n, show c + 1 + m = c + (m + 1) by omega]
theorem zStk3 (hP : zPq T N P) : ∀ {ds : List Nat} {k : Nat}, k ≤ N → zStk P k ds → ds.length ≤ 3 := by
  intro ds k hk h
  cases ds with
  | nil => simp
  | cons x s =>
    have hd := zStk_dp h.2.2.2.2
    have xn : x < N := by have := h.2.1; omega
    have := (zPq_d hP xn h.2.2.1).2.2.2.2.2.2
    rw [List.length_cons]
    omega
theorem zMs_snoc {rr : List Int32} {wm : jw} (h : zMs N P rr wm) (x : Int32) : zMs N P (rr ++ [x]) (jsetX wm 181 rr.length x) := by
  refine ⟨zPm_181 h.1 _ _, fun i y hy => ?_⟩
  rw [z_jX1]
  by_cases c : i = rr.length
  · subst c
    rw [List.getElem?_append_right (Nat.le_refl _), Nat.sub_self] at hy
    cases hy
    rw [zup_eq]
  · have : i < (rr ++ [x]).length := (List.getElem?_eq_some_iff.mp hy).1
    rw [List.length_append, List.length_singleton] at this
    rw [List.getElem?_append_left (by omega)] at hy
    rw [zup_ne c]
    exact h.2 i y hy
theorem zMs_f {rr : List Int32} {wm wm' : jw} (h : zMs N P rr wm) (f : zf181 rr.length wm wm') : zMs N P rr wm' := ⟨zPm_f h.1 f, fun i x hx => by
  have : i < rr.length := (List.getElem?_eq_some_iff.mp hx).1
  rw [f.2.2.2 i this]; exact h.2 i x hx⟩
/-- the two steps over a do -/
theorem zNxt_do (hP : zPq T N P) (hl : T.length ≤ 401) {p c : Nat} {ds : List Nat} {rr : List Int32} {l : Int32} {w wm : jw} {G : Nat} (hp : p < N) (s : qso P p = 2) (hst : zStk P p ds) (hac : ∀ d ∈ ds, qac P d = true) (hrr : rr.length = ds.length) (hc : zCs T N P p rr w) (hm : zMs N P rr wm) (hcc : c < 10000)
    (hA : qac P p = true → ∀ w1 wm1, zStk P (p + 1) (p :: ds) → (∀ d ∈ p :: ds, qac P d = true) → zCs T N P (p + 1) (rr ++ [0]) w1 → zMs N P (rr ++ [0]) wm1 → zNxt T N P (p + 1) (c + 1) (rr ++ [0]) l w1 wm1 G)
    (hB : qac P p = false → ∀ w1 wm1, zStk P (qmt P p + 1) ds → qpa P (qmt P p + 1) = qpa P p → zCs T N P (qmt P p + 1) rr w1 → zMs N P rr wm1 → zNxt T N P (qmt P p + 1) (c + 1) rr l w1 wm1 G) : zNxt T N P p c rr l w wm (G + 1) := by
  have td := zPq_d hP hp s
  have dl := zStk3 hP (by omega) hst
  have dp : qdp P p = rr.length := by rw [hrr]; exact zStk_dp hst
  have rl : rr.length ≤ 2 := by have := td.2.2.2.2.2.2; omega
  cases a : qac P p with
  | true =>
    obtain ⟨v1, q, q1, q2, q3⟩ := (hP.1.2.2.2.2.2.1 p hp s (by simp)).1 a
    obtain ⟨w1, e1, e2, e3⟩ := zg_doA hP hl hc hp s a (by omega) hcc
    refine zNxt_st (r1 := rr ++ [0]) (wm1 := jsetX wm 181 rr.length 0) e1 ⟨1, fun n => ?_⟩ e3 (zf181_X (Nat.zero_le _)) (hA a w1 _ ⟨td.2.2.2.2.1, by omega, s, td.2.2.2.2.2.1, hst⟩ (fun d hd => ?_) e2 (zMs_snoc hm 0))
    · rw [zs_do hP hm.1 hp s v1 (by omega) n, List.length_append]; rfl
    · rcases List.mem_cons.mp hd with z | z
      · rw [z]; exact a
      · exact hac d z
  | false =>
    obtain ⟨w1, e1, e2, e3⟩ := zg_doN hP hl hc hp s a hcc
    obtain ⟨wm1, r1, r2⟩ := z_skip hP (N - p) p rr.length l wm (by omega) hp s a dp hm.1
    obtain ⟨m1, m2, m3, m4⟩ := zPq_do hP hp s
    have te := zPq_e hP m2 m3
    have pp : qpa P (qmt P p + 1) = qpa P p := by rw [te.2.2.2.2.2.2.2.1, m4]
    have pd : qdp P (qmt P p + 1) = qdp P p := by rw [te.2.2.2.2.2.2.2.2.2, m4]
    exact zNxt_st e1 r1 e3 (zf181_le r2 (Nat.zero_le _)) (hB a w1 wm1 (zStk_mv hst pp pd (by omega)) pp e2 (zMs_f hm r2))
theorem z_nxB (hP : zPq T N P) (hl : T.length ≤ 401) : ∀ (g p c : Nat) (ds : List Nat) (rr : List Int32) (l : Int32) (w wm : jw), N ≤ p + g → p < N → zStk P p ds → (∀ d ∈ ds, qac P d = true) → (∃ q, p ≤ q ∧ q < N ∧ qpa P q = qpa P p ∧ (qso P q ≤ 1 ∨ (qso P q = 2 ∧ qac P q = true))) → rr.length = ds.length → zCs T N P p rr w → zMs N P rr wm → c + g < 10000 → zNxt T N P p c rr l w wm g := by
  intro g
  induction g with
  | zero => intro p c ds rr l w wm h1 h2; omega
  | succ g ih =>
    intro p c ds rr l w wm h1 hp hst hac ⟨q, q1, q2, q3, q4⟩ hrr hc hm hcc
    have h8 := hP.1.2.2.2.2.2.2.2.1
    rcases hP.1.1 p hp with z | z | ⟨z, _⟩
    · exact ⟨p, rr, ds, w, wm, 0, Or.inr ⟨hp, z.1⟩, hst, hac, hrr, fun n => rfl, by omega, zRe_rfl _ _ _ _, hc, hm, zfGo_rfl w, zf181_rfl 0 wm⟩
    · refine zNxt_do hP hl hp z.1 hst hac hrr hc hm (by omega) (fun a w1 wm1 b1 b2 b3 b4 => ?_) (fun a w1 wm1 b1 b2 b3 b4 => ?_)
      · obtain ⟨v1, q', x1, x2, x3⟩ := (hP.1.2.2.2.2.2.1 p hp z.1 (by simp)).1 a
        have := h8 q' (by omega)
        obtain ⟨m1, m2, m3, m4⟩ := zPq_do hP hp z.1
        refine ih (p + 1) (c + 1) (p :: ds) (rr ++ [0]) l w1 wm1 (by omega) (by omega) b1 b2 ⟨q', by omega, x1, by rw [x2, z.2.2.2.2.1], ?_⟩ (by rw [List.length_append, List.length_cons, hrr]; rfl) b3 b4 (by omega)
        rcases x3 with y | ⟨y1, y2, y3⟩
        · exact Or.inl y
        · exact Or.inr ⟨y1, y3⟩
      · obtain ⟨m1, m2, m3, m4⟩ := zPq_do hP hp z.1
        have qp : q ≠ p := fun y => by
          rw [y] at q4
          rcases q4 with y' | ⟨_, y'⟩
          · have := z.1; omega
          · rw [a] at y'; exact absurd y' (by decide)
        have qm : qmt P p < q := by
          rcases Nat.lt_or_ge (qmt P p) q with y | y
          · exact y
          · have := (hP.1.2.2.2.1 p hp z.1 (by simp)).1 q (by omega) y
            have := h8 p (by omega)
            omega
        exact ih (qmt P p + 1) (c + 1) ds rr l w1 wm1 (by omega) (by omega) b1 hac ⟨q, by omega, q2, by rw [b2]; exact q3, q4⟩ hrr b3 b4 (by omega)
    · exfalso
      have e : qpa P q = qmt P p + 1 := by rw [q3]; exact z.2.2.2.2.1
      have mp : qmt P p < N := by have := z.2.2.2.1; omega
      have := (hP.1.2.2.2.1 (qmt P p) mp z.2.2.2.2.2.1 (by simp)).2 q (by omega) e
      rw [z.2.2.2.2.2.2.1] at this
      have : q = p := by omega
      rw [this, z.1] at q4
      omega
theorem z_nxA (hP : zPq T N P) (hl : T.length ≤ 401) : ∀ (g p c : Nat) (ds : List Nat) (rr : List Int32) (l : Int32) (w wm : jw), N ≤ p + g → p ≤ N → zStk P p ds → (∀ d ∈ ds, qac P d = true) → rr.length = ds.length → zCs T N P p rr w → zMs N P rr wm → c + g + N + 1 < 10000 → zNxt T N P p c rr l w wm (g + N + 1) := by
  have hN := hP.2.2.1
  intro g
  induction g with
  | zero =>
    intro p c ds rr l w wm h1 hp hst hac hrr hc hm hcc
    exact ⟨p, rr, ds, w, wm, 0, Or.inl (by omega), hst, hac, hrr, fun n => rfl, by omega, zRe_rfl _ _ _ _, hc, hm, zfGo_rfl w, zf181_rfl 0 wm⟩
  | succ g ih =>
    intro p c ds rr l w wm h1 hp hst hac hrr hc hm hcc
    by_cases pN : p = N
    · exact ⟨p, rr, ds, w, wm, 0, Or.inl pN, hst, hac, hrr, fun n => rfl, by omega, zRe_rfl _ _ _ _, hc, hm, zfGo_rfl w, zf181_rfl 0 wm⟩
    · have hp' : p < N := by omega
      rw [show g + 1 + N + 1 = (g + N + 1) + 1 by omega]
      rcases hP.1.1 p hp' with z | z | ⟨z, _⟩
      · exact ⟨p, rr, ds, w, wm, 0, Or.inr ⟨hp', z.1⟩, hst, hac, hrr, fun n => rfl, by omega, zRe_rfl _ _ _ _, hc, hm, zfGo_rfl w, zf181_rfl 0 wm⟩
      · obtain ⟨m1, m2, m3, m4⟩ := zPq_do hP hp' z.1
        refine zNxt_do hP hl hp' z.1 hst hac hrr hc hm (by omega) (fun a w1 wm1 b1 b2 b3 b4 => ?_) (fun a w1 wm1 b1 b2 b3 b4 => ?_)
        · exact ih (p + 1) (c + 1) (p :: ds) (rr ++ [0]) l w1 wm1 (by omega) (by omega) b1 b2 (by rw [List.length_append, List.length_cons, hrr]; rfl) b3 b4 (by omega)
        · exact ih (qmt P p + 1) (c + 1) ds rr l w1 wm1 (by omega) (by omega) b1 hac hrr b3 b4 (by omega)
      · cases ds with
        | nil => have := hst.1; have := z.2.2.2.2.1; omega
        | cons x s =>
          have xe : x = qmt P p := by have := hst.1; have := z.2.2.2.2.1; omega
          obtain ⟨r0, y, rfl⟩ : ∃ r0 y, rr = r0 ++ [y] := by
            have : rr ≠ [] := fun q => by rw [q] at hrr; simp at hrr
            exact ⟨rr.dropLast, rr.getLast this, (List.dropLast_concat_getLast this).symm⟩
          have r0l : r0.length = s.length := by rw [List.length_append, List.length_cons] at hrr; simpa using hrr
          have d3 := zStk3 hP (by omega) hst
          rw [List.length_cons] at d3
          have ax : qac P (qmt P p) = true := by rw [← xe]; exact hac x List.mem_cons_self
          have sx : qso P (qmt P p) = 2 := z.2.2.2.2.2.1
          have mp : qmt P p < N := by have := z.2.2.2.1; omega
          have td := zPq_d hP mp sx
          have hst' : zStk P (qmt P p) s := by rw [← xe]; exact hst.2.2.2.2
          obtain ⟨w1, e1, e2, e3⟩ := zg_end hP hl hc hp' z.1 (by omega) (show c < 10000 by omega)
          have y1 : wm.2.1 181 r0.length = y := hm.2 r0.length y (by rw [List.getElem?_append_right (Nat.le_refl _), Nat.sub_self]; rfl)
          have st := fun n => zs_end (l := l) hP hm.1 hp' z.1 (show r0.length < 3 by omega) n
          rw [y1] at st
          have rl1 : (r0 ++ [y]).length = r0.length + 1 := by rw [List.length_append]; rfl
          by_cases v : qvv P (qmt P p) ≤ y + 1
          · rw [if_pos v] at e2
            refine zNxt_st (r1 := r0) (p1 := p + 1) e1 ⟨1, fun n => ?_⟩ e3 (zf181_X (i := r0.length) (x := y + 1) (Nat.zero_le _)) (ih (p + 1) (c + 1) s r0 l w1 _ (by omega) (by omega) (zStk_mv hst' z.2.2.2.2.2.2.2.1 z.2.2.2.2.2.2.2.2.2 (by have := z.2.2.2.1; omega)) (fun d hd => hac d (List.mem_cons_of_mem _ hd)) r0l e2 ⟨zPm_181 hm.1 _ _, fun i u hu => ?_⟩ (by omega))
            · rw [rl1, st n, if_pos v]
            · have il : i < r0.length := (List.getElem?_eq_some_iff.mp hu).1
              rw [z_jX1, zup_ne (by omega)]
              exact hm.2 i u (by rw [List.getElem?_append_left il]; exact hu)
          · rw [if_neg v] at e2
            obtain ⟨v1, q', x1, x2, x3⟩ := (hP.1.2.2.2.2.2.1 (qmt P p) mp sx (by simp)).1 ax
            have h8 := hP.1.2.2.2.2.2.2.2.1 q' (by omega)
            have B := z_nxB hP hl (g + N + 1) (qmt P p + 1) (c + 1) (qmt P p :: s) (r0 ++ [y + 1]) l w1 (jsetX wm 181 r0.length (y + 1)) (by omega) (by omega) ⟨td.2.2.2.2.1, by omega, sx, td.2.2.2.2.2.1, hst'⟩ (fun d hd => by
              rcases List.mem_cons.mp hd with u | u
              · rw [u]; exact ax
              · exact hac d (List.mem_cons_of_mem _ u)) ⟨q', by omega, x1, by rw [x2, td.2.2.2.2.1], by
                rcases x3 with u | ⟨u1, u2, u3⟩
                · exact Or.inl u
                · exact Or.inr ⟨u1, u3⟩⟩ (by rw [List.length_append, List.length_cons, r0l]; rfl) e2 ⟨zPm_181 hm.1 _ _, fun i u hu => by
                  rw [z_jX1]
                  by_cases ci : i = r0.length
                  · subst ci
                    rw [List.getElem?_append_right (Nat.le_refl _), Nat.sub_self] at hu
                    cases hu
                    rw [zup_eq]
                  · have : i < (r0 ++ [y + 1]).length := (List.getElem?_eq_some_iff.mp hu).1
                    rw [List.length_append, List.length_singleton] at this
                    rw [List.getElem?_append_left (by omega)] at hu
                    rw [zup_ne ci]
                    exact hm.2 i u (by rw [List.getElem?_append_left (by omega)]; exact hu)⟩ (by omega)
            refine zNxt_st (r1 := r0 ++ [y + 1]) (p1 := qmt P p + 1) e1 ⟨1, fun n => ?_⟩ e3 (zf181_X (i := r0.length) (x := y + 1) (Nat.zero_le _)) B
            rw [rl1, st n, if_neg v, show (r0 ++ [y + 1]).length = r0.length + 1 from by rw [List.length_append]; rfl]
end
