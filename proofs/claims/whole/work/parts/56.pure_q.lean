section
variable {A : Nat → Prop} {L : Nat → List zE} {kd : Nat → Int32} {R : Nat} {lo hi : Nat → Int} {lev : Nat → Nat}
/-- the two halves of a page, below any page above -/
theorem zWf_half (h : zWf A L kd R lo hi lev) {c n : Nat} {l1 l2 : List zE} {es : zE} (hc : A c) (hn : ¬ A n) (n4 : n < 4000) (hl : (L c).Perm (l1 ++ l2)) (hes : es ∈ l2) (h1 : ∀ e ∈ l1, ke e < ke es) (h2 : ∀ e ∈ l2, ke es ≤ ke e) (hlo : lo c < ke es)
    {A' : Nat → Prop} {L' : Nat → List zE} {kd' : Nat → Int32} {lo' hi' : Nat → Int} {lev' : Nat → Nat} (hA : ∀ x, A x → A' x) (eL1 : L' c = l1) (eL2 : L' n = l2) (ek1 : kd' c = kd c) (ek2 : kd' n = kd c) (el1 : lo' c = lo c) (el2 : lo' n = ke es) (eh1 : hi' c = ke es) (eh2 : hi' n = hi c) (ev1 : lev' c = lev c) (ev2 : lev' n = lev c)
    (ot : ∀ x, A x → x ≠ c → lo' x = lo x ∧ hi' x = hi x ∧ lev' x = lev x) : zpw A' L' kd' lo' hi' lev' c ∧ zpw A' L' kd' lo' hi' lev' n := by
  obtain ⟨a1, a2, a3, a4, a5, a6, a7, a8⟩ := h.2.2.2.2.2 c hc
  have m : ∀ e, e ∈ L c ↔ e ∈ l1 ∨ e ∈ l2 := fun e => by rw [hl.mem_iff, List.mem_append]
  have nd : zkn (l1 ++ l2) := zkn_perm a6 hl
  have n1 : zkn l1 := by
    unfold zkn at *
    rw [List.map_append, List.nodup_append] at nd
    exact nd.1
  have n2 : zkn l2 := by
    unfold zkn at *
    rw [List.map_append, List.nodup_append] at nd
    exact nd.2.1
  have esc := a7 es ((m es).mpr (Or.inr hes))
  unfold zpw
  rw [eL1, eL2, ek1, ek2, el1, el2, eh1, eh2, ev1, ev2]
  refine ⟨⟨a1, hlo, by omega, a4, a5, n1, fun e he => ⟨(a7 e ((m e).mpr (Or.inl he))).1, h1 e he⟩, fun l0 => ?_⟩, by omega, by omega, a3, a4, n4, n2, fun e he => ⟨h2 e he, (a7 e ((m e).mpr (Or.inr he))).2⟩, fun l0 => ?_⟩
  · obtain ⟨⟨em, g1, g2⟩, g3⟩ := a8 l0
    refine ⟨⟨em, ?_, g2⟩, fun e he => ?_⟩
    · rcases (m em).mp g1 with z | z
      · exact z
      · have := h2 em z; omega
    · obtain ⟨d, d1, d2, d3, d4, d5, d6⟩ := g3 e ((m e).mpr (Or.inl he))
      have dc : d ≠ c := fun e => by rw [e] at d3; omega
      obtain ⟨o1, o2, o3⟩ := ot d d1 dc
      have le := d6 es ((m es).mpr (Or.inr hes)) (h1 e he)
      refine ⟨d, hA d d1, d2, by rw [o3]; exact d3, by rw [o1]; exact d4, ?_, fun e' he' hk => by rw [o2]; exact d6 e' ((m e').mpr (Or.inl he')) hk⟩
      rw [o2]
      rcases d5 with y | ⟨e', y1, y2⟩
      · omega
      · rcases (m e').mp y1 with z | z
        · exact Or.inr ⟨e', z, y2⟩
        · have := h2 e' z
          exact Or.inl (by omega)
  · obtain ⟨_, g3⟩ := a8 l0
    refine ⟨⟨es, hes, rfl⟩, fun e he => ?_⟩
    obtain ⟨d, d1, d2, d3, d4, d5, d6⟩ := g3 e ((m e).mpr (Or.inr he))
    have dc : d ≠ c := fun e => by rw [e] at d3; omega
    obtain ⟨o1, o2, o3⟩ := ot d d1 dc
    have ld := zWf_lt h d1
    have := h2 e he
    refine ⟨d, hA d d1, d2, by rw [o3]; exact d3, by rw [o1]; exact d4, ?_, fun e' he' hk => by rw [o2]; exact d6 e' ((m e').mpr (Or.inr he')) hk⟩
    rw [o2]
    rcases d5 with y | ⟨e', y1, y2⟩
    · exact Or.inl y
    · rcases (m e').mp y1 with z | z
      · have := h1 e' z; omega
      · exact Or.inr ⟨e', z, y2⟩
/-- a page is split below a page above -/
theorem zWf_S (h : zWf A L kd R lo hi lev) {c q n : Nat} {l1 l2 : List zE} {e0 es : zE} {f : Int32} (hc : A c) (hq : A q) (lq : lev q ≠ 0) (he : e0 ∈ L q) (hv : e0.2.2.2 = nI c) (hn : ¬ A n) (n4 : n < 4000) (hl : (L c).Perm (l1 ++ l2)) (hes : es ∈ l2) (h1 : ∀ e ∈ l1, ke e < ke es) (h2 : ∀ e ∈ l2, ke es ≤ ke e) (hlo : lo c < ke es) :
    zWf (fun x => A x ∨ x = n) (zup (zup (zup L q (L q ++ [(es.1, f, -2, nI n)])) c l1) n l2) (zup kd n (kd c)) R (zup lo n (ke es)) (zup (zup hi c (ke es)) n (hi c)) (zup lev n (lev c)) := by
  have hW := h
  have c4 := (h.2.2.2.2.2 c hc).2.2.2.2.1
  obtain ⟨_, ch1, ch2, ch3, ch4⟩ := zWf_ch h hq lq he hv c4
  have nx : ∀ x, A x → x ≠ n := fun x hx e => hn (e ▸ hx)
  have cq : c ≠ q := fun e => by rw [e] at ch1; omega
  have esL : es ∈ L c := hl.mem_iff.mpr (List.mem_append.mpr (Or.inr hes))
  have esc := (h.2.2.2.2.2 c hc).2.2.2.2.2.2.1 es esL
  have halves := zWf_half h hc hn n4 hl hes h1 h2 hlo (A' := fun x => A x ∨ x = n) (L' := zup (zup (zup L q (L q ++ [(es.1, f, -2, nI n)])) c l1) n l2) (kd' := zup kd n (kd c)) (lo' := zup lo n (ke es)) (hi' := zup (zup hi c (ke es)) n (hi c)) (lev' := zup lev n (lev c)) (fun x hx => Or.inl hx) (by rw [zup_ne (nx c hc), zup_eq]) (zup_eq _ _ _) (zup_ne (nx c hc)) (zup_eq _ _ _) (zup_ne (nx c hc)) (zup_eq _ _ _) (by rw [zup_ne (nx c hc), zup_eq]) (zup_eq _ _ _) (zup_ne (nx c hc)) (zup_eq _ _ _) (fun x hx xc => ⟨zup_ne (nx x hx), by rw [zup_ne (nx x hx), zup_ne xc], zup_ne (nx x hx)⟩)
  obtain ⟨g1, g2, g3, g4, g5, g6⟩ := h
  have cR : c ≠ R := fun e => by
    rcases g4 q hq with z | z
    · rw [← e] at z; omega
    · rw [z, ← e] at ch1; omega
  have kk : ke (es.1, f, -2, nI n) = ke es := rfl
  refine ⟨Or.inl g1, by rw [zup_ne (nx R g1)]; exact g2, by rw [zup_ne (nx R g1), zup_ne (fun e => cR e.symm)]; exact g3, fun x hx => ?_, fun x y hx hy hlv => ?_, fun x hx => ?_⟩
  · rw [zup_ne (nx R g1)]
    rcases hx with z | z
    · rw [zup_ne (nx x z)]; exact g4 x z
    · subst z
      rw [zup_eq]
      rcases g4 c hc with y | y
      · exact Or.inl y
      · exact absurd y cR
  · have lc := zWf_lt hW hc
    have span : ∀ z, A z → zup lo n (ke es) z = lo z ∧ (z ≠ c → zup (zup hi c (ke es)) n (hi c) z = hi z) ∧ (z = c → zup (zup hi c (ke es)) n (hi c) z = ke es) := fun z hz => ⟨zup_ne (nx z hz), fun zc => by rw [zup_ne (nx z hz), zup_ne zc], fun zc => by rw [zup_ne (nx z hz), zc, zup_eq]⟩
    rcases hx with x1 | x1
    · obtain ⟨sx1, sx2, sx3⟩ := span x x1
      rw [zup_ne (nx x x1)] at hlv
      rcases hy with y1 | y1
      · obtain ⟨sy1, sy2, sy3⟩ := span y y1
        rw [zup_ne (nx y y1)] at hlv
        rw [sx1, sy1]
        rcases g5 x y x1 y1 hlv with z | z
        · exact Or.inl z
        · right
          by_cases xc : x = c
          · by_cases yc : y = c
            · rw [sx3 xc, sy3 yc, xc, yc]; rw [xc, yc] at z; omega
            · rw [sx3 xc, sy2 yc, xc]; rw [xc] at z; omega
          · by_cases yc : y = c
            · rw [sx2 xc, sy3 yc, yc]; rw [yc] at z; omega
            · rw [sx2 xc, sy2 yc]; exact z
      · subst y1
        rw [zup_eq] at hlv
        rw [sx1, zup_eq, zup_eq]
        by_cases xc : x = c
        · rw [sx3 xc]; exact Or.inr (Or.inl (Int.le_refl _))
        · rw [sx2 xc]
          have := zWf_dj hW x1 hc hlv xc
          omega
    · subst x1
      rw [zup_eq] at hlv
      rcases hy with y1 | y1
      · obtain ⟨sy1, sy2, sy3⟩ := span y y1
        rw [zup_ne (nx y y1)] at hlv
        rw [sy1, zup_eq, zup_eq]
        by_cases yc : y = c
        · rw [sy3 yc]; exact Or.inr (Or.inr (Int.le_refl _))
        · rw [sy2 yc]
          have := zWf_dj hW y1 hc hlv.symm yc
          omega
      · exact Or.inl y1.symm
  · by_cases xc : x = c
    · subst xc; exact halves.1
    · by_cases xn : x = n
      · subst xn; exact halves.2
      · have hxA : A x := by
          rcases hx with z | z
          · exact z
          · exact absurd z xn
        obtain ⟨a1, a2, a3, a4, a5, a6, a7, a8⟩ := g6 x hxA
        by_cases xq : x = q
        · subst xq
          have eL : zup (zup (zup L x (L x ++ [(es.1, f, -2, nI n)])) c l1) n l2 x = L x ++ [(es.1, f, -2, nI n)] := by rw [zup_ne xn, zup_ne xc, zup_eq]
          have mq : ∀ e, e ∈ L x ++ [(es.1, f, -2, nI n)] ↔ e ∈ L x ∨ e = (es.1, f, -2, nI n) := fun e => by simp
          unfold zpw
          rw [eL, zup_ne (f := lo) xn, zup_ne (f := zup hi c (ke es)) xn, zup_ne xc, zup_ne (f := lev) xn, zup_ne (f := kd) xn]
          have hcx : hi c ≤ hi x := zWf_hi hW hxA he ch3
          obtain ⟨g7, g8⟩ := a8 lq
          have out : ∀ e ∈ L x, ∀ d, A d → lev d + 1 = lev x → lo d = ke e → d ≠ c → hi d ≤ lo c ∨ hi c ≤ ke e := fun e _ d hd hl2 hlo2 dc => by
            have := zWf_dj hW hd hc (by omega) dc
            omega
          have kc : ke e0 = lo c := ch2.symm
          refine ⟨a1, a2, a3, a4, a5, zkn_snoc a6 (fun y hy e => ?_), fun e hm => ?_, fun l0 => ⟨?_, fun e hm => ?_⟩⟩
          · have e' : ke y = ke es := by unfold ke; rw [e]
            obtain ⟨d, d1, d2, d3, d4, d5, d6⟩ := g8 y hy
            have ld := zWf_lt hW d1
            by_cases dc : d = c
            · rw [dc] at d4; omega
            · have := out y hy d d1 d3 d4 dc; omega
          · rcases (mq e).mp hm with z | z
            · exact a7 e z
            · rw [z, kk]
              have := (a7 e0 he).1
              omega
          · obtain ⟨em, u1, u2⟩ := g7
            exact ⟨em, (mq em).mpr (Or.inl u1), u2⟩
          · rcases (mq e).mp hm with z | z
            · obtain ⟨d, d1, d2, d3, d4, d5, d6⟩ := g8 e z
              have ld := zWf_lt hW d1
              have dn : d ≠ n := nx d d1
              by_cases dc : d = c
              · subst dc
                refine ⟨d, Or.inl d1, d2, by rw [zup_ne dn]; exact d3, by rw [zup_ne dn]; exact d4, ?_, fun e' he' hk => ?_⟩
                · rw [zup_ne dn, zup_eq]
                  exact Or.inr ⟨_, (mq _).mpr (Or.inr rfl), kk⟩
                · rw [zup_ne dn, zup_eq]
                  rcases (mq e').mp he' with y | y
                  · have := d6 e' y hk; omega
                  · rw [y, kk]; exact Int.le_refl _
              · refine ⟨d, Or.inl d1, d2, by rw [zup_ne dn]; exact d3, by rw [zup_ne dn]; exact d4, ?_, fun e' he' hk => ?_⟩
                · rw [zup_ne dn, zup_ne dc]
                  rcases d5 with y | ⟨e', y1, y2⟩
                  · exact Or.inl y
                  · exact Or.inr ⟨e', (mq e').mpr (Or.inl y1), y2⟩
                · rw [zup_ne dn, zup_ne dc]
                  rcases (mq e').mp he' with y | y
                  · exact d6 e' y hk
                  · rw [y, kk] at hk ⊢
                    have := out e z d d1 d3 d4 dc
                    omega
            · subst z
              refine ⟨n, Or.inr rfl, rfl, by rw [zup_eq]; exact ch1, by rw [zup_eq, kk], ?_, fun e' he' hk => ?_⟩
              · rw [zup_eq]
                rcases ch3 with y | ⟨e', y1, y2⟩
                · exact Or.inl y
                · exact Or.inr ⟨e', (mq e').mpr (Or.inl y1), y2⟩
              · rw [zup_eq]
                rw [kk] at hk
                rcases (mq e').mp he' with y | y
                · exact ch4 e' y (by omega)
                · rw [y, kk] at hk; omega
        · have eL : zup (zup (zup L q (L q ++ [(es.1, f, -2, nI n)])) c l1) n l2 x = L x := by rw [zup_ne xn, zup_ne xc, zup_ne xq]
          unfold zpw
          rw [eL, zup_ne (f := lo) xn, zup_ne (f := zup hi c (ke es)) xn, zup_ne xc, zup_ne (f := lev) xn, zup_ne (f := kd) xn]
          refine ⟨a1, a2, a3, a4, a5, a6, a7, fun l0 => ?_⟩
          obtain ⟨g7, g8⟩ := a8 l0
          refine ⟨g7, fun e hm => ?_⟩
          obtain ⟨d, d1, d2, d3, d4, d5, d6⟩ := g8 e hm
          have dn : d ≠ n := nx d d1
          have dc : d ≠ c := fun z => xq (zWf_one hW hxA hq l0 lq hm he (by rw [d2, z]) hv c4).1
          exact ⟨d, Or.inl d1, d2, by rw [zup_ne dn]; exact d3, by rw [zup_ne dn]; exact d4, by rw [zup_ne dn, zup_ne dc]; exact d5, by rw [zup_ne dn, zup_ne dc]; exact d6⟩
/-- a page's own part, taken over -/
theorem zpw_tr {A' : Nat → Prop} {L' : Nat → List zE} {kd' : Nat → Int32} {lo' hi' : Nat → Int} {lev' : Nat → Nat} {x z : Nat} (h : zpw A L kd lo hi lev z) (x4 : x < 4000) (eL : L' x = L z) (ek : kd' x = kd z) (el : lo' x = lo z) (eh : hi' x = hi z) (ev : lev' x = lev z) (kids : ∀ d, A d → lev d + 1 = lev z → A' d ∧ lo' d = lo d ∧ hi' d = hi d ∧ lev' d = lev d) : zpw A' L' kd' lo' hi' lev' x := by
  obtain ⟨a1, a2, a3, a4, a5, a6, a7, a8⟩ := h
  unfold zpw
  rw [eL, ek, el, eh, ev]
  refine ⟨a1, a2, a3, a4, x4, a6, a7, fun l0 => ?_⟩
  obtain ⟨u1, u2⟩ := a8 l0
  refine ⟨u1, fun e he => ?_⟩
  obtain ⟨d, d1, d2, d3, d4, d5, d6⟩ := u2 e he
  obtain ⟨k1, k2, k3, k4⟩ := kids d d1 d3
  exact ⟨d, k1, d2, by rw [k4]; exact d3, by rw [k2]; exact d4, by rw [k3]; exact d5, by rw [k3]; exact d6⟩
/-- the root gets a new number -/
theorem zWf_NR (h : zWf A L kd R lo hi lev) {n : Nat} (hn : ¬ A n) (n4 : n < 4000) :
    zWf (fun x => (A x ∧ x ≠ R) ∨ x = n) (zup L n (L R)) (zup kd n (kd R)) n (zup lo n (lo R)) (zup hi n (hi R)) (zup lev n (lev R)) := by
  have hW := h
  obtain ⟨g1, g2, g3, g4, g5, g6⟩ := h
  have nx : ∀ x, A x → x ≠ n := fun x hx e => hn (e ▸ hx)
  refine ⟨Or.inr rfl, by rw [zup_eq]; exact g2, by rw [zup_eq]; exact g3, fun x hx => ?_, fun x y hx hy hl => ?_, fun x hx => ?_⟩
  · rw [zup_eq]
    rcases hx with ⟨z1, z2⟩ | z
    · rw [zup_ne (nx x z1)]
      rcases g4 x z1 with y | y
      · exact Or.inl y
      · exact absurd y z2
    · exact Or.inr z
  · rcases hx with ⟨x1, x2⟩ | x1
    · rw [zup_ne (nx x x1)] at hl
      rcases hy with ⟨y1, y2⟩ | y1
      · rw [zup_ne (nx y y1)] at hl
        rw [zup_ne (nx x x1), zup_ne (nx y y1), zup_ne (nx x x1), zup_ne (nx y y1)]
        exact g5 x y x1 y1 hl
      · subst y1
        rw [zup_eq] at hl
        rcases g4 x x1 with z | z
        · omega
        · exact absurd z x2
    · subst x1
      rw [zup_eq] at hl
      rcases hy with ⟨y1, y2⟩ | y1
      · rw [zup_ne (nx y y1)] at hl
        rcases g4 y y1 with z | z
        · omega
        · exact absurd z y2
      · exact Or.inl y1.symm
  · have kid : ∀ c z, A c → A z → lev c + 1 = lev z → c ≠ R := fun c z hc hz hl e => by
      rcases g4 z hz with y | y
      · rw [← e] at y; omega
      · rw [y, ← e] at hl; omega
    have kids : ∀ z, A z → ∀ d, A d → lev d + 1 = lev z → ((A d ∧ d ≠ R) ∨ d = n) ∧ zup lo n (lo R) d = lo d ∧ zup hi n (hi R) d = hi d ∧ zup lev n (lev R) d = lev d := fun z hz d hd hl => ⟨Or.inl ⟨hd, kid d z hd hz hl⟩, zup_ne (nx d hd), zup_ne (nx d hd), zup_ne (nx d hd)⟩
    rcases hx with ⟨x1, x2⟩ | x1
    · exact zpw_tr (g6 x x1) (g6 x x1).2.2.2.2.1 (zup_ne (nx x x1)) (zup_ne (nx x x1)) (zup_ne (nx x x1)) (zup_ne (nx x x1)) (zup_ne (nx x x1)) (kids x x1)
    · subst x1
      exact zpw_tr (g6 R g1) n4 (zup_eq _ _ _) (zup_eq _ _ _) (zup_eq _ _ _) (zup_eq _ _ _) (zup_eq _ _ _) (kids R g1)
/-- the root is split -/
theorem zWf_SR (h : zWf A L kd R lo hi lev) {n m : Nat} {l1 l2 : List zE} {es : zE} {f : Int32} (hn : ¬ A n) (hm : ¬ A m) (nm : n ≠ m) (n4 : n < 4000) (m4 : m < 4000) (hl : (L R).Perm (l1 ++ l2)) (hes : es ∈ l2) (h1 : ∀ e ∈ l1, ke e < ke es) (h2 : ∀ e ∈ l2, ke es ≤ ke e) (hlo : 0 < ke es) :
    zWf (fun x => A x ∨ x = n ∨ x = m) (zup (zup (zup L R l1) n l2) m [(0, f, -2, nI R), (es.1, f, -2, nI n)]) (zup (zup kd n (kd R)) m 0) m (zup (zup lo n (ke es)) m 0) (zup (zup (zup hi R (ke es)) n (hi R)) m 1000) (zup (zup lev n (lev R)) m (lev R + 1)) := by
  have hW := h
  have nx : ∀ x, A x → x ≠ n := fun x hx e => hn (e ▸ hx)
  have mx : ∀ x, A x → x ≠ m := fun x hx e => hm (e ▸ hx)
  have R1 := h.1
  have halves := zWf_half h h.1 hn n4 hl hes h1 h2 (by rw [h.2.1]; exact hlo) (A' := fun x => A x ∨ x = n ∨ x = m) (L' := zup (zup (zup L R l1) n l2) m [(0, f, -2, nI R), (es.1, f, -2, nI n)]) (kd' := zup (zup kd n (kd R)) m 0) (lo' := zup (zup lo n (ke es)) m 0) (hi' := zup (zup (zup hi R (ke es)) n (hi R)) m 1000) (lev' := zup (zup lev n (lev R)) m (lev R + 1)) (fun x hx => Or.inl hx) (by rw [zup_ne (mx R R1), zup_ne (nx R R1), zup_eq]) (by rw [zup_ne nm, zup_eq]) (by rw [zup_ne (mx R R1), zup_ne (nx R R1)]) (by rw [zup_ne nm, zup_eq]) (by rw [zup_ne (mx R R1), zup_ne (nx R R1)]) (by rw [zup_ne nm, zup_eq]) (by rw [zup_ne (mx R R1), zup_ne (nx R R1), zup_eq]) (by rw [zup_ne nm, zup_eq]) (by rw [zup_ne (mx R R1), zup_ne (nx R R1)]) (by rw [zup_ne nm, zup_eq]) (fun x hx xc => ⟨by rw [zup_ne (mx x hx), zup_ne (nx x hx)], by rw [zup_ne (mx x hx), zup_ne (nx x hx), zup_ne xc], by rw [zup_ne (mx x hx), zup_ne (nx x hx)]⟩)
  have esL : es ∈ L R := hl.mem_iff.mpr (List.mem_append.mpr (Or.inr hes))
  obtain ⟨g1, g2, g3, g4, g5, g6⟩ := h
  have esc := (g6 R g1).2.2.2.2.2.2.1 es esL
  rw [g3] at esc
  refine ⟨Or.inr (Or.inr rfl), zup_eq _ _ _, zup_eq _ _ _, fun x hx => ?_, fun x y hx hy hlv => ?_, fun x hx => ?_⟩
  · rw [zup_eq]
    rcases hx with z | z | z
    · rw [zup_ne (mx x z), zup_ne (nx x z)]
      rcases g4 x z with y | y
      · exact Or.inl (by omega)
      · rw [y]; exact Or.inl (by omega)
    · subst z
      rw [zup_ne nm, zup_eq]
      exact Or.inl (by omega)
    · exact Or.inr z
  · have old : ∀ z, A z → zup (zup lev n (lev R)) m (lev R + 1) z = lev z ∧ zup (zup lo n (ke es)) m 0 z = lo z ∧ (z ≠ R → zup (zup (zup hi R (ke es)) n (hi R)) m 1000 z = hi z) := fun z hz => ⟨by rw [zup_ne (mx z hz), zup_ne (nx z hz)], by rw [zup_ne (mx z hz), zup_ne (nx z hz)], fun zr => by rw [zup_ne (mx z hz), zup_ne (nx z hz), zup_ne zr]⟩
    have hiR : zup (zup (zup hi R (ke es)) n (hi R)) m 1000 R = ke es := by rw [zup_ne (mx R g1), zup_ne (nx R g1), zup_eq]
    have ln : zup (zup lev n (lev R)) m (lev R + 1) n = lev R := by rw [zup_ne nm, zup_eq]
    have lon : zup (zup lo n (ke es)) m 0 n = ke es := by rw [zup_ne nm, zup_eq]
    have hin : zup (zup (zup hi R (ke es)) n (hi R)) m 1000 n = hi R := by rw [zup_ne nm, zup_eq]
    have lm : zup (zup lev n (lev R)) m (lev R + 1) m = lev R + 1 := zup_eq _ _ _
    have small : ∀ z, (A z ∨ z = n) → zup (zup lev n (lev R)) m (lev R + 1) z ≤ lev R := fun z hz => by
      rcases hz with y | y
      · rw [(old z y).1]
        rcases g4 z y with u | u
        · omega
        · rw [u]; exact Nat.le_refl _
      · rw [y, ln]; exact Nat.le_refl _
    rcases hx with x1 | x1 | x1
    · rcases hy with y1 | y1 | y1
      · obtain ⟨ox1, ox2, ox3⟩ := old x x1
        obtain ⟨oy1, oy2, oy3⟩ := old y y1
        rw [ox1, oy1] at hlv
        rcases g5 x y x1 y1 hlv with z | z
        · exact Or.inl z
        · by_cases xr : x = R
          · rw [xr] at hlv z
            rcases g4 y y1 with u | u
            · omega
            · exact Or.inl (xr.trans u.symm)
          · by_cases yr : y = R
            · rw [yr] at hlv
              rcases g4 x x1 with u | u
              · omega
              · exact absurd u xr
            · rw [ox2, oy2, ox3 xr, oy3 yr]
              exact Or.inr z
      · subst y1
        obtain ⟨ox1, ox2, ox3⟩ := old x x1
        rw [ox1, ln] at hlv
        rcases g4 x x1 with u | u
        · omega
        · subst u
          rw [hiR, lon]
          exact Or.inr (Or.inl (Int.le_refl _))
      · subst y1
        have := small x (Or.inl x1)
        rw [lm] at hlv
        omega
    · rcases hy with y1 | y1 | y1
      · subst x1
        obtain ⟨oy1, oy2, oy3⟩ := old y y1
        rw [oy1, ln] at hlv
        rcases g4 y y1 with u | u
        · omega
        · subst u
          rw [hiR, lon]
          exact Or.inr (Or.inr (Int.le_refl _))
      · exact Or.inl (x1.trans y1.symm)
      · subst y1
        have := small x (Or.inr x1)
        rw [lm] at hlv
        omega
    · subst x1
      rw [lm] at hlv
      rcases hy with y1 | y1 | y1
      · have := small y (Or.inl y1); omega
      · have := small y (Or.inr y1); omega
      · exact Or.inl y1.symm
  · have kid : ∀ c z, A c → A z → lev c + 1 = lev z → c ≠ R := fun c z hc hz hl e => by
      rcases g4 z hz with y | y
      · rw [← e] at y; omega
      · rw [y, ← e] at hl; omega
    rcases hx with z | z | z
    · by_cases xr : x = R
      · rw [xr]; exact halves.1
      · exact zpw_tr (g6 x z) (g6 x z).2.2.2.2.1 (by rw [zup_ne (mx x z), zup_ne (nx x z), zup_ne xr]) (by rw [zup_ne (mx x z), zup_ne (nx x z)]) (by rw [zup_ne (mx x z), zup_ne (nx x z)]) (by rw [zup_ne (mx x z), zup_ne (nx x z), zup_ne xr]) (by rw [zup_ne (mx x z), zup_ne (nx x z)]) (fun d hd hl => ⟨Or.inl hd, by rw [zup_ne (mx d hd), zup_ne (nx d hd)], by rw [zup_ne (mx d hd), zup_ne (nx d hd), zup_ne (kid d x hd z hl)], by rw [zup_ne (mx d hd), zup_ne (nx d hd)]⟩)
    · rw [z]; exact halves.2
    · subst z
      unfold zpw
      rw [zup_eq, zup_eq, zup_eq, zup_eq, zup_eq]
      have k0 : ke (0, f, -2, nI R) = 0 := by show (0 : Int32).toInt = 0; decide
      have k1 : ke (es.1, f, -2, nI n) = ke es := rfl
      refine ⟨Int.le_refl _, by decide, Int.le_refl _, by rw [if_neg (by omega)], m4, ?_, fun e he => ?_, fun l0 => ⟨⟨(0, f, -2, nI R), List.mem_cons_self, k0⟩, fun e he => ?_⟩⟩
      · unfold zkn
        simp only [List.map_cons, List.map_nil, List.nodup_cons, List.mem_cons, List.not_mem_nil, or_false, not_false_eq_true, List.nodup_nil, and_true, and_self]
        intro e
        have : ke es = 0 := by unfold ke; rw [← e]; decide
        omega
      · simp only [List.mem_cons, List.not_mem_nil, or_false] at he
        rcases he with u | u
        · rw [u, k0]; omega
        · rw [u, k1]; omega
      · simp only [List.mem_cons, List.not_mem_nil, or_false] at he
        rcases he with u | u
        · rw [u]
          refine ⟨R, Or.inl g1, rfl, by rw [zup_ne (mx R g1), zup_ne (nx R g1)], by rw [zup_ne (mx R g1), zup_ne (nx R g1), k0]; exact g2, Or.inr ⟨(es.1, f, -2, nI n), by simp, by rw [zup_ne (mx R g1), zup_ne (nx R g1), zup_eq, k1]⟩, fun e' he' hk => ?_⟩
          rw [zup_ne (mx R g1), zup_ne (nx R g1), zup_eq]
          simp only [List.mem_cons, List.not_mem_nil, or_false] at he'
          rcases he' with v | v
          · rw [v] at hk; omega
          · rw [v, k1]; exact Int.le_refl _
        · rw [u]
          refine ⟨n, Or.inr (Or.inl rfl), rfl, by rw [zup_ne nm, zup_eq], by rw [zup_ne nm, zup_eq, k1], Or.inl (by rw [zup_ne nm, zup_eq]; exact g3), fun e' he' hk => ?_⟩
          rw [k1] at hk
          simp only [List.mem_cons, List.not_mem_nil, or_false] at he'
          rcases he' with v | v
          · rw [v, k0] at hk; omega
          · rw [v, k1] at hk; omega
/-- the root goes, its only page below is the root -/
theorem zWf_Cl (h : zWf A L kd R lo hi lev) {c : Nat} {e : zE} (lR : lev R ≠ 0) (hL : L R = [e]) (hv : e.2.2.2 = nI c) (c4 : c < 4000) : zWf (fun x => A x ∧ x ≠ R) L kd c lo hi lev := by
  have hW := h
  have he : e ∈ L R := by rw [hL]; exact List.mem_cons_self
  obtain ⟨ch0, ch1, ch2, ch3, ch4⟩ := zWf_ch h h.1 lR he hv c4
  obtain ⟨g1, g2, g3, g4, g5, g6⟩ := h
  have lc := zWf_lt hW ch0
  have cR : c ≠ R := fun z => by rw [z] at ch1; omega
  obtain ⟨_, _, _, _, _, _, _, r8⟩ := g6 R g1
  obtain ⟨⟨em, m1, m2⟩, _⟩ := r8 lR
  rw [hL, List.mem_singleton] at m1
  have loc : lo c = 0 := by rw [ch2, ← m1, m2, g2]
  have hic : hi c = 1000 := by
    rcases ch3 with z | ⟨e', z1, z2⟩
    · rw [z, g3]
    · rw [hL, List.mem_singleton] at z1
      rw [z1] at z2
      omega
  refine ⟨⟨ch0, cR⟩, loc, hic, fun x hx => ?_, fun x y hx hy hl => g5 x y hx.1 hy.1 hl, fun x hx => ?_⟩
  · rcases g4 x hx.1 with z | z
    · by_cases xc : x = c
      · exact Or.inr xc
      · by_cases le : lev x = lev c
        · have d := zWf_dj hW hx.1 ch0 le xc
          have x1 := (g6 x hx.1).1
          have x2 := (g6 x hx.1).2.1
          have x3 := (g6 x hx.1).2.2.1
          clear ch3
          omega
        · exact Or.inl (by clear ch3; omega)
    · exact absurd z hx.2
  · refine zpw_tr (g6 x hx.1) (g6 x hx.1).2.2.2.2.1 rfl rfl rfl rfl rfl (fun d hd hl => ⟨⟨hd, fun z => ?_⟩, rfl, rfl, rfl⟩)
    rcases g4 x hx.1 with y | y
    · rw [← z] at y; omega
    · exact hx.2 y
end
