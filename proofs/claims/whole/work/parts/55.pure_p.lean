section
variable {A : Nat → Prop} {L : Nat → List zE} {kd : Nat → Int32} {R : Nat} {lo hi : Nat → Int} {lev : Nat → Nat}
theorem zWf_hi (h : zWf A L kd R lo hi lev) {x c : Nat} {e : zE} (hx : A x) (he : e ∈ L x) (hc : hi c = hi x ∨ ∃ e' ∈ L x, ke e' = hi c) : hi c ≤ hi x := by
  rcases hc with z | ⟨e', z1, z2⟩
  · omega
  · have := ((h.2.2.2.2.2 x hx).2.2.2.2.2.2.1 e' z1).2
    omega
theorem zWf_dj (h : zWf A L kd R lo hi lev) {x y : Nat} (hx : A x) (hy : A y) (hl : lev x = lev y) (ne : x ≠ y) : hi x ≤ lo y ∨ hi y ≤ lo x := by
  rcases h.2.2.2.2.1 x y hx hy hl with z | z
  · exact absurd z ne
  · exact z
theorem zWf_lt (h : zWf A L kd R lo hi lev) {x : Nat} (hx : A x) : lo x < hi x := (h.2.2.2.2.2 x hx).2.1
/-- two pages side by side become one -/
theorem zWf_M (h : zWf A L kd R lo hi lev) {a b p s q : Nat} {ea eb : zE} {f : Int32} {row : List zE} (ps : (p = a ∧ s = b) ∨ (p = b ∧ s = a)) (ha : A a) (hb : A b) (hq : A q) (lq : lev q ≠ 0) (hea : ea ∈ L q) (heb : eb ∈ L q) (va : ea.2.2.2 = nI a) (vb : eb.2.2.2 = nI b) (ab : a ≠ b) (adj : hi a = lo b) (hr : (L a ++ L b).Perm row) :
    zWf (fun x => A x ∧ x ≠ s) (zup (zup L q ((L q).filter (fun e => decide (e.1 ≠ ea.1 ∧ e.1 ≠ eb.1)) ++ [(ea.1, f, -2, nI p)])) p row) kd R (zup lo p (lo a)) (zup hi p (hi b)) lev := by
  have hW := h
  have a4 := (h.2.2.2.2.2 a ha).2.2.2.2.1
  have b4 := (h.2.2.2.2.2 b hb).2.2.2.2.1
  obtain ⟨_, ca1, ca2, ca3, ca4⟩ := zWf_ch h hq lq hea va a4
  obtain ⟨_, cb1, cb2, cb3, cb4⟩ := zWf_ch h hq lq heb vb b4
  have hp : A p := by rcases ps with z | z <;> rw [z.1] <;> assumption
  have hs : A s := by rcases ps with z | z <;> rw [z.2] <;> assumption
  have lp : lev p + 1 = lev q := by rcases ps with z | z <;> rw [z.1] <;> assumption
  have ls : lev s + 1 = lev q := by rcases ps with z | z <;> rw [z.2] <;> assumption
  have psn : p ≠ s := by rcases ps with z | z <;> rw [z.1, z.2] <;> first | exact ab | exact fun e => ab e.symm
  have isab : ∀ x, x ≠ p → x ≠ s → x ≠ a ∧ x ≠ b := fun x x1 x2 => by
    rcases ps with ⟨z1, z2⟩ | ⟨z1, z2⟩
    · exact ⟨z1 ▸ x1, z2 ▸ x2⟩
    · exact ⟨z2 ▸ x2, z1 ▸ x1⟩
  have la := zWf_lt h ha
  have lb := zWf_lt h hb
  obtain ⟨h1, h2, h3, h4, h5, h6⟩ := h
  have sR : s ≠ R := fun e => by
    rcases h4 q hq with z | z
    · rw [← e] at z; omega
    · rw [z, ← e] at ls; omega
  have pR : p ≠ R := fun e => by
    rcases h4 q hq with z | z
    · rw [← e] at z; omega
    · rw [z, ← e] at lp; omega
  have pq : p ≠ q := fun e => by rw [e] at lp; omega
  have sq : s ≠ q := fun e => by rw [e] at ls; omega
  have mq : ∀ e, e ∈ (L q).filter (fun e => decide (e.1 ≠ ea.1 ∧ e.1 ≠ eb.1)) ++ [(ea.1, f, -2, nI p)] ↔ (e ∈ L q ∧ e.1 ≠ ea.1 ∧ e.1 ≠ eb.1) ∨ e = (ea.1, f, -2, nI p) := fun e => by
    simp [List.mem_append, List.mem_filter]
  have mr : ∀ e, e ∈ row ↔ e ∈ L a ∨ e ∈ L b := fun e => by rw [← hr.mem_iff, List.mem_append]
  have kk : ke (ea.1, f, -2, nI p) = ke ea := rfl
  refine ⟨⟨h1, fun e => sR e.symm⟩, by rw [zup_ne (fun e => pR e.symm)]; exact h2, by rw [zup_ne (fun e => pR e.symm)]; exact h3, fun x hx => h4 x hx.1, fun x y hx hy hl => ?_, fun x hx => ?_⟩
  · by_cases xp : x = p
    · by_cases yp : y = p
      · exact Or.inl (xp.trans yp.symm)
      · subst xp
        rw [zup_eq, zup_eq, zup_ne yp, zup_ne yp]
        obtain ⟨ya, yb⟩ := isab y yp hy.2
        have d1 := zWf_dj hW ha hy.1 (by omega) (fun e => ya e.symm)
        have d2 := zWf_dj hW hb hy.1 (by omega) (fun e => yb e.symm)
        have := zWf_lt hW hy.1
        omega
    · by_cases yp : y = p
      · subst yp
        rw [zup_eq, zup_eq, zup_ne xp, zup_ne xp]
        obtain ⟨ya, yb⟩ := isab x xp hx.2
        have d1 := zWf_dj hW ha hx.1 (by omega) (fun e => ya e.symm)
        have d2 := zWf_dj hW hb hx.1 (by omega) (fun e => yb e.symm)
        have := zWf_lt hW hx.1
        omega
      · rw [zup_ne xp, zup_ne yp, zup_ne xp, zup_ne yp]
        exact h5 x y hx.1 hy.1 hl
  · obtain ⟨hxA, xs⟩ := hx
    by_cases xp : x = p
    · subst xp
      obtain ⟨a1, a2, a3, aa4, a5, a6, a7, a8⟩ := h6 a ha
      obtain ⟨b1, b2, b3, bb4, b5, b6, b7, b8⟩ := h6 b hb
      obtain ⟨_, _, _, x4, x5, _, _, _⟩ := h6 x hxA
      unfold zpw
      rw [zup_eq, zup_eq, zup_eq]
      refine ⟨a1, by omega, b3, x4, x5, zkn_perm (zkn_app a6 b6 (fun u hu v hv e => ?_)) hr, fun e he => ?_, fun l0 => ?_⟩
      · have k1 := (a7 u hu).2
        have k2 := (b7 v hv).1
        have : ke u = ke v := by unfold ke; rw [e]
        omega
      · rcases (mr e).mp he with z | z
        · have := a7 e z; omega
        · have := b7 e z; omega
      · obtain ⟨⟨ma, ma1, ma2⟩, ga⟩ := a8 (by omega)
        obtain ⟨⟨mb, mb1, mb2⟩, gb⟩ := b8 (by omega)
        refine ⟨⟨ma, (mr ma).mpr (Or.inl ma1), ma2⟩, fun e he => ?_⟩
        rcases (mr e).mp he with z | z
        · obtain ⟨c, c1, c2, c3, c4, c5, c6⟩ := ga e z
          have cx : c ≠ x := fun e => by rw [e] at c3; omega
          have cs : c ≠ s := fun e => by rw [e] at c3; omega
          refine ⟨c, ⟨c1, cs⟩, c2, by omega, by rw [zup_ne cx]; exact c4, ?_, fun e' he' hk => ?_⟩
          · rw [zup_ne cx]
            rcases c5 with y | ⟨e', y1, y2⟩
            · exact Or.inr ⟨mb, (mr mb).mpr (Or.inr mb1), by omega⟩
            · exact Or.inr ⟨e', (mr e').mpr (Or.inl y1), y2⟩
          · rw [zup_ne cx]
            rcases (mr e').mp he' with y | y
            · exact c6 e' y hk
            · have := zWf_hi hW ha z c5
              have := (b7 e' y).1
              omega
        · obtain ⟨c, c1, c2, c3, c4, c5, c6⟩ := gb e z
          have cx : c ≠ x := fun e => by rw [e] at c3; omega
          have cs : c ≠ s := fun e => by rw [e] at c3; omega
          refine ⟨c, ⟨c1, cs⟩, c2, by omega, by rw [zup_ne cx]; exact c4, ?_, fun e' he' hk => ?_⟩
          · rw [zup_ne cx]
            rcases c5 with y | ⟨e', y1, y2⟩
            · exact Or.inl y
            · exact Or.inr ⟨e', (mr e').mpr (Or.inr y1), y2⟩
          · rw [zup_ne cx]
            rcases (mr e').mp he' with y | y
            · have := (a7 e' y).2
              have := (b7 e z).1
              omega
            · exact c6 e' y hk
    · obtain ⟨a1, a2, a3, aa4, a5, a6, a7, a8⟩ := h6 x hxA
      by_cases xq : x = q
      · subst xq
        unfold zpw
        have eL : zup (zup L x ((L x).filter (fun e => decide (e.1 ≠ ea.1 ∧ e.1 ≠ eb.1)) ++ [(ea.1, f, -2, nI p)])) p row x = (L x).filter (fun e => decide (e.1 ≠ ea.1 ∧ e.1 ≠ eb.1)) ++ [(ea.1, f, -2, nI p)] := by rw [zup_ne xp, zup_eq]
        rw [eL, zup_ne xp, zup_ne xp]
        have keq : ∀ e e' : zE, ke e = ke e' → e.1 = e'.1 := fun e e' => ke_inj
        -- the others lie outside
        have out : ∀ e ∈ L x, e.1 ≠ ea.1 → e.1 ≠ eb.1 → ∀ c, A c → e.2.2.2 = nI c → lev c + 1 = lev x → lo c = ke e → c ≠ p ∧ c ≠ s ∧ (hi c ≤ lo a ∨ hi b ≤ lo c) := fun e he n1 n2 c hc hv hl hlo => by
          have ca : c ≠ a := fun z => n1 (ke_inj (by rw [← hlo, z, ca2]))
          have cb : c ≠ b := fun z => n2 (ke_inj (by rw [← hlo, z, cb2]))
          have d1 := zWf_dj hW ha hc (by omega) (fun e => ca e.symm)
          have d2 := zWf_dj hW hb hc (by omega) (fun e => cb e.symm)
          have := zWf_lt hW hc
          refine ⟨?_, ?_, by omega⟩
          · rcases ps with z | z <;> rw [z.1] <;> assumption
          · rcases ps with z | z <;> rw [z.2] <;> assumption
        obtain ⟨⟨em, g1, g2⟩, g3⟩ := a8 lq
        refine ⟨a1, a2, a3, aa4, a5, zkn_snoc (zkn_fil _ a6) (fun y hy => ?_), fun e hm => ?_, fun l0 => ⟨?_, fun e hm => ?_⟩⟩
        · have := of_decide_eq_true (List.mem_filter.mp hy).2
          exact this.1
        · rcases (mq e).mp hm with z | z
          · exact a7 e z.1
          · rw [z]; exact a7 ea hea
        · by_cases z1 : em.1 = ea.1
          · exact ⟨_, (mq _).mpr (Or.inr rfl), by rw [kk]; unfold ke at *; rw [← z1]; exact g2⟩
          · by_cases z2 : em.1 = eb.1
            · have : ke eb = lo x := by unfold ke at *; rw [← z2]; exact g2
              have := (a7 ea hea).1
              omega
            · exact ⟨em, (mq em).mpr (Or.inl ⟨g1, z1, z2⟩), g2⟩
        · rcases (mq e).mp hm with ⟨z1, z2, z3⟩ | z
          · obtain ⟨c, c1, c2, c3, c4, c5, c6⟩ := g3 e z1
            obtain ⟨o1, o2, o3⟩ := out e z1 z2 z3 c c1 c2 c3 c4
            have lc := zWf_lt hW c1
            refine ⟨c, ⟨c1, o2⟩, c2, c3, by rw [zup_ne o1]; exact c4, ?_, fun e' he' hk => ?_⟩
            · rw [zup_ne o1]
              rcases c5 with y | ⟨e', y1, y2⟩
              · exact Or.inl y
              · by_cases w1 : e'.1 = ea.1
                · exact Or.inr ⟨_, (mq _).mpr (Or.inr rfl), by rw [kk, ← y2]; unfold ke; rw [w1]⟩
                · by_cases w2 : e'.1 = eb.1
                  · have : ke e' = ke eb := by unfold ke; rw [w2]
                    omega
                  · exact Or.inr ⟨e', (mq e').mpr (Or.inl ⟨y1, w1, w2⟩), y2⟩
            · rw [zup_ne o1]
              rcases (mq e').mp he' with ⟨w1, w2, w3⟩ | w
              · exact c6 e' w1 hk
              · rw [w, kk] at hk ⊢
                exact c6 ea hea hk
          · subst z
            refine ⟨p, ⟨hp, psn⟩, rfl, lp, by rw [zup_eq, kk]; exact ca2, ?_, fun e' he' hk => ?_⟩
            · rw [zup_eq]
              rcases cb3 with y | ⟨e', y1, y2⟩
              · exact Or.inl y
              · refine Or.inr ⟨e', (mq e').mpr (Or.inl ⟨y1, fun w => ?_, fun w => ?_⟩), y2⟩
                · have : ke e' = ke ea := by unfold ke; rw [w]
                  omega
                · have : ke e' = ke eb := by unfold ke; rw [w]
                  omega
            · rw [zup_eq]
              rw [kk] at hk
              rcases (mq e').mp he' with ⟨w1, w2, w3⟩ | w
              · obtain ⟨c, c1, c2, c3, c4, c5, c6⟩ := g3 e' w1
                obtain ⟨o1, o2, o3⟩ := out e' w1 w2 w3 c c1 c2 c3 c4
                have lc := zWf_lt hW c1
                omega
              · rw [w, kk] at hk; omega
      · unfold zpw
        have eL : zup (zup L q ((L q).filter (fun e => decide (e.1 ≠ ea.1 ∧ e.1 ≠ eb.1)) ++ [(ea.1, f, -2, nI p)])) p row x = L x := by rw [zup_ne xp, zup_ne xq]
        rw [eL, zup_ne xp, zup_ne xp]
        refine ⟨a1, a2, a3, aa4, a5, a6, a7, fun l0 => ?_⟩
        obtain ⟨g1, g3⟩ := a8 l0
        refine ⟨g1, fun e hm => ?_⟩
        obtain ⟨c, c1, c2, c3, c4, c5, c6⟩ := g3 e hm
        have ca : c ≠ a := fun z => xq (zWf_one hW hxA hq l0 lq hm hea (by rw [c2, z]) va a4).1
        have cb : c ≠ b := fun z => xq (zWf_one hW hxA hq l0 lq hm heb (by rw [c2, z]) vb b4).1
        have cp : c ≠ p := by rcases ps with z | z <;> rw [z.1] <;> assumption
        have cs : c ≠ s := by rcases ps with z | z <;> rw [z.2] <;> assumption
        exact ⟨c, ⟨c1, cs⟩, c2, c3, by rw [zup_ne cp]; exact c4, by rw [zup_ne cp]; exact c5, by rw [zup_ne cp]; exact c6⟩
end
