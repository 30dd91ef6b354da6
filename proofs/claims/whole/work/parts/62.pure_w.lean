section
theorem zWf_kd {A : Nat → Prop} {L : Nat → List zE} {kd : Nat → Int32} {R : Nat} {lo hi : Nat → Int} {lev : Nat → Nat} (h : zWf A L kd R lo hi lev) {x : Nat} (hx : A x) (hk : kd x ≠ 1) : lev x ≠ 0 := fun z => hk (by rw [(h.2.2.2.2.2 x hx).2.2.2.1, if_pos z])
/-- a page and the page above it: what a level must be like -/
theorem z_mklev {B P p q R : Nat} {t : Int32} {pg : Nat → zP} {r : List zE} {lo hi : Nat → Int} {lev : Nat → Nat} (hW : zWf (zal P (zvir pg p r)) (zLv (zvir pg p r)) (zKd (zvir pg p r)) R lo hi lev) (hG : zGl B t P pg) (hp : p < P) (hq : q < P) (pq : p ≠ q) (aq : (pg q).2.2.1 = -2) (kq : (pg q).1 ≠ 1) (he : ∃ e ∈ zLv pg q, e.2.2.2 = nI p) (ok : zrowok r) (hr : r.length ≤ B + 1) : zlev B t P pg p q r := by
  have qp : q ≠ p := fun e => pq e.symm
  have Aq : zal P (zvir pg p r) q := (zvir_al q).mpr ⟨hq, aq⟩
  have Lq : zLv (zvir pg p r) q = zLv pg q := zvir_ne qp
  have lq : lev q ≠ 0 := zWf_kd hW Aq (by rw [zvir_k]; exact kq)
  obtain ⟨_, _, _, _, _, nq, _, q8⟩ := hW.2.2.2.2.2 q Aq
  rw [Lq] at nq q8
  obtain ⟨_, kids⟩ := q8 lq
  refine ⟨hp, hq, pq, (hG q hq).2.1, ?_, fun e he hn => ?_, fun j j' e e' h1 h2 h3 h4 h5 => ?_, hr, ok⟩
  · obtain ⟨e, h1, h2⟩ := he
    obtain ⟨m1, m2⟩ := List.mem_filter.mp h1
    exact ⟨e, m1, by simp [zto, m2, h2]⟩
  · obtain ⟨c, c1, c2, c3, _⟩ := kids e (List.mem_filter.mpr ⟨he, hn⟩)
    exact ⟨c, c1.1, fun z => by rw [z] at c3; omega, c2, (hG c c1.1).1, (hG c c1.1).2.1⟩
  · obtain ⟨c, c1, c2, c3, c4, _⟩ := kids e (List.mem_filter.mpr ⟨List.mem_of_getElem? h1, h3⟩)
    obtain ⟨c', b1, b2, b3, b4, _⟩ := kids e' (List.mem_filter.mpr ⟨List.mem_of_getElem? h2, h4⟩)
    have x4 := (hW.2.2.2.2.2 c c1).2.2.2.2.1
    have y4 := (hW.2.2.2.2.2 c' b1).2.2.2.2.1
    have cc : c = c' := (nI_eq (by omega) (by omega)).mp (by rw [← c2, ← b2, h5])
    subst cc
    exact zkn_ix nq h1 h2 h3 h4 (ke_inj (by rw [← c4, ← b4]))
theorem zLv_app (pg : Nat → zP) (q : Nat) (l : List zE) : zLv (zapp pg q l) q = zLv pg q ++ l.filter znw := by unfold zLv zapp; rw [zup_eq, List.filter_append]
theorem znew_nw {B : Nat} {t : Int32} {P : Nat} {r : List zE} {bd : Int32} : ∀ e ∈ znew B t P r bd, znw e = true ∧ e.2.1 = t := by
  intro e he
  cases h : ztwo B r with
  | true =>
    rw [znew_two h] at he
    simp only [List.mem_cons, List.not_mem_nil, or_false] at he
    rcases he with rfl | rfl <;> exact ⟨znw_of rfl, rfl⟩
  | false =>
    rw [znew_one h] at he
    simp only [List.mem_cons, List.not_mem_nil, or_false] at he
    rw [he]; exact ⟨znw_of rfl, rfl⟩
theorem znew_fil {B : Nat} {t : Int32} {P : Nat} {r : List zE} {bd : Int32} : (znew B t P r bd).filter znw = znew B t P r bd := List.filter_eq_self.mpr (fun e he => (znew_nw e he).1)
theorem znew_pos {B : Nat} {t : Int32} {P : Nat} {r : List zE} {bd : Int32} (hb : ¬ bd < 0) (hs : ztwo B r = true → ¬ zsec r < 0) : ∀ e ∈ znew B t P r bd, ¬ e.1 < 0 := by
  intro e he
  cases h : ztwo B r with
  | true =>
    rw [znew_two h] at he
    simp only [List.mem_cons, List.not_mem_nil, or_false] at he
    rcases he with rfl | rfl
    · exact hb
    · exact hs h
  | false =>
    rw [znew_one h] at he
    simp only [List.mem_cons, List.not_mem_nil, or_false] at he
    rw [he]; exact hb
theorem zvir_up_al {P q : Nat} {pg : Nat → zP} {l : List zE} (x : Nat) : zal P (zup pg q ((pg q).1, (pg q).2.1, (pg q).2.2.1, l)) x ↔ zal P pg x := zvir_al (p := q) (r := l) x
theorem zleave_len {B P p q : Nat} {t : Int32} {pg : Nat → zP} {r : List zE} (h : zlev B t P pg p q r) (hP : P ≤ 4000) : (zleave B t pg p q r).2.1 = r ∨ (zleave B t pg p q r).2.1.length ≤ B / 4 + B := by
  obtain ⟨ip, e0, i1, i2, i3⟩ := zlev_ip h
  unfold zleave
  rw [i1]
  simp only [zgetD i2]
  cases hz : zsib B r e0.1 (pg q).2.2.2 with
  | none => exact Or.inl rfl
  | some j =>
    obtain ⟨c, e1, s, j1, j2, j3, j4, s1, s2, s3, ji, s4, s5⟩ := zlev_sib h i2 i3 hz
    simp only [zgetD j1, j4, nI_clamp (show s < 2 ^ 31 by omega)]
    refine Or.inr ?_
    rw [zgat_length]
    have := List.countP_le_length (p := znw) (l := (pg s).2.2.2)
    omega
theorem z_loop {B : Nat} {t : Int32} (hB6 : 6 ≤ B) (hB : B ≤ 12) (t2 : t ≠ -2) (tp : ¬ t < 0) : ∀ (up : List Nat) (p P : Nat) (pg : Nat → zP) (ro : List (Int32 × Int32)) (r : List zE) (R : Nat) (lo hi : Nat → Int) (lev : Nat → Nat),
    zWf (zal P (zvir pg p r)) (zLv (zvir pg p r)) (zKd (zvir pg p r)) R lo hi lev → zpot B P (zvir pg p r) R lev → zGl B t P pg → zchn pg R (p :: up) → (∀ x ∈ p :: up, x < P ∧ (pg x).2.2.1 = -2) → ((p :: up).map lev).Pairwise (fun a b => a < b) → zso2 r → zrowok r → (∀ e ∈ r, e.2.1 ≤ t) → r.length ≤ B + 1 → P + 2 * (p :: up).length + 1 ≤ 320 → ro.length ≤ P →
    zgood B t (p :: up) P pg ro r ∧ zres B t P pg ro R (zrep B t (p :: up) P pg ro r) := by
  intro up
  induction up with
  | nil =>
    intro p P pg ro r R lo hi lev hW hpt hG hch hal hlv so ok fr hr h320 hro
    have hp := hal p List.mem_cons_self
    simp only [List.length_cons, List.length_nil] at h320
    exact ⟨⟨hp.1, hr, ok, by omega, by omega⟩, z_loopR hB6 hB t2 tp hW hpt hG hch hp.1 hp.2 so ok fr hr (by omega) hro⟩
  | cons q up ih =>
    intro p P pg ro r R lo hi lev hW hpt hG hch hal hlv so ok fr hr h320 hro
    obtain ⟨hp, ap⟩ := hal p List.mem_cons_self
    obtain ⟨hq, aq⟩ := hal q (List.mem_cons_of_mem _ List.mem_cons_self)
    obtain ⟨hex, kq, hch2⟩ := hch
    simp only [List.length_cons] at h320
    rw [List.map_cons, List.pairwise_cons] at hlv
    obtain ⟨lv1, lv2⟩ := hlv
    have lpq : lev p < lev q := lv1 _ (by simp)
    have pq : p ≠ q := fun e => by rw [e] at lpq; omega
    have qp : q ≠ p := fun e => pq e.symm
    have hlev := z_mklev hW hG hp hq pq aq kq hex ok hr
    have Aq : zal P (zvir pg p r) q := (zvir_al q).mpr ⟨hq, aq⟩
    have Ap : zal P (zvir pg p r) p := (zvir_al p).mpr ⟨hp, ap⟩
    have Lq : zLv (zvir pg p r) q = zLv pg q := zvir_ne qp
    have lq : lev q ≠ 0 := by omega
    have kid : ∀ e ∈ zLv pg q, ∀ s, s < P → e.2.2.2 = nI s → (pg s).2.2.1 = -2 ∧ lev s + 1 = lev q := fun e he s hs hv => by
      obtain ⟨c1, c2, _⟩ := zWf_ch hW Aq lq (by rw [Lq]; exact he) hv (by omega)
      exact ⟨((zvir_al s).mp c1).2, c2⟩
    have lqp : lev p + 1 = lev q := by
      obtain ⟨e, h1, h2⟩ := hex
      exact (kid e h1 p hp h2).2
    obtain ⟨lo0, hi0, eb, hW0, eb1, eb2, cn1, cn2⟩ := z_T1 hlev (by omega) t2 hW ap aq lq
    obtain ⟨s1, s2, s3, s4, s5, s6⟩ := zleave_spec hlev (by omega)
    obtain ⟨a1, a2, a3, a4, a5, a6, a7, a8⟩ := zleave_all hlev (by omega) t2 (fun e he s hs hv => (kid e he s hs hv).1)
    unfold zgood zrep
    generalize hL : zleave B t pg p q r = L at *
    have alp : (L.1 p).2.2.1 = -2 := by rw [s4]; exact ap
    have alq : (L.1 q).2.2.1 = -2 := by rw [a4]; exact aq
    obtain ⟨lo', hi', lev', hW2, lv', lvn⟩ := z_T2 (B := B) (t := t) hW0 (fun x => (s3 x).symm) hp hq pq alp alq lq eb1 eb2 (a7 so) s2 hB6 (by omega) t2
    rw [s3 p] at hW2
    have frL : ∀ e ∈ L.2.1, e.2.1 ≤ t := fun e he => by
      rcases a6 e he with z | z
      · exact fr e z
      · exact z
    have hh := zhalf (r := L.2.1) hB6 hB s1
    have GL : zGl B t P L.1 := fun x hx => by
      by_cases c : x = q
      · subst c
        obtain ⟨g1, g2, g3, g4⟩ := hG x hx
        refine ⟨by rw [s6]; exact g1, fun e he => ⟨s5 e he, a8 e he⟩, by rw [a3]; exact g3, by rw [a4]; exact g4⟩
      · rcases a2 x c with z | ⟨z, _⟩
        · rw [z]; exact hG x hx
        · rw [z]
          obtain ⟨g1, g2, g3, g4⟩ := hG x hx
          exact ⟨g1, g2, g3, Or.inr (Int32.le_refl t)⟩
    have G2 := zGl_mk (k := (pg p).1) (zGl_fin GL hp) (fun e he => ⟨(s2 e he).1, (s2 e he).2, frL e he⟩) hh.1 hB6
    have M2 : zmo t P pg (P + zmn B L.2.1) (zmk B t P (zfinp L.1 p t) (pg p).1 L.2.1) := zmo_trans t2 a1 (zmo_trans t2 (zmo_fin alp) (zmo_mk t2))
    have m12 : zmn B L.2.1 = 1 ∨ zmn B L.2.1 = 2 := by unfold zmn; split <;> omega
    generalize hpg2 : zmk B t P (zfinp L.1 p t) (pg p).1 L.2.1 = pg2 at *
    have x2 : ∀ x, x < P → x ≠ p → pg2 x = L.1 x := fun x hx xp => by rw [← hpg2, zmk_lt hx]; exact zup_ne xp
    have q2 : pg2 q = L.1 q := x2 q hq qp
    have p2 : (pg2 p).2.2.1 = t := by rw [← hpg2, zmk_lt hp]; unfold zfinp; rw [zup_eq]
    have aq2 : (pg2 q).2.2.1 = -2 := by rw [q2]; exact alq
    have lq2 : lev' q ≠ 0 := by rw [lv' q hq]; exact lq
    have Lq2 : zLv pg2 q = zLv L.1 q := by unfold zLv; rw [q2]
    -- pages of the way above are as they were
    have same : ∀ x, x < P → lev q < lev x → pg2 x = pg x := fun x hx lx => by
      have xp : x ≠ p := fun e => by rw [e] at lx; omega
      have xq : x ≠ q := fun e => by rw [e] at lx; omega
      rw [x2 x hx xp]
      rcases a2 x xq with z | ⟨_, ⟨e, z1, z2⟩, _, z3⟩
      · exact z
      · have := (kid e z1 x z3 z2).2; omega
    -- the row above
    have fin : ∀ (D : Nat → zP) (l : List zE), (∀ x, x ≠ q → D x = pg2 x) → D q = ((pg2 q).1, (pg2 q).2.1, (pg2 q).2.2.1, l) → (zLv pg2 q ++ znew B t P L.2.1 L.2.2).Perm (l.filter znw) → zWf (zal (P + zmn B L.2.1) D) (zLv D) (zKd D) R lo' hi' lev' ∧ zpot B (P + zmn B L.2.1) D R lev' := fun D l dx dq pm => by
      have len : (zLv D q).length = (zLv L.1 q).length + zmn B L.2.1 := by
        have := pm.length_eq
        rw [List.length_append, znew_len, Lq2] at this
        unfold zLv
        rw [dq]
        exact this.symm
      refine ⟨zWf_cg hW2 (fun x => ?_) (fun x hx => ?_), ?_⟩
      · unfold zal
        by_cases c : x = q
        · subst c; rw [dq]
        · rw [dx x c]
      · by_cases c : x = q
        · subst c
          rw [zup_eq]
          unfold zLv zKd at *
          rw [dq]
          exact ⟨pm, rfl⟩
        · rw [zup_ne c]
          unfold zLv zKd
          rw [dx x c]
          exact ⟨List.Perm.refl _, rfl⟩
      · have pR : p ≠ R := fun e => by
          rcases hW.2.2.2.1 q Aq with z | z
          · rw [← e] at z; omega
          · rw [← e] at z; exact qp z
        have RP : R < P := hW.1.1
        refine zpot_step hpt hp hq pq pR RP (by unfold zvir; rw [zup_eq]; exact ap) lv' (fun x hx xp xq hd => ?_) (by rw [dx p pq, p2]; exact t2) (by omega) (fun x h1 h2 => ?_) (by unfold zvir; rw [zup_ne qp]; exact aq) (fun Rq => ?_) lqp.symm ?_
        · rw [dx x xq, x2 x hx xp] at hd
          have ex : L.1 x = pg x := by
            rcases a2 x xq with z | ⟨z, _⟩
            · exact z
            · rw [z] at hd; exact absurd hd t2
          have vx : zvir pg p r x = pg x := zup_ne xp
          unfold zLv
          rw [dx x xq, x2 x hx xp, ex, vx]
          rw [ex] at hd
          exact ⟨hd, rfl⟩
        · have xq : x ≠ q := by omega
          have hc : ztwo B L.2.1 = true → L.2.1.length ≤ B + 1 ∨ L.2.1.length ≤ B / 4 + B := fun _ => by
            have hz := zleave_len hlev (by omega)
            rw [hL] at hz
            rcases hz with z | z
            · rw [z]; exact Or.inl hr
            · exact Or.inr z
          have := zmk_len (t := t) (P := P) (pg := zfinp L.1 p t) (k := (pg p).1) (x := x) hB6 hB s1 s2 h1 h2 hc
          rw [hpg2] at this
          unfold zLv at *
          rw [dx x xq]
          exact this
        · have Rp : R ≠ p := fun e => pR e.symm
          have ex : L.1 R = pg R := by
            rcases a2 R Rq with z | ⟨_, ⟨e, z1, z2⟩, _, z3⟩
            · exact z
            · have l1 := (kid e z1 R z3 z2).2
              rcases hW.2.2.2.1 q Aq with y | y
              · omega
              · exact absurd y.symm Rq
          unfold zLv
          rw [dx R Rq, x2 R RP Rp, ex, show zvir pg p r R = pg R from zup_ne Rp]
        · rw [Lq, zvir_p ok, len]
          rcases cn2 with z | z
          · cases c : ztwo B L.2.1 with
            | true =>
              rw [zmn_two c]
              have := of_decide_eq_true c
              by_cases y : (zLv L.1 q).length + 2 ≤ (zLv pg q).length
              · exact Or.inl y
              · exact Or.inr ⟨by omega, rfl, fun _ => by rw [← z]; omega⟩
            | false => rw [zmn_one c]; exact Or.inl (by omega)
          · exact Or.inl (by omega)
    have newp := znew_pos (t := t) (P := P) (r := L.2.1) (bd := L.2.2) a5 (zsec_pos hB6 s2)
    have R1 := (zvir_al R).mp hW.1
    generalize hH : zhand B t P q (decide (up.length = 0)) pg2 L.2.1 L.2.2 ro = H at *
    have lenq : (pg2 q).2.2.2.length = (pg q).2.2.2.length := by rw [q2, s6]
    have hqB := (hG q hq).1
    -- a row that goes on
    have goon : ∀ (D : Nat → zP) (l : List zE), (∀ x, x ≠ q → D x = pg2 x) → (D q).1 = (pg2 q).1 → (D q).2.1 = (pg2 q).2.1 → (D q).2.2.1 = (pg2 q).2.2.1 → zGl B t (P + zmn B L.2.1) D → zmo t P pg (P + zmn B L.2.1) D → (zLv pg2 q ++ znew B t P L.2.1 L.2.2).Perm l → zso2 l → l.length ≤ B + 1 → zgood B t (q :: up) (P + zmn B L.2.1) D ro l ∧ zres B t P pg ro R (zrep B t (q :: up) (P + zmn B L.2.1) D ro l) := fun D l dx dk dm df gD mD pm sl ll => by
      have okl : zrowok l := fun e he => by
        rcases List.mem_append.mp (pm.mem_iff.mpr he) with z | z
        · obtain ⟨z1, z2⟩ := List.mem_filter.mp z
          exact ⟨znw_to z2, by rw [q2] at z1; exact a8 e z1⟩
        · exact ⟨znw_to (znew_nw e z).1, newp e z⟩
      have frl : ∀ e ∈ l, e.2.1 ≤ t := fun e he => by
        rcases List.mem_append.mp (pm.mem_iff.mpr he) with z | z
        · obtain ⟨z1, z2⟩ := List.mem_filter.mp z
          rw [q2] at z1
          exact (s5 e z1).1
        · rw [(znew_nw e z).2]; exact Int32.le_refl t
      obtain ⟨w1, w2⟩ := fin (zvir D q l) l (fun x hx => by unfold zvir; rw [zup_ne hx]; exact dx x hx) (by unfold zvir; rw [zup_eq, dk, dm, df]) (by rw [zrow_fil okl]; exact pm)
      have sameD : ∀ x ∈ up, D x = pg x := fun x hx => by
        have lx : lev q < lev x := by
          rw [List.map_cons, List.pairwise_cons] at lv2
          exact lv2.1 _ (List.mem_map.mpr ⟨x, hx, rfl⟩)
        have xq : x ≠ q := fun e => by rw [e] at lx; omega
        have xP := (hal x (List.mem_cons_of_mem _ (List.mem_cons_of_mem _ hx))).1
        rw [dx x xq]
        exact same x xP lx
      have res := ih q (P + zmn B L.2.1) D ro l R lo' hi' lev' w1 w2 gD (zchn_cg (q :: up) (fun x hx => by
          have := sameD x hx
          unfold zLv
          rw [this]
          exact ⟨rfl, rfl⟩) hch2) (fun x hx => by
          rcases List.mem_cons.mp hx with z | z
          · rw [z]
            exact ⟨by omega, by rw [df]; exact aq2⟩
          · rw [sameD x z]
            have := hal x (List.mem_cons_of_mem _ (List.mem_cons_of_mem _ z))
            exact ⟨by omega, this.2⟩) (by
          have e : (q :: up).map lev' = (q :: up).map lev := List.map_congr_left (fun x hx => lv' x (hal x (List.mem_cons_of_mem _ hx)).1)
          rw [e]
          exact lv2) sl okl frl ll (by simp only [List.length_cons]; omega) (by omega)
      refine ⟨res.1, ?_⟩
      obtain ⟨R', lo3, hi3, lev3, r1, r2, r3, r4, r5⟩ := res.2
      exact ⟨R', lo3, hi3, lev3, r1, r2, r3, zmo_trans t2 mD r4, r5⟩
    have gApp : (pg2 q).2.2.2.length + zmn B L.2.1 ≤ B → zGl B t (P + zmn B L.2.1) (zapp pg2 q (znew B t P L.2.1 L.2.2)) := fun hl x hx => by
      unfold zapp
      by_cases c : x = q
      · subst c
        rw [zup_eq]
        obtain ⟨g1, g2, g3, g4⟩ := G2 x hx
        refine ⟨by show ((pg2 x).2.2.2 ++ znew B t P L.2.1 L.2.2).length ≤ B; rw [List.length_append, znew_len]; exact hl, fun e he => ?_, g3, g4⟩
        rcases List.mem_append.mp he with z | z
        · exact g2 e z
        · exact ⟨znew_ok e z, newp e z⟩
      · rw [zup_ne c]; exact G2 x hx
    have mApp : zmo t P pg (P + zmn B L.2.1) (zapp pg2 q (znew B t P L.2.1 L.2.2)) := zmo_trans t2 M2 (zmo_app (fun e he => (znew_nw e he).2))
    have pmApp : (zLv pg2 q ++ znew B t P L.2.1 L.2.2).Perm (((pg2 q).2.2.2 ++ znew B t P L.2.1 L.2.2).filter znw) := by rw [List.filter_append, znew_fil]; exact List.Perm.refl _
    unfold zhand at hH
    by_cases c1 : B < (pg2 q).2.2.2.length + zmn B L.2.1
    · rw [if_pos c1] at hH
      subst hH
      simp only [if_true]
      have ll : (zinl (znew B t P L.2.1 L.2.2) (zgat znw (pg2 q).2.2.2 [])).length ≤ B + 1 := by
        have e1 := (zinl_perm (znew B t P L.2.1 L.2.2) (zgat znw (pg2 q).2.2.2 [])).length_eq
        rw [List.length_append, znew_len, zgat_length] at e1
        have e2 : (zLv L.1 q).length < (zLv pg q).length := cn1
        have e3 := zlenLv pg q
        have e4 : (pg2 q).2.2.2.countP znw = (zLv L.1 q).length := by rw [← Lq2]; unfold zLv; rw [List.countP_eq_length_filter]
        simp only [List.length_nil] at e1
        omega
      obtain ⟨g1, g2⟩ := goon pg2 (zinl (znew B t P L.2.1 L.2.2) (zgat znw (pg2 q).2.2.2 [])) (fun _ _ => rfl) rfl rfl rfl G2 M2 (by
        refine List.Perm.symm ((zinl_perm _ _).trans ?_)
        refine List.Perm.append_right _ ?_
        have := zgat_perm znw (pg2 q).2.2.2 []
        rw [List.nil_append] at this
        exact this) (zinl_so _ _ (zgat_so _ _ _ zso_nil)) ll
      exact ⟨⟨hlev, by omega, by omega, fun _ => g1⟩, g2⟩
    · rw [if_neg c1] at hH
      obtain ⟨w1, w2⟩ := fin (zapp pg2 q (znew B t P L.2.1 L.2.2)) ((pg2 q).2.2.2 ++ znew B t P L.2.1 L.2.2) (fun x hx => zup_ne hx) (zup_eq _ _ _) pmApp
      have GA := gApp (by omega)
      by_cases c2 : up.length = 0
      · rw [if_pos (decide_eq_true c2)] at hH
        have upn : up = [] := List.length_eq_zero_iff.mp c2
        have qR : q = R := by rw [upn] at hch2; exact hch2
        by_cases c3 : ((pg2 q).2.2.2 ++ znew B t P L.2.1 L.2.2).countP znw = 1
        · rw [if_pos c3] at hH
          subst hH
          simp only [Bool.false_eq_true, if_false]
          refine ⟨⟨hlev, by omega, by omega, fun z => by cases z⟩, ?_⟩
          have lenL : (zLv (zapp pg2 q (znew B t P L.2.1 L.2.2)) q).length = 1 := by
            unfold zLv zapp
            rw [zup_eq, ← List.countP_eq_length_filter]
            exact c3
          have Leq : zLv (zapp pg2 q (znew B t P L.2.1 L.2.2)) q = zLv pg2 q ++ znew B t P L.2.1 L.2.2 := by rw [zLv_app, znew_fil]
          have single : zLv (zapp pg2 q (znew B t P L.2.1 L.2.2)) q = [(L.2.2, t, -2, nI P)] := by
            rw [Leq] at lenL ⊢
            rw [List.length_append, znew_len] at lenL
            have z0 : (zLv pg2 q).length = 0 := by omega
            have z1 : zmn B L.2.1 = 1 := by omega
            have tw : ztwo B L.2.1 = false := by
              cases c : ztwo B L.2.1 with
              | true => rw [zmn_two c] at z1; omega
              | false => rfl
            rw [List.length_eq_zero_iff.mp z0, znew_one tw]
            rfl
          subst qR
          have lR : lev' q ≠ 0 := lq2
          have hCl := zWf_Cl (c := P) w1 lR single rfl (by omega)
          have lvP : lev' P + 1 = lev' q := by
            rw [lvn P (Nat.le_refl _) (by omega), lv' q hq]; exact lqp
          refine ⟨P, lo', hi', lev', zWf_cg hCl (fun x => ?_) (fun x hx => ?_), zpot_cl (c := P) w2 lvP.symm (fun x hx xR => ?_) ?_, zGl_fin GA (by omega), zmo_trans t2 mApp (zmo_fin (by unfold zapp; rw [zup_eq]; exact aq2)), by show P + zmn B L.2.1 ≤ 320; omega, by simp; omega, Or.inr rfl⟩
          · unfold zal zfinp
            by_cases c : x = q
            · subst c
              simp only []
              rw [zup_eq]
              exact ⟨fun z => absurd z.2 t2, fun z => absurd rfl z.2⟩
            · simp only []
              rw [zup_ne c]
              exact ⟨fun z => ⟨z, c⟩, fun z => z.1⟩
          · unfold zLv zKd zfinp
            simp only []
            rw [zup_ne hx.2]
            exact ⟨List.Perm.refl _, rfl⟩
          · unfold zLv zfinp
            simp only []
            rw [zup_ne xR]
            exact ⟨rfl, rfl⟩
          · unfold zfinp
            simp only []
            rw [zup_eq]
            exact t2
        · rw [if_neg c3] at hH
          subst hH
          simp only [Bool.false_eq_true, if_false]
          exact ⟨⟨hlev, by omega, by omega, fun z => by cases z⟩, R, lo', hi', lev', w1, w2, GA, mApp, by show P + zmn B L.2.1 ≤ 320; omega, by show ro.length ≤ P + zmn B L.2.1; omega, Or.inl ⟨rfl, rfl⟩⟩
      · rw [if_neg (by simpa using c2)] at hH
        by_cases c3 : ((pg2 q).2.2.2 ++ znew B t P L.2.1 L.2.2).countP znw < B / 4
        · rw [if_pos c3] at hH
          subst hH
          simp only [if_true]
          have eq : (zapp pg2 q (znew B t P L.2.1 L.2.2) q).2.2.2 = (pg2 q).2.2.2 ++ znew B t P L.2.1 L.2.2 := by unfold zapp; rw [zup_eq]
          obtain ⟨g1, g2⟩ := goon (zapp pg2 q (znew B t P L.2.1 L.2.2)) (zgat znw ((pg2 q).2.2.2 ++ znew B t P L.2.1 L.2.2) []) (fun x hx => zup_ne hx) (by unfold zapp; rw [zup_eq]) (by unfold zapp; rw [zup_eq]) (by unfold zapp; rw [zup_eq]) GA mApp (by
            refine pmApp.trans ?_
            have := zgat_perm znw ((pg2 q).2.2.2 ++ znew B t P L.2.1 L.2.2) []
            rw [List.nil_append] at this
            exact this.symm) (zgat_so _ _ _ zso_nil) (by rw [zgat_length]; simp only [List.length_nil]; omega)
          exact ⟨⟨hlev, by omega, by omega, fun _ => g1⟩, g2⟩
        · rw [if_neg c3] at hH
          subst hH
          simp only [Bool.false_eq_true, if_false]
          exact ⟨⟨hlev, by omega, by omega, fun z => by cases z⟩, R, lo', hi', lev', w1, w2, GA, mApp, by show P + zmn B L.2.1 ≤ 320; omega, by show ro.length ≤ P + zmn B L.2.1; omega, Or.inl ⟨rfl, rfl⟩⟩
end
