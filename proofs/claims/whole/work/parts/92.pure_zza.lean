section
/-! reads, thin, held: the walk over the pages of a time -/
def zbf (g : Nat → List Nat) : Nat → Nat → List Nat → List Nat
  | 0, _, L => L
  | m + 1, k, L => match L[k]? with
    | none => L
    | some y => zbf g m (k + 1) (L ++ g y)
theorem zbf_n {g : Nat → List Nat} {m k : Nat} {L : List Nat} (h : L[k]? = none) : zbf g (m + 1) k L = L := by
  unfold zbf; rw [h]
theorem zbf_s {g : Nat → List Nat} {m k y : Nat} {L : List Nat} (h : L[k]? = some y) : zbf g (m + 1) k L = zbf g m (k + 1) (L ++ g y) := by
  rw [show zbf g (m + 1) k L = (match L[k]? with
    | none => L
    | some y => zbf g m (k + 1) (L ++ g y)) from rfl, h]
def zkid (lo hi t : Int32) (pg : Nat → zP) (y : Nat) : List Nat := if (pg y).1 = 1 then [] else (zbe lo hi t (pg y).2.2.2 (pg y).2.2.2).map Int32.toNatClampNeg
theorem z_pig : ∀ (P : Nat) (L : List Nat), L.Nodup → (∀ y ∈ L, y < P) → L.length ≤ P := by
  intro P
  induction P with
  | zero =>
    intro L _ h
    cases L with
    | nil => exact Nat.le_refl _
    | cons a l => exact absurd (h a (List.mem_cons_self)) (by omega)
  | succ P ih =>
    intro L hn h
    by_cases c : P ∈ L
    · have := ih (L.erase P) (hn.erase P) (fun y hy => by
        have h1 := (hn.mem_erase_iff).mp hy
        have h2 := h y h1.2
        have h3 := h1.1
        omega)
      rw [List.length_erase_of_mem c] at this
      omega
    · have := ih L hn (fun y hy => by
        have h2 := h y hy
        have h3 : y ≠ P := fun z => c (z ▸ hy)
        omega)
      omega
variable {B P R : Nat} {pg : Nat → zP} {lo hi : Nat → Int} {lev : Nat → Nat} {a b t : Int32}
theorem zkid_in (hW : zWf (zAt t P pg) (zLt t pg) (zKd pg) R lo hi lev) {y c : Nat} (hy : zAt t P pg y) (hc : c ∈ zkid a b t pg y) : lev y ≠ 0 ∧ zAt t P pg c ∧ ∃ e ∈ zLt t pg y, e.2.2.2 = nI c := by
  unfold zkid at hc
  by_cases k : (pg y).1 = 1
  · rw [if_pos k] at hc; cases hc
  · rw [if_neg k] at hc
    have ly : lev y ≠ 0 := zWf_kd hW hy k
    rw [List.mem_map] at hc
    obtain ⟨v, v1, v2⟩ := hc
    unfold zbe at v1
    rw [List.mem_map] at v1
    obtain ⟨e, e1, e2⟩ := v1
    rw [List.mem_filter] at e1
    have me : e ∈ zLt t pg y := by
      unfold zLt
      rw [List.mem_filter]
      have := e1.2
      rw [Bool.and_eq_true] at this
      exact ⟨e1.1, this.1⟩
    obtain ⟨c', c1, c2, c3⟩ := ((hW.2.2.2.2.2 y hy).2.2.2.2.2.2.2 ly).2 e me
    have c4 : c' < 4000 := (hW.2.2.2.2.2 c' c1).2.2.2.2.1
    have : c = c' := by rw [← v2, ← e2, c2, nI_clamp (by omega)]
    subst this
    exact ⟨ly, c1, e, me, c2⟩
theorem zkid_nd (hW : zWf (zAt t P pg) (zLt t pg) (zKd pg) R lo hi lev) {y : Nat} (hy : zAt t P pg y) : (zkid a b t pg y).Nodup := by
  unfold zkid
  by_cases k : (pg y).1 = 1
  · rw [if_pos k]; exact List.nodup_nil
  · rw [if_neg k]
    have ly : lev y ≠ 0 := zWf_kd hW hy k
    unfold zbe List.Nodup
    rw [List.map_map, List.pairwise_map]
    have h1 : (zLt t pg y).Pairwise (fun x z => x.1 ≠ z.1) := List.pairwise_map.mp (hW.2.2.2.2.2 y hy).2.2.2.2.2.1
    have h2 : ((pg y).2.2.2.filter (fun e => zlv t e && zas a b t (pg y).2.2.2 e)).Pairwise (fun x z => x.1 ≠ z.1) := by
      refine List.Pairwise.sublist ?_ h1
      rw [show ((pg y).2.2.2.filter (fun e => zlv t e && zas a b t (pg y).2.2.2 e)) = ((pg y).2.2.2.filter (zlv t)).filter (zas a b t (pg y).2.2.2) from by
        rw [List.filter_filter]
        congr 1
        funext e
        rw [Bool.and_comm]]
      exact List.filter_sublist
    refine List.Pairwise.imp_of_mem ?_ h2
    intro x z hx hz ne he
    have mx : x ∈ zLt t pg y := by
      rw [List.mem_filter, Bool.and_eq_true] at hx
      exact List.mem_filter.mpr ⟨hx.1, hx.2.1⟩
    have mz : z ∈ zLt t pg y := by
      rw [List.mem_filter, Bool.and_eq_true] at hz
      exact List.mem_filter.mpr ⟨hz.1, hz.2.1⟩
    obtain ⟨c, c1, c2, _⟩ := ((hW.2.2.2.2.2 y hy).2.2.2.2.2.2.2 ly).2 x mx
    obtain ⟨d, d1, d2, _⟩ := ((hW.2.2.2.2.2 y hy).2.2.2.2.2.2.2 ly).2 z mz
    have c4 : c < 4000 := (hW.2.2.2.2.2 c c1).2.2.2.2.1
    have d4 : d < 4000 := (hW.2.2.2.2.2 d d1).2.2.2.2.1
    have cd : c = d := by
      have : Int32.toNatClampNeg x.2.2.2 = Int32.toNatClampNeg z.2.2.2 := he
      rw [c2, d2, nI_clamp (by omega), nI_clamp (by omega)] at this
      exact this
    subst cd
    exact ne (congrArg (fun q : zE => q.1) (zWf_one hW hy hy ly ly mx mz c2 d2 c4).2)
theorem zkid_n (hW : zWf (zAt t P pg) (zLt t pg) (zKd pg) R lo hi lev) {y : Nat} (hy : zAt t P pg y) (k : ¬ (pg y).1 = 1) {e : zE} (he : e ∈ (pg y).2.2.2) (hl : zlv t e = true) : nI (Int32.toNatClampNeg e.2.2.2) = e.2.2.2 := by
  have ly : lev y ≠ 0 := zWf_kd hW hy k
  obtain ⟨c, c1, c2, _⟩ := ((hW.2.2.2.2.2 y hy).2.2.2.2.2.2.2 ly).2 e (List.mem_filter.mpr ⟨he, hl⟩)
  have c4 : c < 4000 := (hW.2.2.2.2.2 c c1).2.2.2.2.1
  rw [c2, nI_clamp (by omega)]
theorem zkid_m (hW : zWf (zAt t P pg) (zLt t pg) (zKd pg) R lo hi lev) {y : Nat} (hy : zAt t P pg y) (k : ¬ (pg y).1 = 1) : zbe a b t (pg y).2.2.2 (pg y).2.2.2 = (zkid a b t pg y).map nI := by
  unfold zkid
  rw [if_neg k, List.map_map]
  unfold zbe
  rw [List.map_map]
  refine List.map_congr_left fun e he => ?_
  rw [List.mem_filter, Bool.and_eq_true] at he
  exact (zkid_n hW hy k he.1 he.2.1).symm
def zBi (t : Int32) (P : Nat) (pg : Nat → zP) (R : Nat) (lev : Nat → Nat) (k : Nat) (L : List Nat) : Prop := k ≤ L.length ∧ L.Nodup ∧ (∀ y ∈ L, zAt t P pg y) ∧ ∀ y ∈ L, y = R ∨ ∃ j x e, j < k ∧ L[j]? = some x ∧ lev x ≠ 0 ∧ e ∈ zLt t pg x ∧ e.2.2.2 = nI y
theorem zBi_len {k : Nat} {L : List Nat} (h : zBi t P pg R lev k L) : L.length ≤ P := z_pig P L h.2.1 (fun y hy => (h.2.2.1 y hy).1)
theorem zBi_st (hW : zWf (zAt t P pg) (zLt t pg) (zKd pg) R lo hi lev) {k y : Nat} {L : List Nat} (h : zBi t P pg R lev k L) (hy : L[k]? = some y) : zBi t P pg R lev (k + 1) (L ++ zkid a b t pg y) := by
  obtain ⟨h1, h2, h3, h4⟩ := h
  have kl : k < L.length := (List.getElem?_eq_some_iff.mp hy).1
  have my : y ∈ L := List.mem_of_getElem? hy
  have ay := h3 y my
  refine ⟨by rw [List.length_append]; omega, ?_, ?_, ?_⟩
  · rw [List.nodup_append]
    refine ⟨h2, zkid_nd hW ay, fun c hc d hd e => ?_⟩
    subst e
    obtain ⟨ly, ac, e, me, ve⟩ := zkid_in hW ay hd
    have c4 : c < 4000 := (hW.2.2.2.2.2 c ac).2.2.2.2.1
    rcases h4 c hc with z | ⟨j, x, e', j1, j2, j3, j4, j5⟩
    · have q := (zWf_ch hW ay ly me ve c4).2.1
      rcases hW.2.2.2.1 y ay with z' | z'
      · rw [z] at q; omega
      · rw [z, z'] at q; omega
    · have q := (zWf_one hW (h3 x (List.mem_of_getElem? j2)) ay j3 ly j4 me j5 ve c4).1
      subst q
      have := (List.getElem?_inj (by omega) h2).mp (j2.trans hy.symm)
      omega
  · intro c hc
    rcases List.mem_append.mp hc with z | z
    · exact h3 c z
    · exact (zkid_in hW ay z).2.1
  · intro c hc
    rcases List.mem_append.mp hc with z | z
    · rcases h4 c z with q | ⟨j, x, e', j1, j2, j3, j4, j5⟩
      · exact Or.inl q
      · exact Or.inr ⟨j, x, e', by omega, by rw [List.getElem?_append_left (by omega)]; exact j2, j3, j4, j5⟩
    · obtain ⟨ly, ac, e, me, ve⟩ := zkid_in hW ay z
      exact Or.inr ⟨k, y, e, by omega, by rw [List.getElem?_append_left kl]; exact hy, ly, me, ve⟩
theorem zBf_all (hW : zWf (zAt t P pg) (zLt t pg) (zKd pg) R lo hi lev) : ∀ (m k : Nat) (L : List Nat), zBi t P pg R lev k L → (zbf (zkid a b t pg) m k L).length ≤ P ∧ ∀ y ∈ zbf (zkid a b t pg) m k L, zAt t P pg y := by
  intro m
  induction m with
  | zero => intro k L h; exact ⟨zBi_len h, h.2.2.1⟩
  | succ m ih =>
    intro k L h
    cases c : L[k]? with
    | none => rw [zbf_n c]; exact ⟨zBi_len h, h.2.2.1⟩
    | some y => rw [zbf_s c]; exact ih (k + 1) _ (zBi_st hW h c)
theorem z_ctC_l (hW : zWf (zAt t P pg) (zLt t pg) (zKd pg) R lo hi lev) (hB : B ≤ 12) (hP : P ≤ 320) (hG : ∀ x, x < P → ∀ e ∈ (pg x).2.2.2, ¬ e.1 < 0) : ∀ (m n k : Nat) (L : List Nat) (w : jw), zCw B P pg w → w.2.2.2 66 = L.map nI → zBi t P pg R lev k L → P < m + k → m < n →
    l_X5_comeTo n a b t (nI k) w = some (jsetR w 66 ((zbf (zkid a b t pg) m k L).map nI)) := by
  intro m
  induction m with
  | zero =>
    intro n k L w hC h1 h2 h3 h4
    have := zBi_len h2
    have := h2.1
    omega
  | succ m ih =>
    intro n k L w hC h1 h2 h3 h4
    have l1 := zBi_len h2
    cases n with
    | zero => cases h4
    | succ n =>
      have hl : (w.2.2.2 66).length = L.length := by rw [h1, List.length_map]
      unfold l_X5_comeTo
      cases c : L[k]? with
      | none =>
        have := List.getElem?_eq_none_iff.mp c
        have := h2.1
        rw [zbf_n c, hl, if_pos (nI_le (by omega) (by omega)), ← h1, z_jRs]
      | some y =>
        have kl : k < L.length := (List.getElem?_eq_some_iff.mp c).1
        have ay := h2.2.2.1 y (List.mem_of_getElem? c)
        have yP : y < P := ay.1
        have ry : rat (w.2.2.2 66) (nI k) = nI y := by
          rw [z_rat (by omega), h1, List.getD_eq_getElem?_getD, List.getElem?_map, c]
          rfl
        rw [zbf_s c, hl, if_neg (nI_ge (by omega) (by omega)), if_neg (show ¬ (1000 : Int32) ≤ nI k from nI_ge (b := 1000) (by omega) (by decide)), ry, z_isLeafC w (by omega), z_jbd2, (hC.2.2.2.2.2.2.2.2.2 y yP).1]
        have st := zBi_st (a := a) (b := b) hW h2 c
        by_cases d : (pg y).1 = 1
        · rw [decide_eq_true d, if_neg (show ¬ jb true = 0 by decide), z_jl, nI_1]
          have e0 : L ++ zkid a b t pg y = L := by unfold zkid; rw [if_pos d, List.append_nil]
          rw [e0] at st ⊢
          exact ih n (k + 1) L w hC h1 st (by omega) (by omega)
        · have lB : (pg y).2.2.2.length ≤ B := (hC.2.2.2.2.2.2.2.2.2 y yP).2.2.2.2.1
          rw [decide_eq_false d, if_pos (show jb false = 0 from rfl), ry, z_cbC hB (by omega) yP (hG y yP) hC (by omega), z_jbd, z_jl, nI_1, zkid_m hW ay d, h1, ← List.map_append]
          have Q := ih n (k + 1) (L ++ zkid a b t pg y) (jsetR w 66 ((L ++ zkid a b t pg y).map nI)) (z_66 hC) (z_jR1 _ _ _) st (by omega) (by omega)
          rw [z_jRR] at Q
          exact Q
/-! the reference -/
def zfGt (w w' : jw) : Prop := w'.2.2 = w.2.2 ∧ (∀ a, a ≠ 162 → w'.1 a = w.1 a) ∧ (∀ j, j ≠ 45 → w'.1 162 j = w.1 162 j) ∧ (∀ p, p ≠ 190 → w'.2.1 p = w.2.1 p)
theorem zfGt_rfl (w : jw) : zfGt w w := ⟨rfl, fun _ _ => rfl, fun _ _ => rfl, fun _ _ => rfl⟩
theorem zfGt_trans {a b c : jw} (h : zfGt a b) (g : zfGt b c) : zfGt a c := ⟨g.1.trans h.1, fun x hx => (g.2.1 x hx).trans (h.2.1 x hx), fun x hx => (g.2.2.1 x hx).trans (h.2.2.1 x hx), fun p hp => (g.2.2.2 p hp).trans (h.2.2.2 p hp)⟩
theorem zfGt_st (w : jw) (i : Nat) (x y : Int32) : zfGt w (jsetI (jsetX w 190 i x) 162 45 y) := ⟨rfl, fun a ha => z_jI2 ha, fun j hj => by rw [z_jI1, zup_ne hj]; rfl, fun p hp => z_jX2 hp⟩
theorem zfQm_Gt {w w' : jw} (h : zfGt w w') : zfQm w w' := ⟨h.1, h.2.1, fun j _ j2 => h.2.2.1 j j2, fun p _ _ _ _ p5 => h.2.2.2 p p5⟩
def zLi (L : List Nat) (w : jw) : Prop := w.1 162 45 = nI L.length ∧ ∀ (i y : Nat), L[i]? = some y → w.2.1 190 i = nI y
theorem zLi_st {L : List Nat} {w : jw} {v : Int32} (h : zLi L w) (hv : nI (Int32.toNatClampNeg v) = v) : zLi (L ++ [Int32.toNatClampNeg v]) (jsetI (jsetX w 190 L.length v) 162 45 (nI (L.length + 1))) := by
  refine ⟨by rw [z_jI1, zup_eq, List.length_append]; rfl, fun i y hy => ?_⟩
  show (jsetX w 190 L.length v).2.1 190 i = nI y
  rw [z_jX1]
  by_cases c : i = L.length
  · subst c
    rw [List.getElem?_append_right (Nat.le_refl _), Nat.sub_self] at hy
    cases hy
    rw [zup_eq, hv]
  · rw [zup_ne c]
    have : i < (L ++ [Int32.toNatClampNeg v]).length := (List.getElem?_eq_some_iff.mp hy).1
    rw [List.length_append, List.length_singleton] at this
    rw [List.getElem?_append_left (by omega)] at hy
    exact h.2 i y hy
theorem z_gtI {p k : Nat} {b2 : Int32} (hp : p < P) (kd : ¬ (pg p).1 = 1) (hG : ∀ e ∈ (pg p).2.2.2, ¬ e.1 < 0) (hv : ∀ e ∈ (pg p).2.2.2, zlv t e = true → nI (Int32.toNatClampNeg e.2.2.2) = e.2.2.2) (h1 : a < 1000) (h2 : ¬ b < 0) (hb : b2 = 0 ∨ (b2 ≠ 0 ∧ ∀ e ∈ (pg p).2.2.2, zlv t e = true → zas a b t (pg p).2.2.2 e = true)) : ∀ (rest : List zE) (n i : Nat) (L : List Nat) (w : jw), zM B P pg (w.2.1 182) → (pg p).2.2.2.drop i = rest → i ≤ (pg p).2.2.2.length → zLi L w → L.length + (zbe a b t (pg p).2.2.2 rest).length ≤ 330 → rest.length < n →
    ∃ n2 w', n = n2 + rest.length + 1 ∧ l_X12_goesThrough n 1 t b2 a b (nI k) (nI p) (nI i) w = l_X12_goesThrough n2 0 t b2 a b (nI (k + 1)) 0 0 w' ∧ zfGt w w' ∧ zLi (L ++ (zbe a b t (pg p).2.2.2 rest).map Int32.toNatClampNeg) w' := by
  intro rest
  induction rest with
  | nil =>
    intro n i L w hM g1 g2 g3 g4 g5
    have hi : (pg p).2.2.2.length ≤ i := by simpa using g1
    obtain ⟨q1, q2, q3, q4, q5, q6⟩ := hM.2.2.2 p hp
    have P3 := hM.2.2.1
    cases n with
    | zero => cases g5
    | succ n =>
      refine ⟨n, w, rfl, ?_, zfGt_rfl w, by rw [zbe_nil, List.map_nil, List.append_nil]; exact g3⟩
      rw [show l_X12_goesThrough (n + 1) 1 t b2 a b (nI k) (nI p) (nI i) w = _ from by unfold l_X12_goesThrough; exact rfl]
      rw [if_neg (by decide), z_entriesOf w (by omega), z_jbd2, q2, if_pos (nI_le (by omega) (by omega)), z_jl, nI_1]
  | cons e rest ih =>
    intro n i L w hM g1 g2 g3 g4 g5
    simp only [List.length_cons] at g5
    obtain ⟨q1, q2, q3, q4, q5, q6⟩ := hM.2.2.2 p hp
    have P3 := hM.2.2.1
    have ge : (pg p).2.2.2[i]? = some e := by
      have : ((pg p).2.2.2.drop i)[0]? = some e := by rw [g1]; rfl
      rwa [List.getElem?_drop, Nat.add_zero] at this
    have il : i < (pg p).2.2.2.length := zlen_lt ge
    have me : e ∈ (pg p).2.2.2 := List.mem_of_getElem? ge
    have f := q6 i e ge
    have g6 : (pg p).2.2.2.drop (i + 1) = rest := by
      rw [← List.drop_drop, g1]
      rfl
    cases n with
    | zero => cases g5
    | succ n =>
      have skip : (zlv t e && zas a b t (pg p).2.2.2 e) = false → ∃ n2 w', n = n2 + rest.length + 1 ∧ l_X12_goesThrough n 1 t b2 a b (nI k) (nI p) (nI (i + 1)) w = l_X12_goesThrough n2 0 t b2 a b (nI (k + 1)) 0 0 w' ∧ zfGt w w' ∧ zLi (L ++ (zbe a b t (pg p).2.2.2 (e :: rest)).map Int32.toNatClampNeg) w' := fun z => by
        rw [zbe_cons, z, if_neg (by decide), List.nil_append] at g4 ⊢
        exact ih n (i + 1) L w hM g6 (by omega) g3 g4 (by omega)
      have take : (zlv t e && zas a b t (pg p).2.2.2 e) = true → L.length < 330 ∧ ∃ n2 w', n = n2 + rest.length + 1 ∧ l_X12_goesThrough n 1 t b2 a b (nI k) (nI p) (nI (i + 1)) (jsetI (jsetX w 190 L.length e.2.2.2) 162 45 (nI (L.length + 1))) = l_X12_goesThrough n2 0 t b2 a b (nI (k + 1)) 0 0 w' ∧ zfGt w w' ∧ zLi (L ++ (zbe a b t (pg p).2.2.2 (e :: rest)).map Int32.toNatClampNeg) w' := fun z => by
        have zl : zlv t e = true := (Bool.and_eq_true _ _ ▸ z : zlv t e = true ∧ _).1
        rw [zbe_cons, z, if_pos rfl] at g4 ⊢
        rw [List.length_append, List.length_singleton] at g4
        refine ⟨by omega, ?_⟩
        have m2 : zM B P pg ((jsetI (jsetX w 190 L.length e.2.2.2) 162 45 (nI (L.length + 1))).2.1 182) := by
          rw [show (jsetI (jsetX w 190 L.length e.2.2.2) 162 45 (nI (L.length + 1))).2.1 182 = w.2.1 182 from z_jX2 (by decide)]
          exact hM
        obtain ⟨n2, w', r1, r2, r3, r4⟩ := ih n (i + 1) (L ++ [Int32.toNatClampNeg e.2.2.2]) _ m2 g6 (by omega) (zLi_st g3 (hv e me zl)) (by rw [List.length_append, List.length_singleton]; omega) (by omega)
        refine ⟨n2, w', r1, r2, zfGt_trans (zfGt_st w _ _ _) r3, ?_⟩
        rw [List.map_append, List.map_singleton, ← List.append_assoc]
        exact r4
      have g0 := z_in (show 2700 + 48 * p + 4 * i + 3 < 34700 by omega) (by decide)
      have body : l_X12_goesThrough (n + 1) 1 t b2 a b (nI k) (nI p) (nI i) w = (if (zlv t e && zas a b t (pg p).2.2.2 e) = true then l_X12_goesThrough n 1 t b2 a b (nI k) (nI p) (nI (i + 1)) (jsetI (jsetX w 190 L.length e.2.2.2) 162 45 (nI (L.length + 1))) else l_X12_goesThrough n 1 t b2 a b (nI k) (nI p) (nI (i + 1)) w) := by
        rw [show l_X12_goesThrough (n + 1) 1 t b2 a b (nI k) (nI p) (nI i) w = _ from by unfold l_X12_goesThrough; exact rfl]
        rw [if_neg (by decide), z_entriesOf w (by omega), z_jbd2, q2, if_neg (nI_ge (by omega) (by omega)), z_isLeafM w (by omega), z_jbd2, q1, decide_eq_false kd, if_pos (show jb false = 0 from rfl), z_entryAt, z_jbd2, z_entryThen (by omega) f, z_jbd2]
        cases c : zlv t e with
        | false => rw [if_pos (show jb false = 0 from rfl), z_jl, nI_1, Bool.false_and, if_neg (by decide)]
        | true =>
          rw [if_neg (show ¬ jb true = 0 by decide), Bool.true_and]
          have jlw : (zas a b t (pg p).2.2.2 e) = true → jg (jin (nI (2700 + 48 * p + 4 * i) + 3) 34700) (jg (jin (w.1 162 45) 330) (jl (jsetX w 190 (Int32.toNatClampNeg (w.1 162 45)) (w.2.1 182 (Int32.toNatClampNeg (nI (2700 + 48 * p + 4 * i) + 3)))) fun w34 => jl (jsetI w34 162 45 ((w34.1 162 45) + 1)) fun w35 => jl (nI i + 1) fun x36 => (l_X12_goesThrough n 1 t b2 a b (nI k) (nI p) x36 w35))) = l_X12_goesThrough n 1 t b2 a b (nI k) (nI p) (nI (i + 1)) (jsetI (jsetX w 190 L.length e.2.2.2) 162 45 (nI (L.length + 1))) := fun z => by
            have ll := (take (by rw [c, z]; rfl)).1
            rw [nI_p3, z_jg g0, g3.1, z_jg (z_in ll (by decide)), nI_clamp (by omega), nI_clamp (by omega), f.2.2.2, z_jl, z_jl, z_jl, nI_1, show (jsetX w 190 L.length e.2.2.2).1 162 45 = w.1 162 45 from rfl, g3.1, nI_1]
          rcases hb with z | ⟨z1, z2⟩
          · rw [if_pos z, z_isAsked hM hp ge (hG e me) h1 h2, z_jbd2]
            cases d : zas a b t (pg p).2.2.2 e with
            | false => rw [if_pos (show jb false = 0 from rfl), if_neg (by decide), z_jl, nI_1]
            | true => rw [if_neg (show ¬ jb true = 0 by decide), if_pos rfl]; exact jlw d
          · rw [if_neg z1, z2 e me c, if_pos rfl]
            exact jlw (z2 e me c)
      cases c : (zlv t e && zas a b t (pg p).2.2.2 e) with
      | true =>
        obtain ⟨_, n2, w', r1, r2, r3, r4⟩ := take c
        exact ⟨n2, w', by rw [List.length_cons]; omega, by rw [body, if_pos c]; exact r2, r3, r4⟩
      | false =>
        obtain ⟨n2, w', r1, r2, r3, r4⟩ := skip c
        exact ⟨n2, w', by rw [List.length_cons]; omega, by rw [body, if_neg (by rw [c]; decide)]; exact r2, r3, r4⟩
theorem z_asAll (hW : zWf (zAt t P pg) (zLt t pg) (zKd pg) R lo hi lev) {y : Nat} (hy : zAt t P pg y) {e : zE} (he : e ∈ (pg y).2.2.2) (hl : zlv t e = true) : zas 0 999 t (pg y).2.2.2 e = true := by
  have w7 := (hW.2.2.2.2.2 y hy).2.2.2.2.2.2.1
  have w1 := (hW.2.2.2.2.2 y hy).1
  have w3 := (hW.2.2.2.2.2 y hy).2.2.1
  have k1 := w7 e (List.mem_filter.mpr ⟨he, hl⟩)
  unfold ke at k1
  unfold zas
  rw [show decide ((0 : Int32) ≤ 999) = true from rfl, Bool.true_and, Bool.and_eq_true, Bool.or_eq_true]
  refine ⟨Or.inr (decide_eq_true ?_), ?_⟩
  · rw [Int32.le_iff_toInt_le]
    have e2 : (999 : Int32).toInt = 999 := rfl
    omega
  · unfold zbh
    rw [List.all_eq_true]
    intro x hx
    by_cases c : e.1 < x.1
    · rw [decide_eq_true (show (0 : Int32) < x.1 by
        rw [Int32.lt_iff_toInt_lt] at *
        have e2 : (0 : Int32).toInt = 0 := rfl
        omega)]
      simp
    · rw [decide_eq_false c]
      simp
theorem z_gt_l {b2 : Int32} (hW : zWf (zAt t P pg) (zLt t pg) (zKd pg) R lo hi lev) (hG : ∀ x, x < P → ∀ e ∈ (pg x).2.2.2, ¬ e.1 < 0) (h1 : a < 1000) (h2 : ¬ b < 0) (hb : b2 = 0 ∨ (b2 ≠ 0 ∧ a = 0 ∧ b = 999)) : ∀ (m n k : Nat) (L : List Nat) (w : jw), zM B P pg (w.2.1 182) → zLi L w → zBi t P pg R lev k L → P < m + k → 20 * m < n →
    ∃ w', l_X12_goesThrough n 0 t b2 a b (nI k) 0 0 w = some w' ∧ zfGt w w' ∧ zLi (zbf (zkid a b t pg) m k L) w' := by
  intro m
  induction m with
  | zero =>
    intro n k L w hM g1 g2 g3 g4
    have := zBi_len g2
    have := g2.1
    omega
  | succ m ih =>
    intro n k L w hM g1 g2 g3 g4
    have l1 := zBi_len g2
    have P3 := hM.2.2.1
    have kl0 := g2.1
    cases n with
    | zero => cases g4
    | succ n =>
      have U : l_X12_goesThrough (n + 1) 0 t b2 a b (nI k) 0 0 w = (if (w.1 162 45) ≤ nI k then some w else jg (jin (nI k) 330) (jl (w.2.1 190 (Int32.toNatClampNeg (nI k)) : Int32) fun x3 => (l_X12_goesThrough n 1 t b2 a b (nI k) x3 0 w))) := by
        rw [show l_X12_goesThrough (n + 1) 0 t b2 a b (nI k) 0 0 w = _ from by unfold l_X12_goesThrough; exact rfl]
        rw [if_pos (show (0 : Nat) = 0 from rfl)]
      rw [U, g1.1]
      cases c : L[k]? with
      | none =>
        have := List.getElem?_eq_none_iff.mp c
        rw [if_pos (nI_le (by omega) (by omega)), zbf_n c]
        exact ⟨w, rfl, zfGt_rfl w, g1⟩
      | some y =>
        have kl : k < L.length := (List.getElem?_eq_some_iff.mp c).1
        have ay := g2.2.2.1 y (List.mem_of_getElem? c)
        have yP : y < P := ay.1
        have st := zBi_st (a := a) (b := b) hW g2 c
        have sl := zBi_len st
        obtain ⟨q1, q2, q3, q4, q5, q6⟩ := hM.2.2.2 y yP
        rw [if_neg (nI_ge (by omega) (by omega)), z_jg (z_in (by omega) (by decide)), nI_clamp (by omega), g1.2 k y c, z_jl, zbf_s c]
        by_cases d : (pg y).1 = 1
        · have e0 : L ++ zkid a b t pg y = L := by unfold zkid; rw [if_pos d, List.append_nil]
          rw [e0] at st ⊢
          cases n with
          | zero => omega
          | succ n =>
            have V : l_X12_goesThrough (n + 1) 1 t b2 a b (nI k) (nI y) 0 w = l_X12_goesThrough n 0 t b2 a b (nI (k + 1)) 0 0 w := by
              rw [show l_X12_goesThrough (n + 1) 1 t b2 a b (nI k) (nI y) 0 w = _ from by unfold l_X12_goesThrough; exact rfl]
              rw [if_neg (by decide), z_entriesOf w (by omega), z_jbd2, q2]
              split
              · rw [z_jl, nI_1]
              · rw [z_isLeafM w (by omega), z_jbd2, q1, decide_eq_true d, if_neg (show ¬ jb true = 0 by decide), z_jl, nI_1]
            rw [V]
            exact ih n (k + 1) L w hM g1 st (by omega) (by omega)
        · have hz := zkid_m (a := a) (b := b) hW ay d
          have hb' : b2 = 0 ∨ (b2 ≠ 0 ∧ ∀ e ∈ (pg y).2.2.2, zlv t e = true → zas a b t (pg y).2.2.2 e = true) := by
            rcases hb with z | ⟨z1, z2, z3⟩
            · exact Or.inl z
            · subst z2 z3
              exact Or.inr ⟨z1, fun e he hl => z_asAll hW ay he hl⟩
          obtain ⟨n2, w', r1, r2, r3, r4⟩ := z_gtI (k := k) yP d (hG y yP) (fun e he hl => zkid_n hW ay d he hl) h1 h2 hb' (pg y).2.2.2 n 0 L w hM rfl (by omega) g1 (by rw [hz, List.length_map]; rw [List.length_append] at sl; omega) (by omega)
          rw [show (zbe a b t (pg y).2.2.2 (pg y).2.2.2).map Int32.toNatClampNeg = zkid a b t pg y from by unfold zkid; rw [if_neg d]] at r4
          have m2 : zM B P pg (w'.2.1 182) := by rw [r3.2.2.2 182 (by decide)]; exact hM
          obtain ⟨w2, s1, s2, s3⟩ := ih n2 (k + 1) _ w' m2 r4 st (by omega) (by omega)
          exact ⟨w2, by rw [← s1]; exact r2, zfGt_trans r3 s2, s3⟩
end
