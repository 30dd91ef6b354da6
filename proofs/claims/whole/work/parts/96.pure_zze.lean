section
/-! the reference's cutting up -/
def zTR (L : List zT) (w : jw) : Prop := w.1 162 10 = nI L.length ∧ ∀ (i : Nat) (x : zT), L[i]? = some x → zRk x.1 (w.2.1 165 i) ∧ w.2.1 166 i = x.2.1 ∧ (x.1 = kInt → w.2.1 167 i = x.2.2)
def zfKr (w w' : jw) : Prop := w'.2.2.2 = w.2.2.2 ∧ (∀ a, a ≠ 162 → w'.1 a = w.1 a) ∧ (∀ j, j ≠ 10 → w'.1 162 j = w.1 162 j) ∧ (∀ p, p ≠ 165 → p ≠ 166 → p ≠ 167 → w'.2.1 p = w.2.1 p) ∧ ∀ p, p ≠ 168 → w'.2.2.1 p = w.2.2.1 p
theorem zfKr_rfl (w : jw) : zfKr w w := ⟨rfl, fun _ _ => rfl, fun _ _ => rfl, fun _ _ _ _ => rfl, fun _ _ => rfl⟩
theorem zfKr_trans {a b c : jw} (h : zfKr a b) (g : zfKr b c) : zfKr a c := ⟨g.1.trans h.1, fun x hx => (g.2.1 x hx).trans (h.2.1 x hx), fun x hx => (g.2.2.1 x hx).trans (h.2.2.1 x hx), fun p p1 p2 p3 => (g.2.2.2.1 p p1 p2 p3).trans (h.2.2.2.1 p p1 p2 p3), fun p hp => (g.2.2.2.2 p hp).trans (h.2.2.2.2 p hp)⟩
def zTx (bs : List Int32) (w : jw) : Prop := w.1 162 4 = nI bs.length ∧ ∀ (i : Nat) (x : Int32), bs[i]? = some x → w.2.1 164 i &&& 255 = x
theorem zTx_fr {bs : List Int32} {w w' : jw} (h : zTx bs w) (f : zfKr w w') : zTx bs w' := ⟨by rw [f.2.2.1 4 (by decide)]; exact h.1, fun i x hx => by rw [f.2.2.2.1 164 (by decide) (by decide) (by decide)]; exact h.2 i x hx⟩
theorem zKy_fr {w w' : jw} (h : zKy w) (f : zfKr w w') : zKy w' := fun i hi => by rw [f.2.2.2.2 169 (by decide)]; exact h i hi
theorem z_tokR {L : List zT} {w : jw} (h : zTR L w) (hl : L.length < 403) {k : zK} {r pl v vc : Int32} {d : Int64} (hk : zRk k r) (hv : k = kInt → v = vc) : ∃ w', f_X12_token r pl v d w = some w' ∧ zTR (L ++ [(k, pl, vc)]) w' ∧ zfKr w w' := by
  obtain ⟨h1, h2⟩ := h
  have gj : jin (w.1 162 10) 403 = true := by rw [h1]; exact z_in hl (by decide)
  have cl : Int32.toNatClampNeg (w.1 162 10) = L.length := by rw [h1, nI_clamp (by omega)]
  have up : ∀ (N N' : Nat → Int32) (y : Int32), N' = zup N L.length y → (∀ i, i < L.length → N' i = N i) ∧ N' L.length = y := fun N N' y e => ⟨fun i hi => by rw [e, zup_ne (by omega)], by rw [e, zup_eq]⟩
  refine ⟨jsetI (jsetL (jsetX (jsetX (jsetX w 165 L.length r) 166 L.length pl) 167 L.length v) 168 L.length d) 162 10 (nI (L.length + 1)), ?_, ⟨?_, fun i x hx => ?_⟩, ⟨rfl, fun a ha => z_jI2 ha, fun j hj => ?_, fun p p1 p2 p3 => ?_, fun p hp => ?_⟩⟩
  · unfold f_X12_token
    rw [z_jg gj, cl, z_jl]
    rw [z_jg (show jin ((jsetX w 165 L.length r).1 162 10) 403 = true from gj), show Int32.toNatClampNeg ((jsetX w 165 L.length r).1 162 10) = L.length from cl, z_jl]
    rw [z_jg (show jin ((jsetX (jsetX w 165 L.length r) 166 L.length pl).1 162 10) 403 = true from gj), show Int32.toNatClampNeg ((jsetX (jsetX w 165 L.length r) 166 L.length pl).1 162 10) = L.length from cl, z_jl]
    rw [z_jg (show jin ((jsetX (jsetX (jsetX w 165 L.length r) 166 L.length pl) 167 L.length v).1 162 10) 403 = true from gj), show Int32.toNatClampNeg ((jsetX (jsetX (jsetX w 165 L.length r) 166 L.length pl) 167 L.length v).1 162 10) = L.length from cl, z_jl, z_jl]
    rw [show (jsetL (jsetX (jsetX (jsetX w 165 L.length r) 166 L.length pl) 167 L.length v) 168 L.length d).1 162 10 = w.1 162 10 from rfl, h1, nI_1]
  · rw [z_jI1, zup_eq, List.length_append]; rfl
  · show zRk x.1 ((jsetX (jsetX (jsetX w 165 L.length r) 166 L.length pl) 167 L.length v).2.1 165 i) ∧ (jsetX (jsetX (jsetX w 165 L.length r) 166 L.length pl) 167 L.length v).2.1 166 i = x.2.1 ∧ (x.1 = kInt → (jsetX (jsetX (jsetX w 165 L.length r) 166 L.length pl) 167 L.length v).2.1 167 i = x.2.2)
    rw [z_jX2 (by decide), z_jX2 (by decide), z_jX1, z_jX2 (show 166 ≠ 167 by decide), z_jX1, z_jX1, z_jX2 (by decide), z_jX2 (show 167 ≠ 166 by decide), z_jX2 (by decide)]
    by_cases c : i = L.length
    · subst c
      rw [List.getElem?_append_right (Nat.le_refl _), Nat.sub_self] at hx
      cases hx
      rw [zup_eq, zup_eq, zup_eq]
      exact ⟨hk, rfl, hv⟩
    · have : i < (L ++ [(k, pl, vc)]).length := (List.getElem?_eq_some_iff.mp hx).1
      rw [List.length_append, List.length_singleton] at this
      rw [List.getElem?_append_left (by omega)] at hx
      rw [zup_ne c, zup_ne c, zup_ne c]
      exact h2 i x hx
  · rw [z_jI1, zup_ne hj]; rfl
  · show (jsetX (jsetX (jsetX w 165 L.length r) 166 L.length pl) 167 L.length v).2.1 p = _
    rw [z_jX2 p3, z_jX2 p2, z_jX2 p1]
  · show (fun a b => if a = 168 ∧ b = L.length then d else w.2.2.1 a b) p = w.2.2.1 p
    funext b
    show (if p = 168 ∧ b = L.length then d else w.2.2.1 p b) = w.2.2.1 p b
    rw [if_neg (fun z => hp z.1)]
theorem z_byteR {bs : List Int32} {w : jw} (h : zTx bs w) (hl : bs.length ≤ 2000) {i : Nat} (hi : i ≤ 5000) : f_X12_byteAt (nI i) w = some (bs.getD i 0, w) := by
  unfold f_X12_byteAt
  rw [h.1]
  by_cases c : bs.length ≤ i
  · rw [if_pos (nI_le c (by omega)), List.getD_eq_getElem?_getD, List.getElem?_eq_none c]
    rfl
  · rw [if_neg (nI_ge (by omega) (by omega)), z_jg (z_in (by omega) (by decide)), nI_clamp (by omega), h.2 i (bs.getD i 0) (by rw [List.getD_eq_getElem?_getD, List.getElem?_eq_getElem (show i < bs.length by omega)]; rfl)]
theorem z_letR (x : Int32) (w : jw) : f_X12_isLetter x w = some (zLe x, w) := by
  unfold f_X12_isLetter zLe
  split
  · rfl
  · split <;> rfl
theorem z_digR (x : Int32) (w : jw) : f_X12_isDigit x w = some (zDg x, w) := by
  unfold f_X12_isDigit zDg
  split
  · rfl
  · split <;> rfl
theorem z_signR (a x y : Int32) (w : jw) : f_X12_sign a x y w = jbd (f_X12_token (zkR (zsg x)) a 0 0 w) fun q => some (1, q) := by
  by_cases c1 : x = 59
  · subst c1; rfl
  by_cases c2 : x = 40
  · subst c2; rfl
  by_cases c3 : x = 41
  · subst c3; rfl
  by_cases c4 : x = 43
  · subst c4; rfl
  by_cases c5 : x = 45
  · subst c5; rfl
  by_cases c6 : x = 42
  · subst c6; rfl
  by_cases c7 : x = 47
  · subst c7; rfl
  by_cases c8 : x = 37
  · subst c8; rfl
  unfold f_X12_sign zsg
  rw [if_neg c1, if_neg c2, if_neg c3, z_jbd, if_neg c4, z_jbd, if_neg c5, z_jbd, if_neg c6, z_jbd, if_neg c7, z_jbd, if_neg c8, z_jbd, if_neg c1, if_neg c2, if_neg c3, if_neg c4, if_neg c5, if_neg c6, if_neg c7, if_neg c8]
  rfl
def zdc (c : Int32) : Nat := c.toNatClampNeg - 96
def zb7 (ws : List Int32) : Nat := ws.foldl (fun a c => 27 * a + zdc c) 0
theorem zLe_k {c : Int32} (h : zLe c = true) : ∃ k, 97 ≤ k ∧ k ≤ 122 ∧ c = nI k := by
  unfold zLe at h
  split at h
  · cases h
  · rename_i c1
    split at h
    · cases h
    · rename_i c2
      have h0 : ¬ c < 0 := by
        rw [Int32.lt_iff_toInt_lt] at *
        have e1 : (97 : Int32).toInt = 97 := rfl
        have e2 : (0 : Int32).toInt = 0 := rfl
        omega
      obtain ⟨k, k1, k2⟩ := nI_of h0
      rw [k2] at c1 c2
      rw [Int32.lt_iff_toInt_lt, nI_toInt k1] at c1 c2
      have e1 : (97 : Int32).toInt = 97 := rfl
      have e2 : (122 : Int32).toInt = 122 := rfl
      exact ⟨k, by omega, by omega, k2⟩
theorem z_app {a : Nat} {c : Int32} (w : jw) (h : zLe c = true) : f_X12_appends (lN a) c w = some (lN (27 * a + zdc c), w) := by
  obtain ⟨k, k1, k2, k3⟩ := zLe_k h
  unfold f_X12_appends zdc
  rw [k3, if_neg (fun z => by have := (nI_eq (a := k) (b := 0) (by omega) (by decide)).mp z; omega), show (27 : Int64) = lN 27 from rfl, lN_mul, show (97 : Int32) = nI 97 from rfl, pk_sub k1, nI_1, nI_l (by omega), lN_add, nI_clamp (by omega), show k - 97 + 1 = k - 96 by omega]
theorem zb7_r (ws : List Int32) : zb7 ws = ws.reverse.foldr (fun c a => 27 * a + zdc c) 0 := by
  unfold zb7
  rw [List.foldr_reverse]
theorem zbr_inj : ∀ l l' : List Int32, (∀ c ∈ l, zLe c = true) → (∀ c ∈ l', zLe c = true) → l.foldr (fun c a => 27 * a + zdc c) 0 = l'.foldr (fun c a => 27 * a + zdc c) 0 → l = l' := by
  intro l
  induction l with
  | nil =>
    intro l' _ h2 h3
    cases l' with
    | nil => rfl
    | cons c l' =>
      obtain ⟨k, k1, k2, k3⟩ := zLe_k (h2 c List.mem_cons_self)
      rw [List.foldr_cons, List.foldr_nil] at h3
      have : zdc c = k - 96 := by unfold zdc; rw [k3, nI_clamp (by omega)]
      omega
  | cons c l ih =>
    intro l' h1 h2 h3
    obtain ⟨k, k1, k2, k3⟩ := zLe_k (h1 c List.mem_cons_self)
    have e1 : zdc c = k - 96 := by unfold zdc; rw [k3, nI_clamp (by omega)]
    cases l' with
    | nil =>
      rw [List.foldr_cons, List.foldr_nil] at h3
      omega
    | cons c' l' =>
      obtain ⟨k', k1', k2', k3'⟩ := zLe_k (h2 c' List.mem_cons_self)
      have e2 : zdc c' = k' - 96 := by unfold zdc; rw [k3', nI_clamp (by omega)]
      rw [List.foldr_cons, List.foldr_cons] at h3
      have kk : k = k' := by omega
      have aa : l.foldr (fun c a => 27 * a + zdc c) 0 = l'.foldr (fun c a => 27 * a + zdc c) 0 := by omega
      rw [ih l' (fun x hx => h1 x (List.mem_cons_of_mem _ hx)) (fun x hx => h2 x (List.mem_cons_of_mem _ hx)) aa, k3, k3', kk]
theorem zb7_inj {ws ws' : List Int32} (h1 : ∀ c ∈ ws, zLe c = true) (h2 : ∀ c ∈ ws', zLe c = true) (h : zb7 ws = zb7 ws') : ws = ws' := by
  rw [zb7_r, zb7_r] at h
  have := zbr_inj ws.reverse ws'.reverse (fun c hc => h1 c (List.mem_reverse.mp hc)) (fun c hc => h2 c (List.mem_reverse.mp hc)) h
  exact List.reverse_inj.mp this
theorem zb7_lt : ∀ (ws : List Int32) (a : Nat), (∀ c ∈ ws, zLe c = true) → ws.foldl (fun a c => 27 * a + zdc c) a + 1 ≤ (a + 1) * 27 ^ ws.length := by
  intro ws
  induction ws with
  | nil => intro a _; simp
  | cons c ws ih =>
    intro a h
    obtain ⟨k, k1, k2, k3⟩ := zLe_k (h c List.mem_cons_self)
    have e1 : zdc c = k - 96 := by unfold zdc; rw [k3, nI_clamp (by omega)]
    rw [List.foldl_cons, List.length_cons]
    refine Nat.le_trans (ih (27 * a + zdc c) (fun x hx => h x (List.mem_cons_of_mem _ hx))) ?_
    rw [Nat.pow_succ, Nat.mul_comm (27 ^ ws.length) 27, ← Nat.mul_assoc]
    exact Nat.mul_le_mul_right _ (by omega)
theorem lN_inj {a b : Nat} (ha : a < 2 ^ 63) (hb : b < 2 ^ 63) (h : lN a = lN b) : a = b := by
  have := congrArg Int64.toInt h
  unfold lN at this
  rw [lg_ofNat_toInt ha, lg_ofNat_toInt hb] at this
  omega
def zff (a : Int64) : Nat → Nat → Int32 → Int32
  | 0, _, k => k
  | d + 1, j, k => zff a d (j + 1) (if zkeys.getD j 0 = a then nI (20 + j) else k)
theorem zff_no {a : Int64} : ∀ (d j : Nat) (k : Int32), (∀ i, j ≤ i → i < j + d → zkeys.getD i 0 ≠ a) → zff a d j k = k := by
  intro d
  induction d with
  | zero => intro j k _; rfl
  | succ d ih =>
    intro j k h
    unfold zff
    rw [if_neg (h j (Nat.le_refl _) (by omega))]
    exact ih (j + 1) k (fun i h1 h2 => h i (by omega) (by omega))
def zkws : List (List Int32) := [[112, 97, 103, 101], [112, 117, 116], [99, 117, 116], [100, 111], [101, 110, 100], [105], [106], [116, 105, 109, 101], [108, 105, 118, 101], [108, 97, 115, 116], [112, 97, 103, 101, 115]]
theorem zkws_k : ∀ i, i < 11 → zkeys.getD i 0 = lN (zb7 (zkws.getD i [])) ∧ (∀ c ∈ zkws.getD i [], zLe c = true) ∧ zb7 (zkws.getD i []) < 2 ^ 63 := by decide
theorem zff_w : ∀ i, i < 11 → zff (lN (zb7 (zkws.getD i []))) 11 0 1 = zkR (zkw (zkws.getD i [])) := by decide
theorem zff_k {ws : List Int32} (h : ∀ c ∈ ws, zLe c = true) (hl : ws.length ≤ 8) : zRk (zkw ws) (zff (lN (zb7 ws)) 11 0 1) := by
  by_cases c : ∃ i, i < 11 ∧ ws = zkws.getD i []
  · obtain ⟨i, i1, i2⟩ := c
    rw [i2, zff_w i i1]
    exact Or.inl rfl
  · have b1 : zb7 ws < 2 ^ 63 := by
      have := zb7_lt ws 0 h
      have p8 : (27 : Nat) ^ ws.length ≤ 27 ^ 8 := Nat.pow_le_pow_right (by decide) hl
      have e8 : (27 : Nat) ^ 8 = 282429536481 := by decide
      unfold zb7
      omega
    refine Or.inr ⟨?_, zff_no 11 0 1 (fun i _ i2 e => c ⟨i, by omega, ?_⟩)⟩
    · unfold zkw
      rw [if_neg (show ¬ ws = [112, 117, 116] from fun e => c ⟨1, by decide, e⟩), if_neg (show ¬ ws = [99, 117, 116] from fun e => c ⟨2, by decide, e⟩), if_neg (show ¬ ws = [100, 111] from fun e => c ⟨3, by decide, e⟩), if_neg (show ¬ ws = [101, 110, 100] from fun e => c ⟨4, by decide, e⟩), if_neg (show ¬ ws = [112, 97, 103, 101] from fun e => c ⟨0, by decide, e⟩), if_neg (show ¬ ws = [105] from fun e => c ⟨5, by decide, e⟩), if_neg (show ¬ ws = [106] from fun e => c ⟨6, by decide, e⟩), if_neg (show ¬ ws = [116, 105, 109, 101] from fun e => c ⟨7, by decide, e⟩), if_neg (show ¬ ws = [108, 105, 118, 101] from fun e => c ⟨8, by decide, e⟩), if_neg (show ¬ ws = [108, 97, 115, 116] from fun e => c ⟨9, by decide, e⟩), if_neg (show ¬ ws = [112, 97, 103, 101, 115] from fun e => c ⟨10, by decide, e⟩)]
    · obtain ⟨k1, k2, k3⟩ := zkws_k i (by omega)
      rw [k1] at e
      exact (zb7_inj k2 h (lN_inj k3 b1 e)).symm
theorem zrn_stop {f : Int32 → Bool} {bs : List Int32} : ∀ {i : Nat}, zrn f bs i < bs.length → f (bs.getD (zrn f bs i) 0) = false := by
  have key : ∀ (d i : Nat), i + d = bs.length → zrn f bs i < bs.length → f (bs.getD (zrn f bs i) 0) = false := by
    intro d
    induction d with
    | zero => intro i h1 h2; rw [zrn_e (by omega)] at h2; omega
    | succ d ih =>
      intro i h1 h2
      cases c : f (bs.getD i 0) with
      | false => rw [zrn_f c]; exact c
      | true => rw [zrn_t (by omega) c] at h2 ⊢; exact ih (i + 1) (by omega) h2
  intro i h
  have := zrn_ge f bs i
  exact key (bs.length - i) i (by omega) h
theorem zkw_ns (ws : List Int32) : zkw ws ≠ kStop := by unfold zkw; (repeat' split) <;> decide
theorem zsg_ns (x : Int32) : zsg x ≠ kStop := by unfold zsg; (repeat' split) <;> decide
theorem ztk_ns {bs : List Int32} {p : Nat} (h : p < bs.length) : (ztk bs p).1.1 ≠ kStop := by
  unfold ztk
  rw [if_neg (by omega)]
  split
  · show (if _ then kNo else _) ≠ kStop
    split
    · decide
    · exact zkw_ns _
  · split
    · show (if _ then kNo else kInt) ≠ kStop
      split <;> decide
    · exact zsg_ns _
theorem z_blankR {bs : List Int32} (hl : bs.length ≤ 2000) {L : List zT} {w : jw} (hT : zTR L w) (hL : L.length ≤ 400) (hb : zTx bs w) : ∀ (d n i : Nat), i + d = bs.length → l_X12_cutsUp (n + (zrn zBl bs i - i)) 0 (nI i) 0 0 0 0 0 0 w = l_X12_cutsUp n 0 (nI (zrn zBl bs i)) 0 0 0 0 0 0 w := by
  intro d
  induction d with
  | zero =>
    intro n i h1
    rw [zrn_e (by omega), Nat.sub_self, Nat.add_zero]
  | succ d ih =>
    intro n i h1
    cases c : zBl (bs.getD i 0) with
    | false => rw [zrn_f c, Nat.sub_self, Nat.add_zero]
    | true =>
      have ge := zrn_ge zBl bs (i + 1)
      rw [zrn_t (by omega) c, show n + (zrn zBl bs (i + 1) - i) = (n + (zrn zBl bs (i + 1) - (i + 1))) + 1 by omega, ← ih n (i + 1) (by omega)]
      rw [show l_X12_cutsUp (n + (zrn zBl bs (i + 1) - (i + 1)) + 1) 0 (nI i) 0 0 0 0 0 0 w = _ from by unfold l_X12_cutsUp; exact rfl]
      rw [if_pos (show (0 : Nat) = 0 from rfl), hT.1, if_neg (show ¬ (400 : Int32) < nI L.length from nI_nlt (a := 400) (by omega) (by decide)), z_byteR hb hl (by omega), z_jbd2, hb.1, if_pos (nI_lt (show i < bs.length by omega) (by omega)), z_jl, nI_1]
      unfold zBl at c
      split at c
      · rename_i c1; rw [if_pos c1]
      · rename_i c1
        rw [if_neg c1]
        split at c
        · rename_i c2; rw [if_pos c2]
        · rename_i c2
          rw [if_neg c2]
          split at c
          · rename_i c3; rw [if_pos c3]
          · rename_i c3
            rw [if_neg c3]
            split at c
            · rename_i c4; rw [if_pos c4]
            · cases c
theorem zBl_n {x : Int32} (h : zBl x = false) : ¬ x = 9 ∧ ¬ x = 10 ∧ ¬ x = 13 ∧ ¬ x = 32 := by
  unfold zBl at h
  refine ⟨fun z => ?_, fun z => ?_, fun z => ?_, fun z => ?_⟩ <;> subst z <;> exact absurd h (by decide)
theorem z_lm1 {bs : List Int32} (hl : bs.length ≤ 2000) {w : jw} (hb : zTx bs w) {p : Nat} {x : Int32} : ∀ (d n k : Nat), p + k + d = bs.length → (∀ c ∈ zwd bs p (p + k), zLe c = true) → l_X12_cutsUp (n + (zrn zLe bs (p + k) - (p + k)) + 1) 1 (nI p) x (nI k) 0 (lN (zb7 (zwd bs p (p + min k 8)))) 0 0 w = (if 8 < zrn zLe bs (p + k) - p then jbd (f_X12_token 3 (nI p) 0 (lN (zb7 (zwd bs p (p + 8)))) w) fun q41 => jl (nI p + nI (zrn zLe bs (p + k) - p)) fun x42 => l_X12_cutsUp n 0 x42 0 0 0 0 0 0 q41 else l_X12_cutsUp n 2 (nI p) x (nI (zrn zLe bs (p + k) - p)) 0 (lN (zb7 (zwd bs p (zrn zLe bs (p + k))))) 1 0 w) ∧ ∀ c ∈ zwd bs p (zrn zLe bs (p + k)), zLe c = true := by
  have fin : ∀ n k, p + k ≤ bs.length → zLe (bs.getD (p + k) 0) = false → l_X12_cutsUp (n + 1) 1 (nI p) x (nI k) 0 (lN (zb7 (zwd bs p (p + min k 8)))) 0 0 w = (if 8 < k then jbd (f_X12_token 3 (nI p) 0 (lN (zb7 (zwd bs p (p + 8)))) w) fun q41 => jl (nI p + nI k) fun x42 => l_X12_cutsUp n 0 x42 0 0 0 0 0 0 q41 else l_X12_cutsUp n 2 (nI p) x (nI k) 0 (lN (zb7 (zwd bs p (p + k)))) 1 0 w) := fun n k h1 h2 => by
    rw [show l_X12_cutsUp (n + 1) 1 (nI p) x (nI k) 0 (lN (zb7 (zwd bs p (p + min k 8)))) 0 0 w = _ from by unfold l_X12_cutsUp; exact rfl]
    rw [if_neg (by decide), if_pos (show (1 : Nat) = 1 from rfl), nI_add, z_byteR hb hl (by omega), z_jbd2, z_letR, z_jbd2, h2, if_pos (show jb false = 0 from rfl)]
    by_cases c : 8 < k
    · rw [if_neg (show ¬ nI k ≤ 8 from nI_ge (a := 8) c (by omega)), z_jbd, if_pos (show (8 : Int32) < nI k from nI_lt (a := 8) c (by omega)), if_pos c, show min k 8 = 8 by omega]
    · rw [if_pos (show nI k ≤ 8 from nI_le (b := 8) (by omega) (by omega)), z_jbd, if_neg (show ¬ (8 : Int32) < nI k from nI_nlt (a := 8) (by omega) (by decide)), if_neg c, show min k 8 = k by omega]
  intro d
  induction d with
  | zero =>
    intro n k h1 h2
    have e : bs.getD (p + k) 0 = 0 := by rw [List.getD_eq_getElem?_getD, List.getElem?_eq_none (by omega)]; rfl
    have z : zLe (bs.getD (p + k) 0) = false := by rw [e]; decide
    rw [zrn_f z, Nat.sub_self, Nat.add_zero, Nat.add_sub_cancel_left]
    exact ⟨fin n k (by omega) z, h2⟩
  | succ d ih =>
    intro n k h1 h2
    cases c : zLe (bs.getD (p + k) 0) with
    | false =>
      rw [zrn_f c, Nat.sub_self, Nat.add_zero, Nat.add_sub_cancel_left]
      exact ⟨fin n k (by omega) c, h2⟩
    | true =>
      have ge := zrn_ge zLe bs (p + k + 1)
      have R := ih n (k + 1) (by omega) (fun y hy => by
        rw [show p + (k + 1) = p + k + 1 from rfl, zwd_t (by omega) (by omega)] at hy
        rcases List.mem_append.mp hy with z | z
        · exact h2 y z
        · rw [List.mem_singleton.mp z]; exact c)
      rw [show p + (k + 1) = p + k + 1 from rfl] at R
      rw [zrn_t (by omega) c]
      refine ⟨?_, R.2⟩
      rw [← R.1, show n + (zrn zLe bs (p + k + 1) - (p + k)) + 1 = (n + (zrn zLe bs (p + k + 1) - (p + k + 1)) + 1) + 1 by omega]
      rw [show l_X12_cutsUp (n + (zrn zLe bs (p + k + 1) - (p + k + 1)) + 1 + 1) 1 (nI p) x (nI k) 0 (lN (zb7 (zwd bs p (p + min k 8)))) 0 0 w = _ from by unfold l_X12_cutsUp; exact rfl]
      rw [if_neg (by decide), if_pos (show (1 : Nat) = 1 from rfl), nI_add, z_byteR hb hl (by omega), z_jbd2, z_letR, z_jbd2, c, if_neg (show ¬ jb true = 0 by decide)]
      by_cases d8 : 8 ≤ k
      · rw [if_pos (show (8 : Int32) ≤ nI k from nI_le (a := 8) d8 (by omega)), z_jbd2, z_jl, nI_1, show min k 8 = min (k + 1) 8 by omega]
      · rw [if_neg (show ¬ (8 : Int32) ≤ nI k from nI_ge (b := 8) (by omega) (by decide)), z_byteR hb hl (by omega), z_jbd2, z_app w c, z_jbd2, z_jbd2, z_jl, nI_1, show min k 8 = k by omega, show min (k + 1) 8 = k + 1 by omega, show p + (k + 1) = p + k + 1 from rfl, zwd_t (by omega) (by omega)]
        rw [show zb7 (zwd bs p (p + k) ++ [bs.getD (p + k) 0]) = 27 * zb7 (zwd bs p (p + k)) + zdc (bs.getD (p + k) 0) from by unfold zb7; rw [List.foldl_append]; rfl]
theorem z_cmp0 (a b : Int64) : lg_cmp a b = 0 ↔ a = b := by
  unfold lg_cmp
  by_cases c : a > b
  · rw [if_pos c]
    exact ⟨fun z => absurd z (by decide), fun z => absurd c (by rw [z]; exact Int64.lt_irrefl)⟩
  · rw [if_neg c]
    by_cases d : a = b
    · rw [if_pos d]
      exact ⟨fun _ => d, fun _ => rfl⟩
    · rw [if_neg d]
      exact ⟨fun z => absurd z (by decide), fun z => absurd z d⟩
theorem z_lm2 {w : jw} (hk : zKy w) {b1 x b3 : Int32} {a : Int64} : ∀ (d n j : Nat) (k : Int32), j + d = 11 → l_X12_cutsUp (n + d + 1) 2 b1 x b3 0 a k (nI j) w = jbd (f_X12_token (zff a d j k) b1 0 a w) fun q55 => jl (b1 + b3) fun x56 => l_X12_cutsUp n 0 x56 0 0 0 0 0 0 q55 := by
  intro d
  induction d with
  | zero =>
    intro n j k h
    rw [show l_X12_cutsUp (n + 0 + 1) 2 b1 x b3 0 a k (nI j) w = _ from by unfold l_X12_cutsUp; exact rfl]
    rw [if_neg (by decide), if_neg (by decide), if_pos (show (2 : Nat) = 2 from rfl), if_pos (show (11 : Int32) ≤ nI j from nI_le (a := 11) (by omega) (by omega))]
    rfl
  | succ d ih =>
    intro n j k h
    rw [show l_X12_cutsUp (n + (d + 1) + 1) 2 b1 x b3 0 a k (nI j) w = _ from by unfold l_X12_cutsUp; exact rfl]
    rw [if_neg (by decide), if_neg (by decide), if_pos (show (2 : Nat) = 2 from rfl), if_neg (show ¬ (11 : Int32) ≤ nI j from nI_ge (b := 11) (by omega) (by decide)), z_jg (z_in (by omega) (by decide)), nI_clamp (by omega), hk j (by omega)]
    unfold zff
    by_cases c : zkeys.getD j 0 = a
    · rw [if_pos ((z_cmp0 _ _).mpr c), if_pos c, z_jl, z_jbd, z_jl, nI_1, show (20 : Int32) = nI 20 from rfl, nI_add]
      exact ih n (j + 1) _ (by omega)
    · rw [if_neg (fun z => c ((z_cmp0 _ _).mp z)), if_neg c, z_jbd, z_jl, nI_1]
      exact ih n (j + 1) k (by omega)
theorem z_lm3 {bs : List Int32} (hl : bs.length ≤ 2000) {w : jw} (hb : zTx bs w) {p : Nat} {x : Int32} : ∀ (d n k : Nat), p + k + d = bs.length → l_X12_cutsUp (n + (zrn zDg bs (p + k) - (p + k)) + 1) 3 (nI p) x (nI k) (znm (zwd bs p (p + min k 4)) 0) 0 0 0 w = jbd (f_X12_token (if 4 < zrn zDg bs (p + k) - p then 3 else 2) (nI p) (znm (zwd bs p (p + min (zrn zDg bs (p + k) - p) 4)) 0) 0 w) fun q73 => jl (nI p + nI (zrn zDg bs (p + k) - p)) fun x74 => l_X12_cutsUp n 0 x74 0 0 0 0 0 0 q73 := by
  have fin : ∀ n k, p + k ≤ bs.length → zDg (bs.getD (p + k) 0) = false → l_X12_cutsUp (n + 1) 3 (nI p) x (nI k) (znm (zwd bs p (p + min k 4)) 0) 0 0 0 w = jbd (f_X12_token (if 4 < k then 3 else 2) (nI p) (znm (zwd bs p (p + min k 4)) 0) 0 w) fun q73 => jl (nI p + nI k) fun x74 => l_X12_cutsUp n 0 x74 0 0 0 0 0 0 q73 := fun n k h1 h2 => by
    rw [show l_X12_cutsUp (n + 1) 3 (nI p) x (nI k) (znm (zwd bs p (p + min k 4)) 0) 0 0 0 w = _ from by unfold l_X12_cutsUp; exact rfl]
    rw [if_neg (by decide), if_neg (by decide), if_neg (by decide), nI_add, z_byteR hb hl (by omega), z_jbd2, z_digR, z_jbd2, h2, if_pos (show jb false = 0 from rfl)]
    by_cases c : 4 < k
    · rw [if_neg (show ¬ nI k ≤ 4 from nI_ge (a := 4) c (by omega)), z_jbd, if_pos c]
    · rw [if_pos (show nI k ≤ 4 from nI_le (b := 4) (by omega) (by omega)), z_jbd, if_neg c]
  intro d
  induction d with
  | zero =>
    intro n k h1
    have e : bs.getD (p + k) 0 = 0 := by rw [List.getD_eq_getElem?_getD, List.getElem?_eq_none (by omega)]; rfl
    have z : zDg (bs.getD (p + k) 0) = false := by rw [e]; decide
    rw [zrn_f z, Nat.sub_self, Nat.add_zero, Nat.add_sub_cancel_left]
    exact fin n k (by omega) z
  | succ d ih =>
    intro n k h1
    cases c : zDg (bs.getD (p + k) 0) with
    | false =>
      rw [zrn_f c, Nat.sub_self, Nat.add_zero, Nat.add_sub_cancel_left]
      exact fin n k (by omega) c
    | true =>
      have ge := zrn_ge zDg bs (p + k + 1)
      have R := ih n (k + 1) (by omega)
      rw [show p + (k + 1) = p + k + 1 from rfl] at R
      rw [zrn_t (by omega) c, ← R, show n + (zrn zDg bs (p + k + 1) - (p + k)) + 1 = (n + (zrn zDg bs (p + k + 1) - (p + k + 1)) + 1) + 1 by omega]
      rw [show l_X12_cutsUp (n + (zrn zDg bs (p + k + 1) - (p + k + 1)) + 1 + 1) 3 (nI p) x (nI k) (znm (zwd bs p (p + min k 4)) 0) 0 0 0 w = _ from by unfold l_X12_cutsUp; exact rfl]
      rw [if_neg (by decide), if_neg (by decide), if_neg (by decide), nI_add, z_byteR hb hl (by omega), z_jbd2, z_digR, z_jbd2, c, if_neg (show ¬ jb true = 0 by decide)]
      by_cases d4 : 4 ≤ k
      · rw [if_pos (show (4 : Int32) ≤ nI k from nI_le (a := 4) d4 (by omega)), z_jbd2, z_jl, nI_1, show min k 4 = min (k + 1) 4 by omega]
      · rw [if_neg (show ¬ (4 : Int32) ≤ nI k from nI_ge (b := 4) (by omega) (by decide)), z_byteR hb hl (by omega), z_jbd2, z_jl, z_jbd2, z_jl, nI_1, show min k 4 = k by omega, show min (k + 1) 4 = k + 1 by omega, show p + (k + 1) = p + k + 1 from rfl, zwd_t (by omega) (by omega)]
        rw [show znm (zwd bs p (p + k) ++ [bs.getD (p + k) 0]) 0 = 10 * znm (zwd bs p (p + k)) 0 + bs.getD (p + k) 0 - 48 from by rw [Int32.mul_comm]; unfold znm; rw [List.foldl_append]; rfl]
theorem z_lexR_l {bs : List Int32} (hl : bs.length ≤ 2000) : ∀ (m n i : Nat) (L : List zT) (w : jw), zTx bs w → zKy w → zTR L w → L.length + m = 401 → i ≤ bs.length → 15 * (bs.length - i) + 2 ≤ n → ∃ w', l_X12_cutsUp n 0 (nI i) 0 0 0 0 0 0 w = some w' ∧ zTR (L ++ zlxr bs m i) w' ∧ zfKr w w' := by
  intro m
  induction m with
  | zero =>
    intro n i L w hb hk hT h1 h2 h3
    cases n with
    | zero => omega
    | succ n =>
      rw [show l_X12_cutsUp (n + 1) 0 (nI i) 0 0 0 0 0 0 w = _ from by unfold l_X12_cutsUp; exact rfl]
      rw [if_pos (show (0 : Nat) = 0 from rfl), hT.1, if_pos (show (400 : Int32) < nI L.length from nI_lt (a := 400) (by omega) (by omega))]
      exact ⟨w, rfl, by unfold zlxr; rw [List.append_nil]; exact hT, zfKr_rfl w⟩
  | succ m ih =>
    intro n i L w hb hk hT h1 h2 h3
    have pl := zrn_le (f := zBl) h2
    have pg := zrn_ge zBl bs i
    have fin : ∀ (n1 q : Nat) (w1 : jw), zTR (L ++ [(ztk bs (zrn zBl bs i)).1]) w1 → zfKr w w1 → q = (ztk bs (zrn zBl bs i)).2 → (ztk bs (zrn zBl bs i)).1.1 ≠ kStop → 15 * (bs.length - q) + 2 ≤ n1 → ∃ w', l_X12_cutsUp n1 0 (nI q) 0 0 0 0 0 0 w1 = some w' ∧ zTR (L ++ zlxr bs (m + 1) i) w' ∧ zfKr w w' := fun n1 q w1 t1 f1 hq hs hn => by
      have nx := (ztk_n (bs := bs) (p := zrn zBl bs i) (by omega)).2.1 hs
      obtain ⟨w', e1, e2, e3⟩ := ih n1 q (L ++ [(ztk bs (zrn zBl bs i)).1]) w1 (zTx_fr hb f1) (zKy_fr hk f1) t1 (by rw [List.length_append, List.length_singleton]; omega) (by omega) hn
      refine ⟨w', e1, ?_, zfKr_trans f1 e3⟩
      rw [zlxr, if_neg hs, ← hq]
      rw [List.append_assoc] at e2
      exact e2
    obtain ⟨n0, rfl⟩ : ∃ n0, n = n0 + (zrn zBl bs i - i) := ⟨n - (zrn zBl bs i - i), by omega⟩
    rw [z_blankR hl hT (by omega) hb (bs.length - i) n0 i (by omega)]
    have nb : ∀ n1, n0 = n1 + 1 → zrn zBl bs i < bs.length → l_X12_cutsUp n0 0 (nI (zrn zBl bs i)) 0 0 0 0 0 0 w = (if zLe (bs.getD (zrn zBl bs i) 0) = false then (if zDg (bs.getD (zrn zBl bs i) 0) = false then jbd (f_X12_token (zkR (zsg (bs.getD (zrn zBl bs i) 0))) (nI (zrn zBl bs i)) 0 0 w) fun q => l_X12_cutsUp n1 0 (nI (zrn zBl bs i + 1)) 0 0 0 0 0 0 q else l_X12_cutsUp n1 3 (nI (zrn zBl bs i)) (bs.getD (zrn zBl bs i) 0) 0 0 0 0 0 w) else l_X12_cutsUp n1 1 (nI (zrn zBl bs i)) (bs.getD (zrn zBl bs i) 0) 0 0 0 0 0 w) := fun n1 hn hp => by
      have bl : zBl (bs.getD (zrn zBl bs i) 0) = false := zrn_stop hp
      obtain ⟨b1, b2, b3, b4⟩ := zBl_n bl
      subst hn
      rw [show l_X12_cutsUp (n1 + 1) 0 (nI (zrn zBl bs i)) 0 0 0 0 0 0 w = _ from by unfold l_X12_cutsUp; exact rfl]
      rw [if_pos (show (0 : Nat) = 0 from rfl), hT.1, if_neg (show ¬ (400 : Int32) < nI L.length from nI_nlt (a := 400) (by omega) (by decide)), z_byteR hb hl (by omega), z_jbd2, hb.1, if_pos (nI_lt hp (by omega)), if_neg b1, if_neg b2, if_neg b3, if_neg b4, z_letR, z_jbd2]
      cases zLe (bs.getD (zrn zBl bs i) 0) with
      | true => rw [if_neg (show ¬ jb true = 0 by decide), if_neg (by decide)]
      | false =>
        rw [if_pos (show jb false = 0 from rfl), if_pos rfl, z_digR, z_jbd2]
        cases zDg (bs.getD (zrn zBl bs i) 0) with
        | true => rw [if_neg (show ¬ jb true = 0 by decide), if_neg (by decide)]
        | false =>
          rw [if_pos (show jb false = 0 from rfl), if_pos rfl, nI_1, z_byteR hb hl (by omega), z_jbd2, z_signR]
          cases f_X12_token (zkR (zsg (bs.getD (zrn zBl bs i) 0))) (nI (zrn zBl bs i)) 0 0 w with
          | none => rfl
          | some q => rw [z_jbd, z_jbd, z_jbd2, z_jl, nI_1]
    by_cases c : bs.length ≤ zrn zBl bs i
    · have pe : zrn zBl bs i = bs.length := by omega
      have t0 : ztk bs (zrn zBl bs i) = ((kStop, nI (zrn zBl bs i), 0), zrn zBl bs i + 1) := by unfold ztk; rw [if_pos c]
      obtain ⟨n1, rfl⟩ : ∃ n1, n0 = n1 + 1 := ⟨n0 - 1, by omega⟩
      obtain ⟨w1, e1, e2, e3⟩ := z_tokR (k := kStop) (r := 0) (pl := nI (zrn zBl bs i)) (v := 0) (vc := 0) (d := 0) hT (by omega) (Or.inl rfl) (fun z => absurd z (by decide))
      refine ⟨w1, ?_, ?_, e3⟩
      · rw [show l_X12_cutsUp (n1 + 1) 0 (nI (zrn zBl bs i)) 0 0 0 0 0 0 w = _ from by unfold l_X12_cutsUp; exact rfl]
        rw [if_pos (show (0 : Nat) = 0 from rfl), hT.1, if_neg (show ¬ (400 : Int32) < nI L.length from nI_nlt (a := 400) (by omega) (by decide)), z_byteR hb hl (by omega), z_jbd2, hb.1, if_neg (show ¬ nI (zrn zBl bs i) < nI bs.length from nI_nlt (by omega) (by omega)), ← pe, e1, z_jbd]
      · rw [zlxr, if_pos (by rw [t0]), t0]
        exact e2
    · have pl2 : zrn zBl bs i < bs.length := by omega
      obtain ⟨n1, hn1⟩ : ∃ n1, n0 = n1 + 1 := ⟨n0 - 1, by omega⟩
      rw [nb n1 hn1 pl2]
      generalize hp : zrn zBl bs i = p at *
      cases d : zLe (bs.getD p 0) with
      | true =>
        rw [if_neg (by decide)]
        have q1 := zrn_ge zLe bs (p + 1)
        have qe : zrn zLe bs p = zrn zLe bs (p + 1) := zrn_t pl2 d
        have ql := zrn_le (f := zLe) (bs := bs) (i := p) (by omega)
        have t0 : ztk bs p = ((if 8 < zrn zLe bs p - p then kNo else zkw (zwd bs p (zrn zLe bs p)), nI p, 0), zrn zLe bs p) := by unfold ztk; rw [if_neg c, if_pos d]
        obtain ⟨n2, hn2⟩ : ∃ n2, n1 = n2 + 11 + 1 + (zrn zLe bs p - p) + 1 := ⟨n1 - 13 - (zrn zLe bs p - p), by omega⟩
        have M := z_lm1 (p := p) (x := bs.getD p 0) hl hb (bs.length - p) (n2 + 11 + 1) 0 (by omega) (fun y hy => by rw [Nat.add_zero, zwd_0] at hy; cases hy)
        simp only [Nat.add_zero, show p + min 0 8 = p from rfl, zwd_0] at M
        rw [hn2]
        rw [show l_X12_cutsUp (n2 + 11 + 1 + (zrn zLe bs p - p) + 1) 1 (nI p) (bs.getD p 0) 0 0 0 0 0 w = _ from M.1]
        have K1 : p + (zrn zLe bs p - p) = zrn zLe bs p := by omega
        by_cases e : 8 < zrn zLe bs p - p
        · obtain ⟨w1, e1, e2, e3⟩ := z_tokR (k := kNo) (r := 3) (pl := nI p) (v := 0) (vc := 0) (d := lN (zb7 (zwd bs p (p + 8)))) hT (by omega) (Or.inl rfl) (fun _ => rfl)
          rw [if_pos e, e1, z_jbd, z_jl, nI_add, K1]
          exact fin (n2 + 11 + 1) (zrn zLe bs p) w1 (by rw [t0, if_pos e]; exact e2) e3 (by rw [t0]) (ztk_ns pl2) (by omega)
        · have wl : (zwd bs p (zrn zLe bs p)).length ≤ 8 := by unfold zwd; rw [List.length_take]; omega
          obtain ⟨w1, e1, e2, e3⟩ := z_tokR (pl := nI p) (v := 0) (vc := 0) (d := lN (zb7 (zwd bs p (zrn zLe bs p)))) hT (by omega) (zff_k M.2 wl) (fun _ => rfl)
          rw [if_neg e, show l_X12_cutsUp (n2 + 11 + 1) 2 (nI p) (bs.getD p 0) (nI (zrn zLe bs p - p)) 0 (lN (zb7 (zwd bs p (zrn zLe bs p)))) 1 0 w = _ from z_lm2 hk 11 n2 0 1 rfl, e1, z_jbd, z_jl, nI_add, K1]
          exact fin n2 (zrn zLe bs p) w1 (by rw [t0, if_neg e]; exact e2) e3 (by rw [t0]) (ztk_ns pl2) (by omega)
      | false =>
        rw [if_pos rfl]
        cases f : zDg (bs.getD p 0) with
        | true =>
          rw [if_neg (by decide)]
          have q1 := zrn_ge zDg bs (p + 1)
          have qe : zrn zDg bs p = zrn zDg bs (p + 1) := zrn_t pl2 f
          have ql := zrn_le (f := zDg) (bs := bs) (i := p) (by omega)
          have t0 : ztk bs p = ((if 4 < zrn zDg bs p - p then kNo else kInt, nI p, znm (zwd bs p (zrn zDg bs p)) 0), zrn zDg bs p) := by unfold ztk; rw [if_neg c, if_neg (by rw [d]; decide), if_pos f]
          have K1 : p + (zrn zDg bs p - p) = zrn zDg bs p := by omega
          obtain ⟨n2, hn2⟩ : ∃ n2, n1 = n2 + (zrn zDg bs p - p) + 1 := ⟨n1 - 1 - (zrn zDg bs p - p), by omega⟩
          have M := z_lm3 (p := p) (x := bs.getD p 0) hl hb (bs.length - p) n2 0 (by omega)
          simp only [Nat.add_zero, show p + min 0 4 = p from rfl, zwd_0] at M
          rw [hn2]
          rw [show l_X12_cutsUp (n2 + (zrn zDg bs p - p) + 1) 3 (nI p) (bs.getD p 0) 0 0 0 0 0 w = _ from M]
          obtain ⟨w1, e1, e2, e3⟩ := z_tokR (k := if 4 < zrn zDg bs p - p then kNo else kInt) (r := if 4 < zrn zDg bs p - p then 3 else 2) (pl := nI p) (v := znm (zwd bs p (p + min (zrn zDg bs p - p) 4)) 0) (vc := znm (zwd bs p (zrn zDg bs p)) 0) (d := 0) hT (by omega) (by split <;> exact Or.inl rfl) (fun z => by
            by_cases e : 4 < zrn zDg bs p - p
            · rw [if_pos e] at z; exact absurd z (by decide)
            · rw [show min (zrn zDg bs p - p) 4 = zrn zDg bs p - p by omega, K1])
          rw [e1, z_jbd, z_jl, nI_add, K1]
          exact fin n2 (zrn zDg bs p) w1 (by rw [t0]; exact e2) e3 (by rw [t0]) (ztk_ns pl2) (by omega)
        | false =>
          rw [if_pos rfl]
          have t0 : ztk bs p = ((zsg (bs.getD p 0), nI p, 0), p + 1) := by unfold ztk; rw [if_neg c, if_neg (by rw [d]; decide), if_neg (by rw [f]; decide)]
          obtain ⟨w1, e1, e2, e3⟩ := z_tokR (k := zsg (bs.getD p 0)) (r := zkR (zsg (bs.getD p 0))) (pl := nI p) (v := 0) (vc := 0) (d := 0) hT (by omega) (Or.inl rfl) (fun _ => rfl)
          rw [e1, z_jbd]
          exact fin n1 (p + 1) w1 (by rw [t0]; exact e2) e3 (by rw [t0]) (ztk_ns pl2) (by omega)
theorem z_lexR {bs : List Int32} {w : jw} (hl : bs.length ≤ 2000) (hb : zTx bs w) (hk : zKy w) : ∃ w', f_X12_cutsUp w = some w' ∧ zTR (zlxr bs 401 0) w' ∧ zfKr w w' := by
  unfold f_X12_cutsUp
  rw [z_jl]
  have f0 : zfKr w (jsetI w 162 10 0) := ⟨rfl, fun a ha => z_jI2 ha, fun j hj => by rw [z_jI1, zup_ne hj], fun _ _ _ _ => rfl, fun _ _ => rfl⟩
  obtain ⟨w', e1, e2, e3⟩ := z_lexR_l hl 401 jfu 0 [] (jsetI w 162 10 0) (zTx_fr hb f0) (zKy_fr hk f0) ⟨by rw [z_jI1, zup_eq]; rfl, fun i x hx => by cases hx⟩ rfl (by omega) (show _ ≤ 40000 by omega)
  exact ⟨w', e1, e2, zfKr_trans f0 e3⟩
end
