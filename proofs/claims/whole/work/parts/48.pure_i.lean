section
/-! the class hands pages up -/
def zCr (ro : List (Int32 × Int32)) (w : jw) : Prop := w.2.2.2 44 = ro.map (fun q => q.1) ∧ w.2.2.2 46 = ro.map (fun q => q.2)
def zfU (w w' : jw) : Prop := (∀ a, a ≠ 51 → a ≠ 54 → w'.1 a = w.1 a) ∧ (∀ p, p ≠ 55 → p ≠ 56 → p ≠ 57 → w'.2.1 p = w.2.1 p) ∧ w'.2.2.1 = w.2.2.1 ∧ ∀ k, (k < 19 ∨ 33 < k) → k ≠ 44 → k ≠ 46 → w'.2.2.2 k = w.2.2.2 k
theorem zfU_rfl (w : jw) : zfU w w := ⟨fun _ _ _ => rfl, fun _ _ _ _ => rfl, rfl, fun _ _ _ _ => rfl⟩
theorem zfU_trans {a b c : jw} (h : zfU a b) (g : zfU b c) : zfU a c := ⟨fun x x1 x2 => (g.1 x x1 x2).trans (h.1 x x1 x2), fun p p1 p2 p3 => (g.2.1 p p1 p2 p3).trans (h.2.1 p p1 p2 p3), g.2.2.1.trans h.2.2.1, fun k k1 k2 k3 => (g.2.2.2 k k1 k2 k3).trans (h.2.2.2 k k1 k2 k3)⟩
theorem zfU_L {w w' : jw} (h : zfL w w') : zfU w w' := ⟨h.1, h.2.1, h.2.2.1, fun k hk _ _ => h.2.2.2 k hk⟩
theorem zCr_L {ro : List (Int32 × Int32)} {w w' : jw} (h : zCr ro w) (f : zfL w w') : zCr ro w' := ⟨by rw [f.2.2.2 44 (by decide)]; exact h.1, by rw [f.2.2.2 46 (by decide)]; exact h.2⟩
theorem z_addRoot {ro : List (Int32 × Int32)} {w : jw} (x t : Int32) (h : zCr ro w) (hl : ro.length ≤ 4096) : ∃ w', f_X9_addRoot x t w = some w' ∧ zCr (ro ++ [(t, x)]) w' ∧ w'.1 = w.1 ∧ w'.2.1 = w.2.1 ∧ w'.2.2.1 = w.2.2.1 ∧ ∀ k, k ≠ 44 → k ≠ 46 → w'.2.2.2 k = w.2.2.2 k := by
  unfold f_X9_addRoot
  simp only [z_jl]
  rw [z_jg (decide_eq_true (by rw [h.1]; simpa using hl)), z_jg (decide_eq_true (by rw [z_jR2 (by decide), h.2]; simpa using hl))]
  refine ⟨_, rfl, ⟨?_, ?_⟩, rfl, rfl, rfl, fun k k1 k2 => by rw [z_jR2 k2, z_jR2 k1]⟩
  · rw [z_jR2 (by decide), z_jR1, h.1]; simp
  · rw [z_jR1, z_jR2 (by decide), h.2]; simp
theorem zmn_two {B : Nat} {r : List zE} (h : ztwo B r = true) : zmn B r = 2 := by unfold zmn; rw [if_pos h]
theorem zmn_one {B : Nat} {r : List zE} (h : ztwo B r = false) : zmn B r = 1 := by unfold zmn; rw [h]; rfl
theorem znew_two {B : Nat} {t : Int32} {P : Nat} {r : List zE} {bd : Int32} (h : ztwo B r = true) : znew B t P r bd = [(bd, t, -2, nI P), (zsec r, t, -2, nI (P + 1))] := by unfold znew; rw [if_pos h]
theorem znew_one {B : Nat} {t : Int32} {P : Nat} {r : List zE} {bd : Int32} (h : ztwo B r = false) : znew B t P r bd = [(bd, t, -2, nI P)] := by unfold znew; rw [h]; rfl
theorem znew_len (B : Nat) (t : Int32) (P : Nat) (r : List zE) (bd : Int32) : (znew B t P r bd).length = zmn B r := by
  cases h : ztwo B r with
  | true => rw [znew_two h, zmn_two h]; rfl
  | false => rw [znew_one h, zmn_one h]; rfl
def zmore (B : Nat) (r : List zE) : Int32 := nI (zmn B r)
theorem zapp_app (pg : Nat → zP) (q : Nat) (a b : List zE) : zapp (zapp pg q a) q b = zapp pg q (a ++ b) := by
  unfold zapp
  rw [zup_eq, zup_zup]
  simp
theorem z_appNew {B P P' q : Nat} {t bd : Int32} {pg : Nat → zP} {r : List zE} {w : jw} (hC : zCw B P' pg w) (hq : q < P') (hB : B ≤ 12) (hP : P' ≤ 4000) (hl : (pg q).2.2.2.length + zmn B r ≤ B) (f4 : w.1 51 4 = nI P) (f5 : w.1 51 5 = bd) (f6 : ztwo B r = true → w.1 51 6 = zsec r) :
    ∃ w8, zfP w w8 ∧ zCw B P' (zapp pg q (znew B t P r bd)) w8 ∧ ∀ {β : Type} (K : jw → Option β), (jbd (f_X6_append (nI q) (w.1 51 5) (w.1 51 4) t w) fun q6 => jbd (if zmore B r = 2 then jbd (f_X6_append (nI q) (q6.1 51 6) ((q6.1 51 4) + 1) t q6) fun q25 => some q25 else some q6) K) = K w8 := by
  have m1 : 1 ≤ zmn B r := by unfold zmn; split <;> omega
  obtain ⟨w1, a1, a2, a3⟩ := z_append bd (nI P) t hC hq (by omega) hB hP
  rw [f5, f4, a1]
  simp only [z_jbd]
  cases h : ztwo B r with
  | false =>
    refine ⟨w1, a2, by rw [znew_one h]; exact a3, fun K => ?_⟩
    rw [if_neg (by unfold zmore; rw [zmn_one h]; decide), z_jbd]
  | true =>
    rw [zmn_two h] at hl
    obtain ⟨w2, b1, b2, b3⟩ := z_append (zsec r) (nI (P + 1)) t a3 hq (by rw [zup_eq]; simp; omega) hB hP
    refine ⟨w2, zfP_trans a2 b2, ?_, fun K => ?_⟩
    · rw [znew_two h, show [(bd, t, -2, nI P), (zsec r, t, -2, nI (P + 1))] = [(bd, t, (-2 : Int32), nI P)] ++ [(zsec r, t, -2, nI (P + 1))] from rfl, ← zapp_app]
      exact b3
    · rw [if_pos (by unfold zmore; rw [zmn_two h]; decide), a2.1, f6 h, f4, nI_1, b1]
      rfl
theorem z_insNew {B P : Nat} {t bd : Int32} {r r0 : List zE} {w : jw} (hb : zB w r0) (hr : r0.length ≤ 30) (f4 : w.1 51 4 = nI P) (f5 : w.1 51 5 = bd) (f6 : ztwo B r = true → w.1 51 6 = zsec r) :
    ∃ w8, zfB w w8 ∧ zB w8 (zinl (znew B t P r bd) r0) ∧ ∀ {β : Type} (K : jw → Option β), (jbd (f_X0_insert (w.1 51 5) (w.1 51 4) t w) fun q28 => jbd (if zmore B r = 2 then jbd (f_X0_insert (q28.1 51 6) ((q28.1 51 4) + 1) t q28) fun q32 => some q32 else some q28) K) = K w8 := by
  obtain ⟨w1, a1, a2, a3⟩ := z_insert (bd, t, -2, nI P) hb (by omega)
  have a1' : f_X0_insert bd (nI P) t w = some w1 := a1
  rw [f5, f4, a1']
  simp only [z_jbd]
  cases h : ztwo B r with
  | false =>
    refine ⟨w1, a2, by rw [znew_one h]; exact a3, fun K => ?_⟩
    rw [if_neg (by unfold zmore; rw [zmn_one h]; decide), z_jbd]
  | true =>
    obtain ⟨w2, b1, b2, b3⟩ := z_insert (zsec r, t, -2, nI (P + 1)) a3 (by rw [zins_length]; omega)
    have b1' : f_X0_insert (zsec r) (nI (P + 1)) t w1 = some w2 := b1
    refine ⟨w2, zfB_trans a2 b2, ?_, fun K => ?_⟩
    · rw [znew_two h]
      exact b3
    · rw [if_pos (by unfold zmore; rw [zmn_two h]; decide), a2.2.1 51 (by decide), f6 h, f4, nI_1, b1']
      rfl
theorem zB_0 (w : jw) : zB (jsetI w 54 3 0) [] := ⟨by rw [z_jI1, zup_eq]; rfl, fun i e h => by simp at h⟩
theorem z_cnt {t : Int32} {es : List zE} (h : ∀ e ∈ es, zlv t e = znw e) : es.countP (zlv t) = es.countP znw := List.countP_congr (fun e he => by rw [h e he])
theorem znew_ok {B : Nat} {t : Int32} {P : Nat} {r : List zE} {bd : Int32} : ∀ e ∈ znew B t P r bd, znok t e := by
  intro e he
  have : e.2.1 = t ∧ e.2.2.1 = -2 := by
    cases h : ztwo B r with
    | true =>
      rw [znew_two h] at he
      simp only [List.mem_cons, List.not_mem_nil, or_false] at he
      rcases he with rfl | rfl <;> exact ⟨rfl, rfl⟩
    | false =>
      rw [znew_one h] at he
      simp only [List.mem_cons, List.not_mem_nil, or_false] at he
      rw [he]; exact ⟨rfl, rfl⟩
  exact ⟨by rw [this.1]; exact Int32.le_refl t, Or.inl this.2⟩
theorem z_handUp {B P q lv : Nat} {t bd : Int32} {pg : Nat → zP} {r : List zE} {ro : List (Int32 × Int32)} {w : jw} (hC : zCw B (P + zmn B r) pg w) (hR : zCr ro w) (hro : ro.length ≤ 4000) (hlv : lv < 100) (h52 : (w.2.2.2 52).getD lv 0 = nI q) (hq : q < P + zmn B r) (hB6 : 6 ≤ B) (hB : B ≤ 12) (hP : P + zmn B r ≤ 4000) (f4 : w.1 51 4 = nI P) (f5 : w.1 51 5 = bd) (f6 : w.1 51 6 = (if ztwo B r = true then zsec r else -1)) (hs : ztwo B r = true → ¬ zsec r < 0) (nk : ∀ e ∈ (pg q).2.2.2, znok t e) :
    ∃ w', f_X1_handUp (nI lv) t w = some ((zhand B t P q (decide (lv = 0)) pg r bd ro).1, w') ∧ zfU w w' ∧ zCw B (P + zmn B r) (zhand B t P q (decide (lv = 0)) pg r bd ro).2.1 w' ∧ zCr (zhand B t P q (decide (lv = 0)) pg r bd ro).2.2.1 w' ∧ ((zhand B t P q (decide (lv = 0)) pg r bd ro).1 = true → zB w' (zhand B t P q (decide (lv = 0)) pg r bd ro).2.2.2) := by
  have hl := zCw_len hC hq
  have m2 : zmn B r ≤ 2 := by unfold zmn; split <;> omega
  have f6' : ztwo B r = true → w.1 51 6 = zsec r := fun h => by rw [f6, if_pos h]
  have nk' : ∀ e ∈ (pg q).2.2.2, zlv t e = znw e := fun e he => zlv_nw (nk e he)
  have nk2 : ∀ e ∈ (pg q).2.2.2 ++ znew B t P r bd, zlv t e = znw e := fun e he => by
    rcases List.mem_append.mp he with d | d
    · exact nk' e d
    · exact zlv_nw (znew_ok e d)
  unfold f_X1_handUp
  rw [z_jl, z_rat (show lv < 2 ^ 31 by omega), h52]
  have more : (if w.1 51 6 = -1 then some (1 : Int32) else some (2 : Int32)) = some (zmore B r) := by
    unfold zmore
    cases h : ztwo B r with
    | true =>
      have : ¬ zsec r = -1 := fun e => hs h (by rw [e]; exact z_m1)
      rw [f6' h, if_neg this, zmn_two h]; rfl
    | false => rw [f6, h, zmn_one h]; rfl
  rw [more, z_jbd, z_rat (by omega), (hC.2.2.2.2.2.2.2.2.2 q hq).2.1, hC.1]
  unfold zhand
  rw [show nI (pg q).2.2.2.length + zmore B r = nI ((pg q).2.2.2.length + zmn B r) from nI_add _ _]
  by_cases c : B < (pg q).2.2.2.length + zmn B r
  · rw [if_neg (nI_ge c (by omega))]
    simp only [if_pos c]
    rw [z_jl]
    obtain ⟨w1, g1, g2, g3⟩ := z_gather (t := t) (w := jsetI w 54 3 0) (zCw_I hC (by decide)) hq hB hP (zB_0 w) (by simp; omega)
    rw [zgat_congr _ _ nk'] at g3
    rw [g1, z_jbd]
    have x51 : w1.1 51 = w.1 51 := by rw [g2.2.1 51 (by decide)]; exact z_jI2 (by decide)
    obtain ⟨w2, b1, b2, b3⟩ := z_insNew (B := B) (P := P) (t := t) (bd := bd) (r := r) g3 (by rw [zgat_length]; have := List.countP_le_length (p := znw) (l := (pg q).2.2.2); simp; omega) (by rw [x51]; exact f4) (by rw [x51]; exact f5) (fun h => by rw [x51]; exact f6' h)
    have fr : zfL w w2 := zfL_trans (zfL_I (Or.inr rfl)) (zfL_trans (zfL_B g2) (zfL_B b1))
    rw [b3]
    exact ⟨w2, rfl, zfU_L fr, zCw_fB (zCw_fB (zCw_I hC (by decide)) g2) b1, zCr_L hR fr, fun _ => b2⟩
  · rw [if_pos (nI_le (by omega) (by omega))]
    simp only [if_neg c]
    obtain ⟨w1, a1, a2, a3⟩ := z_appNew (B := B) (P := P) (t := t) (bd := bd) (r := r) hC hq hB hP (by omega) f4 f5 f6'
    rw [a3]
    have eq : (zapp pg q (znew B t P r bd) q).2.2.2 = (pg q).2.2.2 ++ znew B t P r bd := by unfold zapp; rw [zup_eq]
    have lv1 := z_livingIn (t := t) a2 hq hB hP
    rw [eq, z_cnt nk2] at lv1
    rw [lv1, z_jbd2]
    have cl : ((pg q).2.2.2 ++ znew B t P r bd).countP znw ≤ 14 := by
      have := List.countP_le_length (p := znw) (l := (pg q).2.2.2 ++ znew B t P r bd)
      rw [List.length_append, znew_len] at this
      omega
    by_cases d : lv = 0
    · subst d
      rw [if_pos (show nI 0 = 0 from rfl)]
      simp only [decide_true, if_true]
      by_cases e : ((pg q).2.2.2 ++ znew B t P r bd).countP znw = 1
      · rw [if_pos (show nI _ = 1 by rw [e]; rfl)]
        simp only [if_pos e]
        rw [z_jl]
        have C2 := z_setFin t a2 hq hP
        have R2 : zCr ro (jsetR w1 25 (rset (w1.2.2.2 25) (nI q) t)) := zCr_L (zCr_L hR (zfL_P a1)) (zfL_P (zfP_R (by decide) (by decide)))
        obtain ⟨w2, r1, r2, r3, r4, r5, r6⟩ := z_addRoot ((jsetR w1 25 (rset (w1.2.2.2 25) (nI q) t)).1 51 4) t R2 (by omega)
        rw [r1]
        simp only [z_jbd]
        have x4 : (jsetR w1 25 (rset (w1.2.2.2 25) (nI q) t)).1 51 4 = nI P := by rw [z_R1x, a1.1]; exact f4
        rw [x4] at r2
        refine ⟨w2, rfl, ?_, zCw_B C2 (by rw [r3]) (fun k k1 k2 => r6 k (by omega) (by omega)), r2, fun h => by cases h⟩
        refine zfU_trans (zfU_L (zfL_trans (zfL_P a1) (zfL_P (zfP_R (a := 25) (l := rset (w1.2.2.2 25) (nI q) t) (by decide) (by decide))))) ⟨fun _ _ _ => by rw [r3], fun _ _ _ _ => by rw [r4], r5, fun k _ k2 k3 => r6 k k2 k3⟩
      · rw [if_neg (show ¬ nI _ = 1 from fun x => e ((nI_eq (b := 1) (by omega) (by decide)).mp x))]
        simp only [if_neg e, z_jbd]
        exact ⟨w1, rfl, zfU_L (zfL_P a1), a2, zCr_L hR (zfL_P a1), fun h => by cases h⟩
    · rw [if_neg (show ¬ nI lv = 0 from nI_ne0 (by omega) (by omega)), z_weak a2 hB, z_jbd2]
      simp only [d, decide_false, Bool.false_eq_true, if_false]
      by_cases e : ((pg q).2.2.2 ++ znew B t P r bd).countP znw < B / 4
      · rw [if_pos (nI_lt e (by omega)), z_jl]
        simp only [if_pos e]
        obtain ⟨w2, g1, g2, g3⟩ := z_gather (t := t) (w := jsetI w1 54 3 0) (zCw_I a2 (by decide)) hq hB hP (zB_0 w1) (by rw [eq, List.length_append, znew_len]; simp; omega)
        rw [eq, zgat_congr _ _ nk2] at g3
        rw [g1, z_jbd]
        have fr : zfL w w2 := zfL_trans (zfL_P a1) (zfL_trans (zfL_I (Or.inr rfl)) (zfL_B g2))
        exact ⟨w2, rfl, zfU_L fr, zCw_fB (zCw_I a2 (by decide)) g2, zCr_L hR fr, fun _ => g3⟩
      · rw [if_neg (nI_nlt (by omega) (by omega))]
        simp only [if_neg e]
        exact ⟨w1, rfl, zfU_L (zfL_P a1), a2, zCr_L hR (zfL_P a1), fun h => by cases h⟩
theorem z_crown {B P : Nat} {t : Int32} {pg : Nat → zP} {r : List zE} {ro : List (Int32 × Int32)} {w : jw} (hC : zCw B (P + zmn B r) pg w) (hR : zCr ro w) (hro : ro.length ≤ 4000) (hB6 : 6 ≤ B) (hB : B ≤ 12) (hP : (P + 3) * B ≤ 4096) (f4 : w.1 51 4 = nI P) (f6 : w.1 51 6 = (if ztwo B r = true then zsec r else -1)) (hs : ztwo B r = true → ¬ zsec r < 0) :
    ∃ w', f_X1_crown t w = some w' ∧ zfU w w' ∧ zCw B (zcrown B t P pg r ro).1 (zcrown B t P pg r ro).2.1 w' ∧ zCr (zcrown B t P pg r ro).2.2 w' := by
  have PP : (P + 3) * 6 ≤ (P + 3) * B := Nat.mul_le_mul_left _ hB6
  unfold f_X1_crown zcrown
  rw [z_jl, f4]
  cases h : ztwo B r with
  | false =>
    rw [f6, h, if_pos (show (if false = true then zsec r else (-1 : Int32)) = -1 from rfl)]
    obtain ⟨w2, r1, r2, r3, r4, r5, r6⟩ := z_addRoot (nI P) t hR (by omega)
    rw [r1, z_jbd]
    rw [zmn_one h] at hC
    exact ⟨w2, rfl, ⟨fun _ _ _ => by rw [r3], fun _ _ _ _ => by rw [r4], r5, fun k _ k2 k3 => r6 k k2 k3⟩, zCw_B hC (by rw [r3]) (fun k k1 k2 => r6 k (by omega) (by omega)), r2⟩
  | true =>
    have n1 : ¬ zsec r = -1 := fun e => hs h (by rw [e]; exact z_m1)
    rw [zmn_two h] at hC
    rw [f6, if_pos h, if_neg n1]
    have e3 : (P + 2 + 1) * B ≤ 4096 := hP
    obtain ⟨w1, a1, a2, a3⟩ := z_open 0 t hC hB e3 (by omega)
    rw [a1, z_jbd2]
    have x1 : w1.1 = w.1 := a2.1
    rw [x1, f4]
    obtain ⟨w2, b1, b2, b3⟩ := z_append 0 (nI P) t a3 (Nat.lt_succ_self (P + 2)) (by rw [zup_eq]; show 0 < B; omega) hB (by omega)
    rw [b1, z_jbd, b2.1, x1, f4, f6, if_pos h, nI_1]
    rw [zup_eq, zup_zup] at b3
    obtain ⟨w3, c1, c2, c3⟩ := z_append (zsec r) (nI (P + 1)) t b3 (Nat.lt_succ_self (P + 2)) (by rw [zup_eq]; show 1 < B; omega) hB (by omega)
    rw [c1, z_jbd]
    rw [zup_eq, zup_zup] at c3
    have fr : zfL w w3 := zfL_trans (zfL_P a2) (zfL_trans (zfL_P b2) (zfL_P c2))
    obtain ⟨w4, r1, r2, r3, r4, r5, r6⟩ := z_addRoot (nI (P + 2)) t (zCr_L hR fr) (by omega)
    rw [r1, z_jbd]
    exact ⟨w4, rfl, zfU_trans (zfU_L fr) ⟨fun _ _ _ => by rw [r3], fun _ _ _ _ => by rw [r4], r5, fun k _ k2 k3 => r6 k k2 k3⟩, zCw_B c3 (by rw [r3]) (fun k k1 k2 => r6 k (by omega) (by omega)), r2⟩
end
