section
theorem zM_le {B P : Nat} {pg : Nat → zP} {N : Nat → Int32} (h : zM B P pg N) : P ≤ 320 := h.2.2.1
theorem z_comNew {B P P' q : Nat} {t bd : Int32} {pg : Nat → zP} {r : List zE} {w : jw} (hM : zM B P' pg (w.2.1 182)) (ht : w.2.1 182 0 = t) (hq : q < P') (hl : (pg q).2.2.2.length + zmn B r ≤ 12) :
    ∃ w8, zfN w w8 ∧ zM B P' (zapp pg q (znew B t P r bd)) (w8.2.1 182) ∧ ∀ {β : Type} (K : jw → Option β), (jbd (f_X12_comes (nI q) bd (w.2.1 182 0) (nI P) w) fun q53 => jbd (if zx18 B r = 0 then some q53 else jg (jin 0 34700) (jbd (f_X12_comes (nI q) (zx31 B r) (q53.2.1 182 0) (zx27 B P r) q53) fun q72 => some q72)) K) = K w8 := by
  have m1 : 1 ≤ zmn B r := by unfold zmn; split <;> omega
  obtain ⟨w1, a1, a2, a3⟩ := z_comes bd t (nI P) hM hq (by omega)
  have t1 : w1.2.1 182 0 = t := by rw [a2.2.2.2 0 (by decide) (by decide)]; exact ht
  rw [ht, a1]
  simp only [z_jbd]
  cases h : ztwo B r with
  | false =>
    refine ⟨w1, a2, by rw [znew_one h]; exact a3, fun K => ?_⟩
    rw [if_pos (by unfold zx18; rw [h]; rfl), z_jbd]
  | true =>
    rw [zmn_two h] at hl
    obtain ⟨w2, b1, b2, b3⟩ := z_comes (zsec r) t (nI (P + 1)) a3 hq (by rw [zup_eq]; simp; omega)
    refine ⟨w2, zfN_trans a2 b2, ?_, fun K => ?_⟩
    · rw [znew_two h, show [(bd, t, -2, nI P), (zsec r, t, -2, nI (P + 1))] = [(bd, t, (-2 : Int32), nI P)] ++ [(zsec r, t, -2, nI (P + 1))] from rfl, ← zapp_app]
      exact b3
    · rw [if_neg (by unfold zx18; rw [if_pos h]; decide), z_jg j_0, t1]
      unfold zx31 zx27
      rw [if_pos h, if_pos h, b1]
      rfl
theorem z_joiNew {B P : Nat} {t bd : Int32} {r r0 : List zE} {w : jw} (hb : zW w r0) (hr : r0.length ≤ 36) (ht : w.2.1 182 0 = t) :
    ∃ w8, zfW w w8 ∧ zW w8 (zinl (znew B t P r bd) r0) ∧ ∀ {β : Type} (K : jw → Option β), (jbd (f_X12_joins bd (w.2.1 182 0) (nI P) w) fun q75 => jbd (if zx18 B r = 0 then some q75 else jg (jin 0 34700) (jbd (f_X12_joins (zx31 B r) (q75.2.1 182 0) (zx27 B P r) q75) fun q80 => some q80)) K) = K w8 := by
  obtain ⟨w1, a1, a2, a3⟩ := z_joins (bd, t, -2, nI P) hb (by omega)
  have a1' : f_X12_joins bd t (nI P) w = some w1 := a1
  have t1 : w1.2.1 182 0 = t := by rw [zW_W182 a2]; exact ht
  rw [ht, a1']
  simp only [z_jbd]
  cases h : ztwo B r with
  | false =>
    refine ⟨w1, a2, by rw [znew_one h]; exact a3, fun K => ?_⟩
    rw [if_pos (by unfold zx18; rw [h]; rfl), z_jbd]
  | true =>
    obtain ⟨w2, b1, b2, b3⟩ := z_joins (zsec r, t, -2, nI (P + 1)) a3 (by rw [zins_length]; omega)
    have b1' : f_X12_joins (zsec r) t (nI (P + 1)) w1 = some w2 := b1
    refine ⟨w2, zfW_trans a2 b2, ?_, fun K => ?_⟩
    · rw [znew_two h]
      exact b3
    · rw [if_neg (by unfold zx18; rw [if_pos h]; decide), z_jg j_0, t1]
      unfold zx31 zx27
      rw [if_pos h, if_pos h, b1']
      rfl
theorem zW_0 (w : jw) : zW (jsetI w 162 37 0) [] := ⟨by rw [z_jI1, zup_eq]; rfl, fun i e h => by simp at h⟩
/-- the page above gets the new ones -/
theorem z_KH {B P q d : Nat} {t bd : Int32} {pg : Nat → zP} {r : List zE} {ro : List (Int32 × Int32)} {w : jw} (hM : zM B (P + zmn B r) pg (w.2.1 182)) (hR : zMr ro (w.2.1 182)) (hro : ro.length < 700) (ht : w.2.1 182 0 = t) (hq : q < P + zmn B r) (hB6 : 6 ≤ B) (hB : B ≤ 12) (hd : d < 39) :
    ∃ w', (jl (jsetI w 162 37 0) fun w43 => jbd2 (f_X12_entriesOf (nI q) w43) fun x45 w46 => jbd (if zx18 B r = 0 then some (1 : Int32) else some (2 : Int32)) fun x48 => jg (jin 1 34700) ((if (x45 + x48) ≤ (w46.2.1 182 (Int32.toNatClampNeg 1)) then jg (jin 0 34700) (jbd (f_X12_comes (nI q) bd (w46.2.1 182 (Int32.toNatClampNeg 0)) (nI P) w46) fun q53 => jbd (if zx18 B r = 0 then some q53 else jg (jin 0 34700) (jbd (f_X12_comes (nI q) (zx31 B r) (q53.2.1 182 (Int32.toNatClampNeg 0)) (zx27 B P r) q53) fun q72 => some q72)) fun w55 => jbd2 (f_X12_livingIn (nI q) w55) fun x58 w59 => (if nI (d + 1) = 1 then jbd (if x58 = 1 then jbd (f_X12_ends (nI q) w59) fun q69 => jbd (f_X12_becomesRoot (nI P) q69) fun q70 => some q70 else some w59) fun w67 => some ((-1), w67) else jbd2 (f_X12_weak  w59) fun x62 w63 => (if x58 < x62 then jbd (f_X12_joinsAll (nI q) w63) fun q65 => some (nI (d + 1) - 1, q65) else some ((-1), w63)))) else jbd (f_X12_joinsAll (nI q) w46) fun q73 => jg (jin 0 34700) (jbd (f_X12_joins bd (q73.2.1 182 (Int32.toNatClampNeg 0)) (nI P) q73) fun q75 => jbd (if zx18 B r = 0 then some q75 else jg (jin 0 34700) (jbd (f_X12_joins (zx31 B r) (q75.2.1 182 (Int32.toNatClampNeg 0)) (zx27 B P r) q75) fun q80 => some q80)) fun w77 => some (nI (d + 1) - 1, w77))))) = some ((if (zhand B t P q (decide (d = 0)) pg r bd ro).1 = true then nI d else -1), w') ∧ zfV w w' ∧ zM B (P + zmn B r) (zhand B t P q (decide (d = 0)) pg r bd ro).2.1 (w'.2.1 182) ∧ zMr (zhand B t P q (decide (d = 0)) pg r bd ro).2.2.1 (w'.2.1 182) ∧ ((zhand B t P q (decide (d = 0)) pg r bd ro).1 = true → zW w' (zhand B t P q (decide (d = 0)) pg r bd ro).2.2.2) := by
  have h320 := zM_le hM
  have m2 : zmn B r ≤ 2 := by unfold zmn; split <;> omega
  have hl := zM_12 hM hq
  simp only [k_0, k_1, z_jg j_1, nI_pred]
  rw [z_jl]
  have x182 : (jsetI w 162 37 0).2.1 182 = w.2.1 182 := rfl
  rw [z_entriesOf (jsetI w 162 37 0) (by omega), z_jbd2, x182, zM_L hM hq]
  have more : (if zx18 B r = 0 then some (1 : Int32) else some (2 : Int32)) = some (zmore B r) := by
    unfold zmore zx18
    cases h : ztwo B r with
    | true => rw [zmn_two h]; rfl
    | false => rw [zmn_one h]; rfl
  rw [more, z_jbd, show nI (pg q).2.2.2.length + zmore B r = nI ((pg q).2.2.2.length + zmn B r) from nI_add _ _, hM.1]
  have M0 : zM B (P + zmn B r) pg ((jsetI w 162 37 0).2.1 182) := hM
  have cl : ∀ l : List zE, l.countP znw ≤ l.length := fun l => List.countP_le_length
  unfold zhand
  by_cases c : B < (pg q).2.2.2.length + zmn B r
  · rw [if_neg (nI_ge c (by omega))]
    simp only [if_pos c, if_true]
    obtain ⟨w1, g1, g2, g3⟩ := z_joinsAll (w := jsetI w 162 37 0) M0 hq (zW_0 w) (by simp; omega)
    rw [g1, z_jbd, z_jg j_0]
    have t1 : w1.2.1 182 0 = t := by rw [zW_W182 g2]; exact ht
    obtain ⟨w2, b1, b2, b3⟩ := z_joiNew (B := B) (P := P) (t := t) (bd := bd) (r := r) g3 (by rw [zgat_length]; have := cl (pg q).2.2.2; simp; omega) t1
    rw [b3]
    have fr : zfX w w2 := zfX_trans zfX_I (zfX_trans (zfX_W g2) (zfX_W b1))
    have e182 : w2.2.1 182 = w.2.1 182 := by rw [zW_W182 b1, zW_W182 g2]; rfl
    exact ⟨w2, rfl, fr.1, by rw [e182]; exact hM, by rw [e182]; exact hR, fun _ => b2⟩
  · rw [if_pos (nI_le (by omega) (by omega)), z_jg j_0]
    simp only [if_neg c]
    obtain ⟨w1, a1, a2, a3⟩ := z_comNew (w := jsetI w 162 37 0) (B := B) (P := P) (t := t) (bd := bd) (r := r) M0 ht hq (by omega)
    have a3' := fun {β : Type} (K : jw → Option β) => a3 K
    rw [x182] at a3'
    rw [a3']
    have eq : (zapp pg q (znew B t P r bd) q).2.2.2 = (pg q).2.2.2 ++ znew B t P r bd := by unfold zapp; rw [zup_eq]
    have lv1 := z_livingInM a2 hq
    rw [eq] at lv1
    rw [lv1, z_jbd2]
    have cl2 : ((pg q).2.2.2 ++ znew B t P r bd).countP znw ≤ 14 := by
      have := cl ((pg q).2.2.2 ++ znew B t P r bd)
      rw [List.length_append, znew_len] at this
      omega
    have f1 : zfX w w1 := zfX_trans zfX_I (zfX_N a1)
    have R1 := zMr_X hR f1 (by omega)
    have t1 : w1.2.1 182 0 = t := by rw [f1.2 0 (by decide) (by decide)]; exact ht
    by_cases e0 : d = 0
    · subst e0
      rw [if_pos (show nI (0 + 1) = 1 from rfl)]
      simp only [decide_true, if_true]
      by_cases e : ((pg q).2.2.2 ++ znew B t P r bd).countP znw = 1
      · rw [if_pos (show nI _ = 1 by rw [e]; rfl)]
        simp only [if_pos e]
        obtain ⟨w2, u1, u2, u3⟩ := z_endsM a2 hq
        rw [t1] at u3
        obtain ⟨w3, v1, v2, v3, v4⟩ := z_becomesRoot (w := w2) (nI P) (zMr_N R1 u2 (by omega)) hro
        rw [u1]
        simp only [z_jbd, v1]
        have t2 : w2.2.1 182 0 = t := by rw [u2.2.2.2 0 (by decide) (by decide)]; exact t1
        rw [t2] at v2
        exact ⟨w3, rfl, zfV_trans f1.1 (zfV_trans (zfV_N u2) v3), v4 u3, v2, fun h => by cases h⟩
      · rw [if_neg (show ¬ nI _ = 1 from fun x => e ((nI_eq (b := 1) (by omega) (by decide)).mp x))]
        simp only [if_neg e, z_jbd]
        exact ⟨w1, rfl, f1.1, a2, R1, fun h => by cases h⟩
    · rw [if_neg (show ¬ nI (d + 1) = 1 from fun x => by have := (nI_eq (b := 1) (by omega) (by decide)).mp x; omega), z_weakM a2 hB, z_jbd2]
      simp only [e0, decide_false, Bool.false_eq_true, if_false]
      by_cases e : ((pg q).2.2.2 ++ znew B t P r bd).countP znw < B / 4
      · rw [if_pos (nI_lt e (by omega))]
        simp only [if_pos e, if_true]
        obtain ⟨w2, g1, g2, g3⟩ := z_joinsAll (r := []) a2 hq (by
          unfold zW
          rw [a1.1, a1.2.2.1 184 (by decide), a1.2.2.1 185 (by decide), a1.2.2.1 186 (by decide)]
          exact zW_0 w) (by rw [eq, List.length_append, znew_len]; simp; omega)
        rw [eq] at g3
        rw [g1, z_jbd]
        exact ⟨w2, rfl, zfV_trans f1.1 (zfV_W g2), by rw [zW_W182 g2]; exact a2, by rw [zW_W182 g2]; exact R1, fun _ => g3⟩
      · rw [if_neg (nI_nlt (by omega) (by omega))]
        simp only [if_neg e, Bool.false_eq_true, if_false]
        exact ⟨w1, rfl, f1.1, a2, R1, fun h => by cases h⟩
theorem z_replOne {B P p q d : Nat} {t : Int32} {pg : Nat → zP} {r : List zE} {ro : List (Int32 × Int32)} {w : jw} (g1 : zlev B t P pg p q r) (hP : P + 2 ≤ 320) (hro : ro.length < 700) (hM : zM B P pg (w.2.1 182)) (hR : zMr ro (w.2.1 182)) (ht : w.2.1 182 0 = t) (htp : ¬ t < 0) (hW : zW w r) (hB6 : 6 ≤ B) (hB : B ≤ 12) (hd : d < 39) (w1 : w.2.1 183 (d + 1) = nI p) (w2 : w.2.1 183 d = nI q) :
    ∃ w', f_X12_replacesOne (nI (d + 1)) w = some ((if (zhand B t P q (decide (d = 0)) (zmk B t P (zfinp (zleave B t pg p q r).1 p t) (pg p).1 (zleave B t pg p q r).2.1) (zleave B t pg p q r).2.1 (zleave B t pg p q r).2.2 ro).1 = true then nI d else -1), w') ∧ zfV w w' ∧ zM B (P + zmn B (zleave B t pg p q r).2.1) (zhand B t P q (decide (d = 0)) (zmk B t P (zfinp (zleave B t pg p q r).1 p t) (pg p).1 (zleave B t pg p q r).2.1) (zleave B t pg p q r).2.1 (zleave B t pg p q r).2.2 ro).2.1 (w'.2.1 182) ∧ zMr (zhand B t P q (decide (d = 0)) (zmk B t P (zfinp (zleave B t pg p q r).1 p t) (pg p).1 (zleave B t pg p q r).2.1) (zleave B t pg p q r).2.1 (zleave B t pg p q r).2.2 ro).2.2.1 (w'.2.1 182) ∧ ((zhand B t P q (decide (d = 0)) (zmk B t P (zfinp (zleave B t pg p q r).1 p t) (pg p).1 (zleave B t pg p q r).2.1) (zleave B t pg p q r).2.1 (zleave B t pg p q r).2.2 ro).1 = true → zW w' (zhand B t P q (decide (d = 0)) (zmk B t P (zfinp (zleave B t pg p q r).1 p t) (pg p).1 (zleave B t pg p q r).2.1) (zleave B t pg p q r).2.1 (zleave B t pg p q r).2.2 ro).2.2.2) := by
  obtain ⟨s1, s2, s3, s4, s5, s6⟩ := zleave_spec g1 (by omega)
  have hp := g1.1
  have hq := g1.2.1
  have hh := zhalf (r := (zleave B t pg p q r).2.1) hB6 hB s1
  unfold f_X12_replacesOne
  rw [z_jg (z_in (by omega) (by decide)), z_jl, nI_clamp (by omega), w1, z_pa p 1410 1410 rfl, z_jg (z_in (by omega) (by decide)), z_jl, nI_clamp (by omega), (hM.2.2.2 p hp).1, z_weakM hM hB, z_jbd2]
  obtain ⟨wa, a1, a2, a3, a4⟩ := z_KS (d := d) g1 hM hW ht hB6 hB hd w2
  rw [a4]
  have ta : wa.2.1 182 0 = t := by rw [a1.2 0 (by decide) (by decide)]; exact ht
  obtain ⟨wb, b1, b2, b3⟩ := z_endsM a2 hp
  rw [ta] at b3
  rw [b1, z_jbd, z_jg j_1, k_1]
  have tb : wb.2.1 182 0 = t := by rw [b2.2.2.2 0 (by decide) (by decide)]; exact ta
  obtain ⟨wc, c1, c2, c3⟩ := z_KA (k := (pg p).1) (t := t) (pg := zfinp (zpg1 B t pg p q r) p t) b3 (zW_N a3 b2) tb hP hh.2 (fun e he => (s2 e he).1) hB6 hB hh.1
  rw [c3, if_neg (nI_ne0 (by omega) (by omega)), nI_pred, z_jg (z_in (by omega) (by decide)), z_jl, nI_clamp (by omega)]
  have tc : wc.2.1 182 0 = t := by rw [c1.2.2.2 0 (by decide) (by decide)]; exact tb
  have x183 : wc.2.1 183 d = nI q := by rw [c1.2.2.1 183 (by decide), b2.2.2.1 183 (by decide), a1.1.2.2.2.1 183 (by decide) (by decide) (by decide) (by decide)]; exact w2
  rw [x183]
  obtain ⟨we, e1, e2, e3⟩ := z_KE g1 (by omega) (pg p).1 c2 tc htp
  rw [e3]
  have te : we.2.1 182 0 = t := by rw [e1.2.2.2 0 (by decide) (by decide)]; exact tc
  have frx : zfX w we := zfX_trans a1 (zfX_trans (zfX_N b2) (zfX_trans (zfX_N c1) (zfX_N e1)))
  obtain ⟨wf, f1, f2, f3, f4, f5⟩ := z_KH (q := q) (d := d) (bd := (zleave B t pg p q r).2.2) e2 (zMr_X hR frx (by omega)) hro te (by omega) hB6 hB hd
  rw [nI_pred] at f1
  exact ⟨wf, f1, zfV_trans frx.1 f2, f3, f4, f5⟩
end
