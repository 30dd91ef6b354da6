section
def zfX (w w' : jw) : Prop := zfV w w' ∧ ∀ a, a < 1410 → a ≠ 3 → w'.2.1 182 a = w.2.1 182 a
theorem zfX_trans {a b c : jw} (h : zfX a b) (g : zfX b c) : zfX a c := ⟨zfV_trans h.1 g.1, fun x x1 x2 => (g.2 x x1 x2).trans (h.2 x x1 x2)⟩
theorem zfX_rfl (w : jw) : zfX w w := ⟨zfV_rfl w, fun _ _ _ => rfl⟩
theorem zfX_N {w w' : jw} (h : zfN w w') : zfX w w' := ⟨zfV_N h, fun a a1 a2 => h.2.2.2 a a2 (Or.inl a1)⟩
theorem zfX_W {w w' : jw} (h : zfW w w') : zfX w w' := ⟨zfV_W h, fun a _ _ => by rw [h.2.2.2 182 (by decide) (by decide) (by decide)]⟩
theorem zfX_I {w : jw} {x : Int32} : zfX w (jsetI w 162 37 x) := ⟨zfV_I, fun _ _ _ => rfl⟩
theorem zMr_X {ro : List (Int32 × Int32)} {w w' : jw} (h : zMr ro (w.2.1 182)) (f : zfX w w') (hl : ro.length ≤ 700) : zMr ro (w'.2.1 182) := by
  refine ⟨by rw [f.2 2 (by decide) (by decide)]; exact h.1, fun i q hq => ?_⟩
  have := (List.getElem?_eq_some_iff.mp hq).1
  rw [f.2 (10 + i) (by omega) (by omega), f.2 (710 + i) (by omega) (by omega)]
  exact h.2 i q hq
theorem zW_W182 {w w' : jw} (f : zfW w w') : w'.2.1 182 = w.2.1 182 := f.2.2.2 182 (by decide) (by decide) (by decide)
def zx9 (B : Nat) (pg : Nat → zP) (p q : Nat) (r : List zE) : Int32 := match zfi (zto (nI p)) (pg q).2.2.2 0 with
  | none => -1
  | some ip => match zsib B r ((pg q).2.2.2.getD ip zdf).1 (pg q).2.2.2 with
    | none => -1
    | some j => ((pg q).2.2.2.getD j.1 zdf).2.2.2
def zpg1 (B : Nat) (t : Int32) (pg : Nat → zP) (p q : Nat) (r : List zE) : Nat → zP := if zx9 B pg p q r < 0 then pg else zfinp pg (zx9 B pg p q r).toNatClampNeg t
theorem z_KS {B P p q d : Nat} {t : Int32} {pg : Nat → zP} {r : List zE} {w : jw} (h : zlev B t P pg p q r) (hM : zM B P pg (w.2.1 182)) (hW : zW w r) (ht : w.2.1 182 0 = t) (hB6 : 6 ≤ B) (hB : B ≤ 12) (hd : d < 39) (w2 : w.2.1 183 d = nI q) :
    ∃ w13, zfX w w13 ∧ zM B P (zpg1 B t pg p q r) (w13.2.1 182) ∧ zW w13 (zleave B t pg p q r).2.1 ∧ ∀ {β : Type} (K : Int32 → jw → Option β),
      (jbd2 (if nI (B / 4) < (w.1 162 37) then some (((-1) : Int32), w) else (if nI (d + 1) ≤ 0 then some (((-1) : Int32), w) else jg (jin (nI (d + 1) - 1) 40) (jbd2 (f_X12_siblingOf (w.2.1 183 (Int32.toNatClampNeg (nI (d + 1) - 1))) (nI p) w) fun x111 w112 => some (x111, w112)))) fun x9 w10 => jbd (if x9 < 0 then some w10 else jbd (f_X12_joinsAll x9 w10) fun q106 => jbd (f_X12_ends x9 q106) fun q107 => some q107) fun w13 => K x9 w13) = K (zx9 B pg p q r) w13 := by
  obtain ⟨ip, e0, i1, i2, i3⟩ := zlev_ip h
  have h2 := id h
  obtain ⟨p1, p2, p3, p4, p5, p6, p7, p8, p9⟩ := h
  have b1 := hM.2.2.1
  unfold zpg1 zx9 zleave
  rw [i1]
  simp only [zgetD i2]
  rw [hW.1, if_neg (nI_nle (by omega) (by omega)), nI_pred, z_jg (z_in (by omega) (by decide)), nI_clamp (by omega), w2]
  cases hz : zsib B r e0.1 (pg q).2.2.2 with
  | none =>
    simp only [if_pos z_m1]
    refine ⟨w, zfX_rfl w, hM, hW, fun K => ?_⟩
    by_cases c : r.length ≤ B / 4
    · rw [if_neg (nI_nlt c (by omega)), z_siblingOf hM p2 i1 i2 c, z_jbd2, hz, z_jbd2]
      simp only []
      rw [if_pos z_m1, z_jbd]
    · rw [if_pos (nI_lt (by omega) (by omega)), z_jbd2, if_pos z_m1, z_jbd]
  | some j =>
    obtain ⟨c, e1, s, j1, j2, j3, j4, s1, s2, s3, ji, s4, s5⟩ := zlev_sib h2 i2 i3 hz
    simp only [zgetD j1, j4, nI_clamp (show s < 2 ^ 31 by omega), if_neg (nI_pos (show s < 2 ^ 31 by omega))]
    obtain ⟨w1, a1, a2, a3⟩ := z_joinsAll hM s1 hW (by omega)
    obtain ⟨w3, e1', e2, e3⟩ := z_endsM (w := w1) (by rw [zW_W182 a2]; exact hM) s1
    rw [zW_W182 a2, ht] at e3
    refine ⟨w3, zfX_trans (zfX_W a2) (zfX_N e2), e3, zW_N a3 e2, fun K => ?_⟩
    rw [if_neg (nI_nlt c (by omega)), z_siblingOf hM p2 i1 i2 c, z_jbd2, hz, z_jbd2]
    simp only [zgetD j1, j4]
    rw [if_neg (nI_pos (by omega)), a1, z_jbd, e1', z_jbd, z_jbd]
theorem zfinp_ne {pg : Nat → zP} {p x : Nat} {t : Int32} (h : x ≠ p) : zfinp pg p t x = pg x := zup_ne h
theorem zfinp_congr {F G : Nat → zP} {p x : Nat} {t : Int32} (h : F x = G x) (hp : F p = G p) : zfinp F p t x = zfinp G p t x := by
  unfold zfinp zup
  by_cases c : x = p
  · rw [if_pos c, if_pos c, hp]
  · rw [if_neg c, if_neg c, h]
theorem z_KE {B P p q : Nat} {t : Int32} {pg : Nat → zP} {r : List zE} {w : jw} (h : zlev B t P pg p q r) (hP : P ≤ 320) (k : Int32) (hM : zM B (P + zmn B (zleave B t pg p q r).2.1) (zmk B t P (zfinp (zpg1 B t pg p q r) p t) k (zleave B t pg p q r).2.1) (w.2.1 182)) (ht : w.2.1 182 0 = t) (htp : ¬ t < 0) :
    ∃ w41, zfN w w41 ∧ zM B (P + zmn B (zleave B t pg p q r).2.1) (zmk B t P (zfinp (zleave B t pg p q r).1 p t) k (zleave B t pg p q r).2.1) (w41.2.1 182) ∧ ∀ {β : Type} (K : Int32 → jw → Option β),
      (jbd2 (f_X12_endsAbove (nI q) (nI p) w) fun x37 w38 => jbd2 (if zx9 B pg p q r < 0 then some (x37, w38) else jbd2 (f_X12_endsAbove (nI q) (zx9 B pg p q r) w38) fun x82 w83 => (if x37 ≤ x82 then some (x37, w83) else some (x82, w83))) fun x40 w41 => K x40 w41) = K (zleave B t pg p q r).2.2 w41 := by
  obtain ⟨ip, e0, i1, i2, i3⟩ := zlev_ip h
  have h2 := id h
  obtain ⟨p1, p2, p3, p4, p5, p6, p7, p8, p9⟩ := h
  have il := zlen_lt i2
  unfold zpg1 zx9 zleave at *
  rw [i1] at hM ⊢
  simp only [zgetD i2] at hM ⊢
  cases hz : zsib B r e0.1 (pg q).2.2.2 with
  | none =>
    rw [hz] at hM
    simp only [if_pos z_m1] at hM ⊢
    have qq : (zmk B t P (zfinp pg p t) k r) q = pg q := by rw [zmk_lt p2]; exact zup_ne (fun e => p3 e.symm)
    obtain ⟨w1, a1, a2, a3⟩ := z_endsAbove (i := ip) (e := e0) (nI p) hM (show q < P + zmn B r by omega) (by rw [qq]; exact i1) (by rw [qq]; exact i2)
    rw [qq, ht] at a3
    refine ⟨w1, a2, ?_, fun K => ?_⟩
    · have e : zmk B t P (zfinp (ztoP pg q ip e0 t) p t) k r = zup (zmk B t P (zfinp pg p t) k r) q ((pg q).1, (pg q).2.1, (pg q).2.2.1, (pg q).2.2.2.set ip (e0.1, e0.2.1, t, e0.2.2.2)) := by
        funext x
        by_cases c : x = q
        · subst c
          rw [zup_eq, zmk_lt p2, zfinp_ne (fun e => p3 e.symm)]
          unfold ztoP
          rw [zup_eq]
        · rw [zup_ne c]
          refine zmk_congr (zfinp_congr (zup_ne c) (zup_ne p3))
      rw [e]
      exact a3
    · rw [a1, z_jbd2, z_jbd2]
  | some j =>
    obtain ⟨c, e1, s, j1, j2, j3, j4, s1, s2, s3, ji, s4, s5⟩ := zlev_sib h2 i2 i3 hz
    have jl' := zlen_lt j1
    rw [hz] at hM
    simp only [zgetD j1, j4, nI_clamp (show s < 2 ^ 31 by omega), if_neg (nI_pos (show s < 2 ^ 31 by omega))] at hM ⊢
    generalize hr' : zgat znw (pg s).2.2.2 r = r' at *
    have X1 : zfinp pg s t q = pg q := zup_ne (fun e => s2 e.symm)
    have qq : (zmk B t P (zfinp (zfinp pg s t) p t) k r') q = pg q := by rw [zmk_lt p2, zfinp_ne (fun e => p3 e.symm)]; exact X1
    obtain ⟨w1, a1, a2, a3⟩ := z_endsAbove (i := ip) (e := e0) (nI p) hM (show q < P + zmn B r' by omega) (by rw [qq]; exact i1) (by rw [qq]; exact i2)
    rw [qq, ht] at a3
    have t2 : t ≠ -2 := fun e => htp (by rw [e]; decide)
    have j1' : ((pg q).2.2.2.set ip (e0.1, e0.2.1, t, e0.2.2.2))[j.1]? = some e1 := by rw [List.getElem?_set, if_neg (fun e => ji e.symm)]; exact j1
    have zj : zfi (zto (nI s)) ((pg q).2.2.2.set ip (e0.1, e0.2.1, t, e0.2.2.2)) 0 = some j.1 := by
      refine zfi_uniq j1' (by simp [zto, j2, j4]) (fun j' e' hj' ho => ?_)
      simp only [zto, Bool.and_eq_true, decide_eq_true_eq] at ho
      rw [List.getElem?_set] at hj'
      by_cases c1 : ip = j'
      · rw [if_pos c1, if_pos il] at hj'
        cases hj'
        exact absurd (znw_to ho.1) t2
      · rw [if_neg c1] at hj'
        exact p7 j' j.1 e' e1 hj' j1 ho.1 j2 (by rw [ho.2, j4])
    have t0 : w1.2.1 182 0 = t := by rw [a2.2.2.2 0 (by decide) (by decide)]; exact ht
    obtain ⟨w3, b1, b2, b3⟩ := z_endsAbove (w := w1) (i := j.1) (e := e1) (nI s) a3 (show q < P + zmn B r' by omega) (by rw [zup_eq]; exact zj) (by rw [zup_eq]; exact j1')
    rw [zup_eq, zup_zup, t0] at b3
    refine ⟨w3, zfN_trans a2 b2, ?_, fun K => ?_⟩
    · have e : zmk B t P (zfinp (ztoP (ztoP (zfinp pg s t) q j.1 e1 t) q ip e0 t) p t) k r' = zup (zmk B t P (zfinp (zfinp pg s t) p t) k r') q ((pg q).1, (pg q).2.1, (pg q).2.2.1, ((pg q).2.2.2.set ip (e0.1, e0.2.1, t, e0.2.2.2)).set j.1 (e1.1, e1.2.1, t, e1.2.2.2)) := by
        funext x
        by_cases c : x = q
        · subst c
          rw [zup_eq, zmk_lt p2, zfinp_ne (fun e => p3 e.symm)]
          unfold ztoP
          rw [zup_eq, zup_eq, X1]
          rw [List.set_comm _ _ (fun e => ji e)]
        · rw [zup_ne c]
          refine zmk_congr (zfinp_congr ?_ ?_)
          · unfold ztoP; rw [zup_ne c, zup_ne c]
          · unfold ztoP; rw [zup_ne p3, zup_ne p3]
      rw [e]
      exact b3
    · rw [a1, z_jbd2, b1, z_jbd2]
      rw [j3]
      by_cases c1 : e0.1 ≤ e1.1
      · rw [if_pos c1, z_jbd2, if_neg (Int32.not_lt.mpr c1)]
      · rw [if_neg c1, z_jbd2, if_pos (Int32.not_le.mp c1)]
end
