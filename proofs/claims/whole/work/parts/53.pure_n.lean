section
theorem zins_1 (x : zE) : zins x [] = [x] := rfl
theorem zins_2 {x y : zE} (h : y.1 ≤ x.1) : zins x [y] = [y, x] := by
  have : zsp x.1 [y] 1 = 1 := by
    unfold zsp
    show (if y.1 ≤ x.1 then 1 else _) = 1
    rw [if_pos h]
  unfold zins
  show List.take (zsp x.1 [y] 1) [y] ++ x :: List.drop (zsp x.1 [y] 1) [y] = _
  rw [this]
  rfl
theorem z_replRoot {B P p : Nat} {t : Int32} {pg : Nat → zP} {r : List zE} {ro : List (Int32 × Int32)} {w : jw} (hp : p < P) (hr : r.length ≤ B + 1) (hok : zrowok r) (hP : P + 3 ≤ 320) (hro : ro.length < 700) (hM : zM B P pg (w.2.1 182)) (hR : zMr ro (w.2.1 182)) (ht : w.2.1 182 0 = t) (hW : zW w r) (hB6 : 6 ≤ B) (hB : B ≤ 12) (w1 : w.2.1 183 0 = nI p) :
    ∃ w', f_X12_replacesOne (nI 0) w = some (-1, w') ∧ zfV w w' ∧ zM B (zcrown B t P (zmk B t P (zfinp pg p t) (pg p).1 r) r ro).1 (zcrown B t P (zmk B t P (zfinp pg p t) (pg p).1 r) r ro).2.1 (w'.2.1 182) ∧ zMr (zcrown B t P (zmk B t P (zfinp pg p t) (pg p).1 r) r ro).2.2 (w'.2.1 182) := by
  have hh := zhalf (r := r) hB6 hB (by omega)
  unfold f_X12_replacesOne
  rw [z_jg (z_in (show 0 < 40 by decide) (by decide)), z_jl, nI_clamp (by decide), w1, z_pa p 1410 1410 rfl, z_jg (z_in (by omega) (by decide)), z_jl, nI_clamp (by omega), (hM.2.2.2 p hp).1, z_weakM hM hB, z_jbd2]
  have sib : (if nI (B / 4) < w.1 162 37 then some ((-1 : Int32), w) else if nI 0 ≤ 0 then some (-1, w) else jg (jin (nI 0 - 1) 40) (jbd2 (f_X12_siblingOf (w.2.1 183 (Int32.toNatClampNeg (nI 0 - 1))) (nI p) w) fun x111 w112 => some (x111, w112))) = some (-1, w) := by
    split
    · rfl
    · rw [if_pos (by decide)]
  rw [sib, z_jbd2, if_pos z_m1, z_jbd]
  obtain ⟨wb, b1, b2, b3⟩ := z_endsM hM hp
  rw [ht] at b3
  rw [b1, z_jbd, z_jg j_1, k_1]
  have tb : wb.2.1 182 0 = t := by rw [b2.2.2.2 0 (by decide) (by decide)]; exact ht
  obtain ⟨wc, c1, c2, c3⟩ := z_KA (k := (pg p).1) (t := t) (pg := zfinp pg p t) b3 (zW_N hW b2) tb (by omega) hh.2 (fun e he => (hok e he).1) hB6 hB hh.1
  rw [c3, if_pos (show nI 0 = 0 from rfl), z_jl, z_jg j_0, k_0]
  have frc : zfX w (jsetI wc 162 37 0) := zfX_trans (zfX_N b2) (zfX_trans (zfX_N c1) zfX_I)
  have tc : (jsetI wc 162 37 0).2.1 182 0 = t := by rw [frc.2 0 (by decide) (by decide)]; exact ht
  obtain ⟨wd, d1, d2, d3⟩ := z_joins (w := jsetI wc 162 37 0) (0, t, -2, nI P) (zW_0 wc) (by simp)
  have d1' : f_X12_joins 0 t (nI P) (jsetI wc 162 37 0) = some wd := d1
  rw [tc, d1', z_jbd]
  have e182 : wd.2.1 182 = wc.2.1 182 := by rw [zW_W182 d2]; rfl
  have td : wd.2.1 182 0 = t := by rw [zW_W182 d2]; exact tc
  have frd : zfX w wd := zfX_trans frc (zfX_W d2)
  unfold zcrown
  cases h : ztwo B r with
  | false =>
    unfold zx18
    rw [h]
    simp only [Bool.false_eq_true, if_false, if_true, z_jbd, z_jbd2]
    obtain ⟨wf, f1, f2, f3, f4⟩ := z_becomesRoot (w := wd) (nI P) (zMr_X hR frd (by omega)) hro
    rw [f1, z_jbd]
    rw [td] at f2
    rw [zmn_one h] at c2
    exact ⟨wf, rfl, zfV_trans frd.1 f3, f4 (by rw [e182]; exact c2), f2⟩
  | true =>
    unfold zx18 zx31 zx27
    rw [h]
    simp only [if_true, if_neg (show ¬ (1 : Int32) = 0 by decide), z_jg j_0, td]
    have sp := zsec_pos hB6 hok h
    obtain ⟨we, e1, e2, e3⟩ := z_joins (zsec r, t, -2, nI (P + 1)) d3 (by rw [zins_length]; simp)
    have e1' : f_X12_joins (zsec r) t (nI (P + 1)) wd = some we := e1
    rw [e1', z_jbd, z_jbd]
    rw [zins_1, zins_2 (show (0 : Int32) ≤ zsec r from Int32.not_lt.mp sp)] at e3
    rw [zmn_two h] at c2
    have M1 : zM B (P + 2) (zmk B t P (zfinp pg p t) (pg p).1 r) (we.2.1 182) := by rw [zW_W182 e2, e182]; exact c2
    have te : we.2.1 182 0 = t := by rw [zW_W182 e2]; exact td
    obtain ⟨wf, f1, f2, f3⟩ := z_newPage (a := 0) (b := 2) 0 M1 e3 (by omega) (by simp) (fun e he => by
      simp only [List.mem_cons, List.not_mem_nil, or_false] at he
      rcases he with rfl | rfl <;> rfl) (Nat.zero_le _) (by simp) (by decide)
    have f1' : f_X12_newPage 0 0 2 we = some (nI (P + 2), wf) := f1
    rw [f1', z_jbd2, z_jbd2]
    rw [te] at f3
    have frf : zfX w wf := zfX_trans frd (zfX_trans (zfX_W e2) (zfX_N f2))
    obtain ⟨wg, g1, g2, g3, g4⟩ := z_becomesRoot (w := wf) (nI (P + 2)) (zMr_X hR frf (by omega)) hro
    rw [g1, z_jbd]
    have tf : wf.2.1 182 0 = t := by rw [frf.2 0 (by decide) (by decide)]; exact ht
    rw [tf] at g2
    exact ⟨wg, rfl, zfV_trans frf.1 g3, g4 f3, g2⟩
def zwayM (A : Nat → Int32) : List Nat → Prop
  | [] => True
  | p :: up => A up.length = nI p ∧ zwayM A up
theorem z_replaces {B : Nat} {t b1 : Int32} (hB6 : 6 ≤ B) (hB : B ≤ 12) (htp : ¬ t < 0) : ∀ (pa : List Nat) (n P : Nat) (pg : Nat → zP) (ro : List (Int32 × Int32)) (r : List zE) (w : jw), zgood B t pa P pg ro r → pa.length < n → pa.length ≤ 40 → zwayM (w.2.1 183) pa → zM B P pg (w.2.1 182) → zMr ro (w.2.1 182) → w.2.1 182 0 = t → zW w r →
    ∃ w', l_X12_replaces n b1 (nI (pa.length - 1)) w = some w' ∧ zfV w w' ∧ zM B (zrep B t pa P pg ro r).1 (zrep B t pa P pg ro r).2.1 (w'.2.1 182) ∧ zMr (zrep B t pa P pg ro r).2.2 (w'.2.1 182) := by
  intro pa
  induction pa with
  | nil => intro n P pg ro r w h; exact h.elim
  | cons p up ih =>
    cases up with
    | nil =>
      intro n P pg ro r w hg hn h40 hw hM hR ht hW
      obtain ⟨g1, g2, g3, g4, g5⟩ := hg
      cases n with
      | zero => cases hn
      | succ n =>
        cases n with
        | zero => simp at hn
        | succ n =>
          obtain ⟨w1, a1, a2, a3, a4⟩ := z_replRoot (t := t) g1 g2 g3 g4 g5 hM hR ht hW hB6 hB hw.1
          unfold l_X12_replaces zrep
          simp only [List.length_cons, List.length_nil, Nat.zero_add, Nat.sub_self]
          rw [if_neg (show ¬ nI 0 < 0 by decide), a1, z_jbd2]
          unfold l_X12_replaces
          rw [if_pos (by decide)]
          exact ⟨w1, rfl, a2, a3, a4⟩
    | cons q up =>
      intro n P pg ro r w hg hn h40 hw hM hR ht hW
      obtain ⟨g1, g2, g3, g4⟩ := hg
      simp only [List.length_cons] at hn h40
      cases n with
      | zero => cases hn
      | succ n =>
        obtain ⟨w1, a1, a2, a3, a4, a5⟩ := z_replOne (d := up.length) g1 g2 g3 hM hR ht htp hW hB6 hB (by omega) hw.1 hw.2.1
        unfold l_X12_replaces zrep
        have ll : (p :: q :: up).length - 1 = up.length + 1 := by simp
        rw [ll, if_neg (nI_pos (by omega)), a1, z_jbd2]
        generalize hH : zhand B t P q (decide (up.length = 0)) (zmk B t P (zfinp (zleave B t pg p q r).1 p t) (pg p).1 (zleave B t pg p q r).2.1) (zleave B t pg p q r).2.1 (zleave B t pg p q r).2.2 ro = H at *
        cases hc : H.1 with
        | false =>
          simp only [Bool.false_eq_true, if_false]
          cases n with
          | zero => omega
          | succ n =>
            unfold l_X12_replaces
            rw [if_pos z_m1]
            exact ⟨w1, rfl, a2, a3, a4⟩
        | true =>
          simp only [if_true]
          have x183 : w1.2.1 183 = w.2.1 183 := a2.2.2.2.1 183 (by decide) (by decide) (by decide) (by decide)
          obtain ⟨w2, d1, d2, d3, d4⟩ := ih n _ _ _ _ w1 (g4 hc) (by simp; omega) (by simp; omega) (by rw [x183]; exact hw.2) a3 a4 (by rw [a2.2.2.2.2 0 (by omega)]; exact ht) (a5 hc)
          refine ⟨w2, ?_, zfV_trans a2 d2, d3, d4⟩
          simpa using d1
end
