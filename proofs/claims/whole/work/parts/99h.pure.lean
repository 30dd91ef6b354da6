section
/-! tells: a put or a cut, in both parsers -/
def zPwC (T : List zT) (n : Nat) (P : zPrg) (stk : List Nat) (w : jw) : Prop := w.2.2.2 11 = stk.reverse.map (fun x => nI (qps P x)) ∧ (w.2.2.2 13).length = T.length ∧ (w.2.2.2 15).length = T.length ∧
  (∀ p, p < n → qso P p = 3 → (w.2.2.2 13).getD (qps P p) 0 = nI (qps P (qmt P p)) ∧ (w.2.2.2 13).getD (qps P (qmt P p)) 0 = nI (qps P p)) ∧
  (∀ p, p < n → qso P p = 2 → (w.2.2.2 15).getD (qps P p) 0 = if qac P p = true then 1 else 0) ∧
  (∀ q, qps P n ≤ q → (w.2.2.2 15).getD q 0 = 0) ∧ ∀ p, p < n → qps P p + 2 ≤ qps P (p + 1)
def zPwM (n : Nat) (P : zPrg) (stk : List Nat) (cb : Nat) (wm : jw) : Prop := wm.1 162 18 = nI n ∧ wm.1 162 24 = nI stk.length ∧ wm.1 162 26 = nI cb ∧ wm.1 162 12 = 0 ∧ cb ≤ qps P n ∧
  (∀ p, p < n → wm.2.1 170 p = nI (qso P p)) ∧
  (∀ p, p < n → qso P p ≤ 1 → wm.2.1 171 p = nI (qcf P p) ∧ wm.2.1 172 p = nI (qcf P p + (qc1 P p).length) ∧ wm.2.1 173 p = nI (qcf P p + (qc1 P p).length + (qc2 P p).length) ∧ zCm (qcf P p) (qc1 P p) wm ∧ zCm (qcf P p + (qc1 P p).length) (qc2 P p) wm ∧ qcf P p + (qc1 P p).length + (qc2 P p).length ≤ cb) ∧
  (∀ p, p < n → qso P p = 2 → wm.2.1 171 p = qvv P p) ∧
  (∀ p, p < n → qso P p = 3 → wm.2.1 174 p = nI (qmt P p) ∧ wm.2.1 174 (qmt P p) = nI p) ∧
  (∀ (i x : Nat), stk.reverse[i]? = some x → wm.2.1 175 i = nI x) ∧
  (wm.1 162 15 = 0 → ∀ p, p < n → qso P p = 2 → ∃ m, m ≤ 99 ∧ qvv P p = nI m)
/-- where the tells begin -/
def zbeg (T : List zT) : Nat := if (zt T 0).1 = kPage then 3 else 0
def zmok (T : List zT) : Prop := (zt T 0).1 = kPage → 6 ≤ (zt T 1).2.2 ∧ (zt T 1).2.2 ≤ 12
def zPS (T : List zT) (n : Nat) (P : zPrg) (stk : List Nat) (cb : Nat) (w wm : jw) : Prop := zPg T n P stk ∧ zPwC T n P stk w ∧ zPwM n P stk cb wm ∧ wm.1 162 11 = nI (qps P n) ∧ wm.1 162 13 = 0 ∧ zWr T (qps P n) w wm ∧ qps P n < T.length ∧ 2 * n ≤ qps P n ∧ stk.length ≤ 3 ∧ zTC T w ∧ zTRx T wm ∧ qps P 0 = zbeg T ∧ (wm.1 162 15 = 0 → zmok T)
def zTo (T : List zT) (n : Nat) (w wm : jw) (rc rm : Option jw) : Prop := (∃ P' stk' cb' w' wm', rc = some (zpA w' (qps P' (n + 1)) 0) ∧ rm = some wm' ∧ zPS T (n + 1) P' stk' cb' w' wm' ∧ zfPc w w' ∧ zfPm wm wm') ∨ zFail T w wm rc rm
theorem zps_lt {T : List zT} {n : Nat} {P : zPrg} {stk : List Nat} {w : jw} (h : zPwC T n P stk w) : ∀ (d p : Nat), p + d + 1 ≤ n → qps P p < qps P (p + d + 1) := by
  intro d
  induction d with
  | zero => intro p hp; have := h.2.2.2.2.2.2 p (by omega); rw [Nat.add_zero]; omega
  | succ d ih =>
    intro p hp
    have h1 := ih p (by omega)
    have h2 := h.2.2.2.2.2.2 (p + d + 1) (by omega)
    rw [show p + (d + 1) + 1 = p + d + 1 + 1 by omega]
    omega
theorem zps_mono {T : List zT} {n : Nat} {P : zPrg} {stk : List Nat} {w : jw} (h : zPwC T n P stk w) {p q : Nat} (hpq : p < q) (hq : q ≤ n) : qps P p < qps P q := by
  have := zps_lt h (q - p - 1) p (by omega)
  rwa [show p + (q - p - 1) + 1 = q by omega] at this
theorem zps_inj {T : List zT} {n : Nat} {P : zPrg} {stk : List Nat} {w : jw} (h : zPwC T n P stk w) {p q : Nat} (hp : p ≤ n) (hq : q ≤ n) (e : qps P p = qps P q) : p = q := by
  rcases Nat.lt_trichotomy p q with c | c | c
  · have := zps_mono h c hq; omega
  · exact c
  · have := zps_mono h c hp; omega
/-- the mark of the innermost do -/
theorem z_mark {T : List zT} {n : Nat} {P : zPrg} {stk : List Nat} {w : jw} (h : zPg T n P stk) (hw : zPwC T n P stk w) (hi : qps P n < T.length) (hl : T.length ≤ 401) (i : Nat) (f : Int32) : ∃ w', f_X7_markAct (zpA w i f) = some (zpA w' i f) ∧ zfPc w w' ∧ w'.1 = w.1 ∧ w'.2.2.2 11 = w.2.2.2 11 ∧ w'.2.2.2 13 = w.2.2.2 13 ∧ (w'.2.2.2 15).length = T.length ∧ (∀ p, p < n → (w'.2.2.2 15).getD (qps P p) 0 = if qpa P n = p + 1 then 1 else (w.2.2.2 15).getD (qps P p) 0) ∧ ∀ q, qps P n ≤ q → (w'.2.2.2 15).getD q 0 = 0 := by
  obtain ⟨a1, a2, a3, a4, a5, a6, a7⟩ := hw
  unfold f_X7_markAct
  show ∃ w', (if (nI (w.2.2.2 11).length) ≤ 0 then some (zpA w i f) else jl (jsetR (zpA w i f) 15 (rset (w.2.2.2 15) (rat (w.2.2.2 11) ((nI (w.2.2.2 11).length) - 1)) 1)) fun w2 => some w2) = some (zpA w' i f) ∧ _
  rcases zStk_pa h.2.2.2.2.2.2.1 with ⟨z1, z2⟩ | ⟨x, s, z1, z2⟩
  · have l0 : (w.2.2.2 11).length = 0 := by rw [a1, z1]; rfl
    rw [l0, if_pos (by decide)]
    exact ⟨w, rfl, zfPc_rfl w, rfl, rfl, rfl, a3, fun p hp => by rw [if_neg (by omega)], a6⟩
  · have xl : x < n := (zStk_lt h.2.2.2.2.2.2.1 x (by rw [z1]; exact List.mem_cons_self)).1
    have px : qps P x < qps P n := zps_mono (T := T) ⟨a1, a2, a3, a4, a5, a6, a7⟩ xl (Nat.le_refl _)
    have ln : (w.2.2.2 11).length = s.length + 1 := by rw [a1, z1, List.length_map, List.length_reverse, List.length_cons]
    have dl : s.length + 1 ≤ 400 := by
      have h1 := zStk_dp h.2.2.2.2.2.2.1
      have h2 : ∀ (t : List Nat) (m : Nat), zStk P m t → t.length ≤ m := by
        intro t
        induction t with
        | nil => intro m _; exact Nat.zero_le _
        | cons y t ih => intro m hm; have := ih y hm.2.2.2.2; have := hm.2.1; rw [List.length_cons]; omega
      have h3 := h2 stk n h.2.2.2.2.2.2.1
      have h4 : ∀ m, m ≤ n → m ≤ qps P m := fun m => by
        induction m with
        | zero => intro _; omega
        | succ m ih => intro hm; have := ih (by omega); have := a7 m (by omega); omega
      have := h4 n (Nat.le_refl _)
      rw [z1, List.length_cons] at h3
      omega
    have rt : rat (w.2.2.2 11) (nI (s.length + 1) - 1) = nI (qps P x) := by
      rw [show nI (s.length + 1) - 1 = nI s.length from pk_sub (b := 1) (by omega), z_rat (by omega), a1, z1, List.reverse_cons, List.map_append, List.getD_eq_getElem?_getD, List.getElem?_append_right (by rw [List.length_map, List.length_reverse]; exact Nat.le_refl _), List.length_map, List.length_reverse, Nat.sub_self]
      rfl
    have rs : rset (w.2.2.2 15) (nI (qps P x)) 1 = (w.2.2.2 15).set (qps P x) 1 := by
      unfold rset
      rw [if_neg (nI_pos (by omega)), nI_clamp (by omega)]
    rw [ln, if_neg (show ¬ nI (s.length + 1) ≤ 0 from nI_ge (a := 0) (by omega) (by omega)), rt, rs, z_jl]
    refine ⟨jsetR w 15 ((w.2.2.2 15).set (qps P x) 1), rfl, ⟨fun _ _ => rfl, rfl, rfl, fun k _ _ k3 => z_jR2 k3, fun _ _ => rfl⟩, rfl, z_jR2 (by decide), z_jR2 (by decide), by rw [z_jR1, List.length_set]; exact a3, fun p hp => ?_, fun q hq => ?_⟩
    · rw [z_jR1, List.getD_eq_getElem?_getD, List.getElem?_set]
      by_cases c : p = x
      · rw [c, if_pos rfl, if_pos (by omega), if_pos z2]; rfl
      · rw [if_neg (fun z => c (zps_inj (T := T) (w := w) ⟨a1, a2, a3, a4, a5, a6, a7⟩ (by omega) (by omega) z.symm)), if_neg (by omega), List.getD_eq_getElem?_getD]
    · rw [z_jR1, List.getD_eq_getElem?_getD, List.getElem?_set, if_neg (by omega), ← List.getD_eq_getElem?_getD]
      exact a6 q hq
/-! the reference's tails -/
def zr3 (x1 : Int32) (w16 : jw) : Option jw := jg (jin x1 210) (jl (jsetX w16 173 (Int32.toNatClampNeg x1) (w16.1 162 26)) fun w19 => jbd (f_X12_must 4 w19) fun q20 => jl (jsetI q20 162 18 ((q20.1 162 18) + 1)) fun w21 => some w21)
def zr2 (x1 : Int32) (w11 : jw) : Option jw := jg (jin x1 210) (jl (jsetX w11 172 (Int32.toNatClampNeg x1) (w11.1 162 26)) fun w14 => jbd (if (w14.1 162 13) = 0 then jg (jin x1 210) ((if (w14.2.1 170 (Int32.toNatClampNeg x1)) = 0 then jbd (f_X12_expression w14) fun q24 => some q24 else some w14)) else some w14) fun w16 => zr3 x1 w16)
def zr1 (x1 : Int32) (q7 : jw) : Option jw := jg (jin x1 210) (jl (jsetX q7 171 (Int32.toNatClampNeg x1) (q7.1 162 26)) fun w9 => jbd (if (w9.1 162 13) = 0 then jbd (f_X12_expression w9) fun q25 => some q25 else some w9) fun w11 => zr2 x1 w11)
def zSt13 (w w' : jw) : Prop := w'.1 162 13 = w.1 162 13 ∧ w'.1 162 14 = w.1 162 14 ∧ zfPm w w'
theorem zr3F {n : Nat} (hn : n < 210) {w : jw} (h : w.1 162 13 = 1 ∨ w.1 162 13 = 2) : ∃ w', zr3 (nI n) w = some w' ∧ zSt13 w w' := by
  unfold zr3
  rw [z_jg (z_in hn (by decide)), z_jl, z_muF (w := jsetX w 173 (Int32.toNatClampNeg (nI n)) (w.1 162 26)) h, z_jbd, z_jl]
  exact ⟨_, rfl, zI_ne (by decide), zI_ne (by decide), zfPm_trans (zfPm_X (by decide) (by decide)) (zfPm_I (by decide) (by decide))⟩
theorem zr2F {n : Nat} (hn : n < 210) {w : jw} (h : w.1 162 13 = 1 ∨ w.1 162 13 = 2) : ∃ w', zr2 (nI n) w = some w' ∧ zSt13 w w' := by
  unfold zr2
  rw [z_jg (z_in hn (by decide)), z_jl, if_neg (show ¬ (jsetX w 172 (Int32.toNatClampNeg (nI n)) (w.1 162 26)).1 162 13 = 0 from (zf12 h).1), z_jbd]
  obtain ⟨w', e1, e2, e3, e4⟩ := zr3F hn (w := jsetX w 172 (Int32.toNatClampNeg (nI n)) (w.1 162 26)) h
  exact ⟨w', e1, e2, e3, zfPm_trans (zfPm_X (by decide) (by decide)) e4⟩
theorem zr1F {n : Nat} (hn : n < 210) {w : jw} (h : w.1 162 13 = 1 ∨ w.1 162 13 = 2) : ∃ w', zr1 (nI n) w = some w' ∧ zSt13 w w' := by
  unfold zr1
  rw [z_jg (z_in hn (by decide)), z_jl, if_neg (show ¬ (jsetX w 171 (Int32.toNatClampNeg (nI n)) (w.1 162 26)).1 162 13 = 0 from (zf12 h).1), z_jbd]
  obtain ⟨w', e1, e2, e3, e4⟩ := zr2F hn (w := jsetX w 171 (Int32.toNatClampNeg (nI n)) (w.1 162 26)) h
  exact ⟨w', e1, e2, e3, zfPm_trans (zfPm_X (by decide) (by decide)) e4⟩
theorem zFail_mk {T : List zT} {w w' wm wm1 wm2 : jw} {j : Nat} {f : Int32} {rc rm : Option jw} (hf : f = 1 ∨ f = 2) (hj : j < T.length) (h1 : rc = some (zpA w' j f)) (h2 : rm = some wm2) (h3 : wm1.1 162 13 = f) (h4 : wm1.1 162 14 = (zt T j).2.1) (h5 : zSt13 wm1 wm2) (h6 : zfPc w w') (h7 : zfPm wm wm1) : zFail T w wm rc rm := ⟨w', j, f, wm2, hf, hj, h1, h2, by rw [h5.1]; exact h3, by rw [h5.2.1]; exact h4, h6, zfPm_trans h7 h5.2.2⟩
theorem z_tellSel {T : List zT} {wm : jw} {i n : Nat} (hT : zTRx T wm) (hi : i < T.length) (hl : T.length ≤ 401) (h11 : wm.1 162 11 = nI i) (h18 : wm.1 162 18 = nI n) (hn : n < 210) : ((zt T i).1 = kPut ∨ (zt T i).1 = kCut) → f_X12_tellOne wm = jbd (f_X12_goesOn (jsetX wm 170 n (nI (if (zt T i).1 = kPut then 0 else 1)))) fun q7 => zr1 (nI n) q7 := fun hk => by
  have gi : jin (nI i) 403 = true := z_in (by omega) (by decide)
  have gn : jin (nI n) 210 = true := z_in hn (by decide)
  unfold f_X12_tellOne
  rw [h18, z_jl, h11, z_jg gi, z_jg gn, nI_clamp (show i < 2 ^ 31 by omega), nI_clamp (show n < 2 ^ 31 by omega), z_jl]
  rw [show (jsetX wm 170 n (wm.2.1 165 i - 21)).1 162 11 = nI i from h11, z_jg gi, nI_clamp (show i < 2 ^ 31 by omega), z_jX2 (show 165 ≠ 170 by decide)]
  have r : wm.2.1 165 i = zkR (zt T i).1 := zR_r hT hi (by rcases hk with z | z <;> rw [z] <;> decide)
  rcases hk with z | z
  · rw [r, z, if_pos (by decide), if_pos rfl]
    unfold zr1 zr2 zr3
    rw [show Int32.toNatClampNeg (nI n) = n from nI_clamp (by omega)]
    rfl
  · rw [r, z, if_neg (by decide), if_pos (by decide), if_neg (by decide)]
    unfold zr1 zr2 zr3
    rw [show Int32.toNatClampNeg (nI n) = n from nI_clamp (by omega)]
    rfl
end
