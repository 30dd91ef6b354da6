section
/-! the history in the class's rows and in the reference's -/
def zCh (hs : List zH) (w : jw) : Prop := w.2.2.2 36 = hs.map (fun h => h.2.1) ∧ w.2.2.2 38 = hs.map (fun h => h.1) ∧ w.2.2.2 40 = hs.map (fun h => h.2.2.1) ∧ w.2.2.2 42 = hs.map (fun h => h.2.2.2) ∧ w.1 35 4 = nI (zliv hs)
def zof (o : Option Nat) : Int32 := match o with
  | none => -1
  | some f => nI f
theorem z_gm {l : List zH} {g : zH → Int32} {i : Nat} {h : zH} (hi : l[i]? = some h) : (l.map g).getD i 0 = g h := by simp [List.getD_eq_getElem?_getD, hi]
theorem z_livingFrom_l {hs : List zH} {w : jw} {key b2 : Int32} (h : zCh hs w) (hl : hs.length < 100000) : ∀ (f n : Nat), f < hs.length → f < n → l_X2_livingFrom n key b2 (nI f) w = some (zof (zlf hs key f), w) := by
  intro f
  induction f with
  | zero =>
    intro n _ hn
    cases n with
    | zero => cases hn
    | succ n =>
      unfold l_X2_livingFrom
      rw [if_pos (show nI 0 ≤ 0 by decide)]
      rfl
  | succ f ih =>
    intro n hf hn
    have hx := List.getElem?_eq_getElem hf
    cases n with
    | zero => cases hn
    | succ n =>
      unfold l_X2_livingFrom zlf
      rw [if_neg (nI_nle (by omega) (by omega)), z_rat (by omega), z_rat (by omega), h.1, h.2.1, z_gm hx, z_gm hx, hx]
      simp only []
      by_cases c : hs[f + 1].2.1 = key
      · rw [if_pos c, if_pos c]
        by_cases d : hs[f + 1].1 = 1
        · rw [if_pos d, if_pos d]; rfl
        · rw [if_neg d, if_neg d]; rfl
      · rw [if_neg c, if_neg c, z_jl, pk_m1]
        exact ih n (by omega) (by omega)
theorem z_livingFrom {hs : List zH} {w : jw} {key : Int32} {f : Nat} (h : zCh hs w) (hl : hs.length < 30000) (hf : f < hs.length) : f_X2_livingFrom key (nI f) w = some (zof (zlf hs key f), w) := by
  unfold f_X2_livingFrom
  exact z_livingFrom_l h (by omega) f jfu hf (by show _ < 40000; omega)
theorem z_now' {hs : List zH} {w : jw} (h : zCh hs w) (l0 : 0 < hs.length) : f_X2_now w = some (nI (hs.length - 1), w) := by
  unfold f_X2_now
  rw [h.1, List.length_map, show nI hs.length - 1 = nI (hs.length - 1) from pk_sub (b := 1) l0]
theorem zhap_vr {hs : List zH} {put key value : Int32} : zvr (zhap hs put key value) 0 = (match zlf hs key (hs.length - 1) with
  | some f => (zvr hs 0).set (zix hs f) ((hs.getD f (0, 0, 0, 0)).2.1, nI f, nI hs.length, (hs.getD f (0, 0, 0, 0)).2.2.1)
  | none => zvr hs 0) ++ (if put = 1 then [(key, nI hs.length, -2, value)] else []) := by
  have tail : ∀ t, zvr [(put, key, value, -2)] t = if put = 1 then [(key, nI t, -2, value)] else [] := fun t => by
    show (if zpt (put, key, value, -2) = true then _ else _) = _
    by_cases c : put = 1
    · rw [if_pos (show zpt (put, key, value, -2) = true from decide_eq_true c), if_pos c]; rfl
    · rw [if_neg (by simpa [zpt] using c), if_neg c]; rfl
  unfold zhap
  cases hz : zlf hs key (hs.length - 1) with
  | none =>
    simp only []
    rw [zvr_app, tail, Nat.zero_add]
  | some f =>
    simp only []
    obtain ⟨_, _, ⟨x, q1, q2, q3⟩, _⟩ := zlf_some _ _ hz
    have gd : hs.getD f (0, 0, 0, 0) = x := by simp [List.getD_eq_getElem?_getD, q1]
    rw [gd, zvr_app, tail, Nat.zero_add, List.length_set, zvr_set q1 q2]
theorem zliv_hap {hs : List zH} {put key value : Int32} (h : zHi hs) (hp : put = 0 ∨ put = 1) : zliv (zhap hs put key value) + (if (zlf hs key (hs.length - 1)).isSome = true then 1 else 0) = zliv hs + (if put = 1 then 1 else 0) := by
  have hl := h.2.1
  have t2 : nI hs.length ≠ -2 := fun e => nI_pos (show hs.length < 2 ^ 31 by omega) (by rw [e]; decide)
  have tl : (if put = 1 then [(key, nI hs.length, (-2 : Int32), value)] else [] : List zE).countP znw = if put = 1 then 1 else 0 := by
    by_cases c : put = 1
    · rw [if_pos c, if_pos c]; rfl
    · rw [if_neg c, if_neg c]; rfl
  unfold zliv
  rw [zhap_vr, List.countP_append, tl]
  cases hz : zlf hs key (hs.length - 1) with
  | none => simp
  | some f =>
    obtain ⟨_, _, ⟨x, q1, q2, q3⟩, _⟩ := zlf_some _ _ hz
    have gd : hs.getD f (0, 0, 0, 0) = x := by simp [List.getD_eq_getElem?_getD, q1]
    simp only [Option.isSome_some, if_true]
    rw [gd]
    have liv : znw (zver f x) = true := (znw_lf h q1 q2).mpr (by rw [q3]; exact hz)
    have := (zset_perm (e' := (x.2.1, nI f, nI hs.length, x.2.2.1)) (zvr_at q1 q2) liv (zdead t2 rfl)).length_eq
    rw [List.length_append, List.length_singleton, ← List.countP_eq_length_filter, ← List.countP_eq_length_filter] at this
    omega
theorem z_nIput {put : Int32} (hp : put = 0 ∨ put = 1) (n : Nat) : nI n + put = nI (n + if put = 1 then 1 else 0) := by
  rcases hp with z | z
  · rw [z]
    rw [if_neg (by decide), show (0 : Int32) = nI 0 from rfl, nI_add]
  · rw [z, if_pos rfl, nI_1]
def zfH (w w' : jw) : Prop := (∀ a, a ≠ 35 → w'.1 a = w.1 a) ∧ w'.2.1 = w.2.1 ∧ w'.2.2.1 = w.2.2.1 ∧ ∀ k, k ≠ 36 → k ≠ 38 → k ≠ 40 → k ≠ 42 → w'.2.2.2 k = w.2.2.2 k
theorem z_mset {hs : List zH} {f : Nat} {x : zH} (g : zH → Int32) (h : hs[f]? = some x) : (hs.map g).set f (g x) = hs.map g := List.ext_getElem? (fun j => by
  rw [List.getElem?_set]
  by_cases c : f = j
  · subst c
    have fl := (List.getElem?_eq_some_iff.mp h).1
    rw [if_pos rfl, List.getElem?_map, h]
    simp [fl]
  · rw [if_neg c])
theorem z_happen {hs : List zH} {w : jw} {put key value : Int32} (h : zCh hs w) (hi : zHi hs) (hl : hs.length < 3000) (hp : put = 0 ∨ put = 1) : ∃ w', f_X2_happen put key value w = some (nI hs.length, w') ∧ zfH w w' ∧ zCh (zhap hs put key value) w' := by
  have l0 := zHi_len hi
  obtain ⟨h36, h38, h40, h42, hL⟩ := h
  have L36 : (w.2.2.2 36).length = hs.length := by rw [h36, List.length_map]
  have L38 : (w.2.2.2 38).length = hs.length := by rw [h38, List.length_map]
  have L40 : (w.2.2.2 40).length = hs.length := by rw [h40, List.length_map]
  have L42 : (w.2.2.2 42).length = hs.length := by rw [h42, List.length_map]
  have lv := zliv_hap (key := key) (value := value) hi hp
  unfold f_X2_happen
  rw [z_jl, L36, show nI hs.length - 1 = nI (hs.length - 1) from pk_sub (b := 1) l0, z_livingFrom ⟨h36, h38, h40, h42, hL⟩ (by omega) (by omega), z_jbd2]
  cases hz : zlf hs key (hs.length - 1) with
  | none =>
    rw [if_pos (show zof none = -1 from rfl)]
    simp only [z_jl]
    rw [z_jg (decide_eq_true (by show (w.2.2.2 36).length ≤ 4096; omega)), z_jg (decide_eq_true (by rw [z_jR2 (by decide)]; show (w.2.2.2 38).length ≤ 4096; omega)), z_jg (decide_eq_true (by rw [z_jR2 (by decide), z_jR2 (by decide)]; show (w.2.2.2 40).length ≤ 4096; omega)), z_jg (decide_eq_true (by rw [z_jR2 (by decide), z_jR2 (by decide), z_jR2 (by decide)]; show (w.2.2.2 42).length ≤ 4096; omega))]
    refine ⟨_, rfl, ⟨fun a ha => z_jI2 ha, rfl, rfl, fun k k1 k2 k3 k4 => by rw [z_jR2 k4, z_jR2 k3, z_jR2 k2, z_jR2 k1]; rfl⟩, ?_, ?_, ?_, ?_, ?_⟩
    · rw [z_jR2 (by decide), z_jR2 (by decide), z_jR2 (by decide), z_jR1]
      show w.2.2.2 36 ++ [key] = _
      unfold zhap
      rw [hz, h36]
      simp
    · rw [z_jR2 (by decide), z_jR2 (by decide), z_jR1, z_jR2 (by decide)]
      show w.2.2.2 38 ++ [put] = _
      unfold zhap
      rw [hz, h38]
      simp
    · rw [z_jR2 (by decide), z_jR1, z_jR2 (by decide), z_jR2 (by decide)]
      show w.2.2.2 40 ++ [value] = _
      unfold zhap
      rw [hz, h40]
      simp
    · rw [z_jR1, z_jR2 (by decide), z_jR2 (by decide), z_jR2 (by decide)]
      show w.2.2.2 42 ++ [-2] = _
      unfold zhap
      rw [hz, h42]
      simp
    · show (jsetI w 35 4 (w.1 35 4 + put)).1 35 4 = _
      rw [z_jI1, zup_eq, hL, z_nIput hp]
      rw [hz] at lv
      simp only [Option.isSome_none, Bool.false_eq_true, if_false, Nat.add_zero] at lv
      rw [lv]
  | some f =>
    obtain ⟨_, f2, ⟨x, q1, q2, q3⟩, _⟩ := zlf_some _ _ hz
    have fl := (List.getElem?_eq_some_iff.mp q1).1
    have gd : hs.getD f (0, 0, 0, 0) = x := by simp [List.getD_eq_getElem?_getD, q1]
    rw [if_neg (show ¬ zof (some f) = -1 from z_nm1 (by omega))]
    simp only [z_jl]
    rw [z_jg (decide_eq_true (by show ((jsetR w 42 _).2.2.2 36).length ≤ 4096; rw [z_jR2 (by decide)]; omega)), z_jg (decide_eq_true (by rw [z_jR2 (by decide)]; show ((jsetR w 42 _).2.2.2 38).length ≤ 4096; rw [z_jR2 (by decide)]; omega)), z_jg (decide_eq_true (by rw [z_jR2 (by decide), z_jR2 (by decide)]; show ((jsetR w 42 _).2.2.2 40).length ≤ 4096; rw [z_jR2 (by decide)]; omega)), z_jg (decide_eq_true (by rw [z_jR2 (by decide), z_jR2 (by decide), z_jR2 (by decide)]; show ((jsetR w 42 _).2.2.2 42).length ≤ 4096; rw [z_jR1, show zof (some f) = nI f from rfl, z_rset (by omega), List.length_set]; omega))]
    refine ⟨_, rfl, ⟨fun a ha => ?_, rfl, rfl, fun k k1 k2 k3 k4 => ?_⟩, ?_, ?_, ?_, ?_, ?_⟩
    · show (jsetI (jsetI (jsetR w 42 _) 35 4 _) 35 4 _).1 a = _
      rw [z_jI2 ha, z_jI2 ha]
      rfl
    · rw [z_jR2 k4, z_jR2 k3, z_jR2 k2, z_jR2 k1]
      show (jsetR w 42 _).2.2.2 k = _
      rw [z_jR2 k4]
    · rw [z_jR2 (by decide), z_jR2 (by decide), z_jR2 (by decide), z_jR1]
      show (jsetR w 42 _).2.2.2 36 ++ [key] = _
      unfold zhap
      rw [hz, z_jR2 (by decide), h36]
      simp only []
      rw [List.map_append, List.map_set, gd]
      have e : (hs.map (fun h => h.2.1)).set f x.2.1 = hs.map (fun h => h.2.1) := z_mset (fun h => h.2.1) q1
      show List.map _ hs ++ [key] = (List.map _ hs).set f x.2.1 ++ [key]
      rw [e]
    · rw [z_jR2 (by decide), z_jR2 (by decide), z_jR1, z_jR2 (by decide)]
      show (jsetR w 42 _).2.2.2 38 ++ [put] = _
      unfold zhap
      rw [hz, z_jR2 (by decide), h38]
      simp only []
      rw [List.map_append, List.map_set, gd]
      have e : (hs.map (fun h => h.1)).set f x.1 = hs.map (fun h => h.1) := z_mset (fun h => h.1) q1
      show List.map _ hs ++ [put] = (List.map _ hs).set f x.1 ++ [put]
      rw [e]
    · rw [z_jR2 (by decide), z_jR1, z_jR2 (by decide), z_jR2 (by decide)]
      show (jsetR w 42 _).2.2.2 40 ++ [value] = _
      unfold zhap
      rw [hz, z_jR2 (by decide), h40]
      simp only []
      rw [List.map_append, List.map_set, gd]
      have e : (hs.map (fun h => h.2.2.1)).set f x.2.2.1 = hs.map (fun h => h.2.2.1) := z_mset (fun h => h.2.2.1) q1
      show List.map _ hs ++ [value] = (List.map _ hs).set f x.2.2.1 ++ [value]
      rw [e]
    · rw [z_jR1, z_jR2 (by decide), z_jR2 (by decide), z_jR2 (by decide)]
      show (jsetR w 42 (rset (w.2.2.2 42) (zof (some f)) (nI hs.length))).2.2.2 42 ++ [-2] = _
      unfold zhap
      rw [hz, z_jR1, h42, show zof (some f) = nI f from rfl, z_rset (by omega)]
      simp only []
      rw [List.map_append, List.map_set]
      rfl
    · rw [z_R1x, z_R1x, z_R1x, z_R1x, z_jI1, zup_eq, z_jI1, zup_eq, z_R1x]
      rw [hz] at lv
      simp only [Option.isSome_some, if_true] at lv
      have hz1 : 1 ≤ zliv hs := by
        unfold zliv
        exact List.countP_pos_iff.mpr ⟨zver f x, List.mem_of_getElem? (zvr_at q1 q2), (znw_lf hi q1 q2).mpr (by rw [q3]; exact hz)⟩
      rw [hL, show nI (zliv hs) - 1 = nI (zliv hs - 1) from pk_sub (b := 1) hz1, z_nIput hp]
      congr 1
      omega
end
