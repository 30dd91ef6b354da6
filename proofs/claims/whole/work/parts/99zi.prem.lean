section
/-! what the statement gives at the start -/
theorem q_ex : ∀ i, i < 12 → Cond.exactly (.string RX4 (sidx.getD i 0)) "java/lang/String" ∈ flatC (Jvm.Cond.and given_1 narrow_1) := by decide +kernel
theorem q_co : ∀ i, i < 12 → Cond.eq (.field (.string RX4 (sidx.getD i 0)) "java/lang/String" "coder" "B") (.int 0) ∈ flatC (Jvm.Cond.and given_1 narrow_1) := by decide +kernel
theorem q_ar : ∀ i, i < 12 → Cond.arrayOf (.field (.string RX4 (sidx.getD i 0)) "java/lang/String" "value" "[B") .byte ∈ flatC (Jvm.Cond.and given_1 narrow_1) := by decide +kernel
theorem q_le : ∀ i, i < 12 → Cond.eq (.length (.field (.string RX4 (sidx.getD i 0)) "java/lang/String" "value" "[B")) (.int (Int32.ofNat (slen.getD i 0))) ∈ flatC (Jvm.Cond.and given_1 narrow_1) := by decide +kernel
theorem q_el : ∀ i, i < 12 → ∀ j, j < slen.getD i 0 → Cond.eq (.elem (.field (.string RX4 (sidx.getD i 0)) "java/lang/String" "value" "[B") (.int (Int32.ofNat j))) (.int ((sbyt.getD i []).getD j 0)) ∈ flatC (Jvm.Cond.and given_1 narrow_1) := by decide +kernel
theorem q_ne : ∀ i, i < 12 → ∀ j, j < 12 → i ≠ j → Cond.not (Cond.eq (.string RX4 (sidx.getD i 0)) (.string RX4 (sidx.getD j 0))) ∈ flatC (Jvm.Cond.and given_1 narrow_1) ∨ Cond.not (Cond.eq (.string RX4 (sidx.getD j 0)) (.string RX4 (sidx.getD i 0))) ∈ flatC (Jvm.Cond.and given_1 narrow_1) := by decide +kernel
theorem q_cs : Cond.eq (.static "java/lang/String" "COMPACT_STRINGS" "Z") (.int 1) ∈ flatC (Jvm.Cond.and given_1 narrow_1) := by decide +kernel
theorem q_sf : Cond.isRef (.static "jdk/internal/util/Preconditions" "SIOOBE_FORMATTER" "Ljava/util/function/BiFunction;") ∈ flatC (Jvm.Cond.and given_1 narrow_1) := by decide +kernel
def spos : List Nat := [629, 682, 683, 684, 685, 690, 691, 692, 693, 694, 695, 703]
theorem q_sr : ∀ i, i < 12 → lw_tbl[spos.getD i 0]? = some (Cond.stringRef RX4 (sidx.getD i 0) (stx.getD i "")) := by decide +kernel
theorem q_l1 : lw_tbl[643]? = some (Cond.laysStatic "java/lang/String" "COMPACT_STRINGS" "Z") := by decide +kernel
theorem q_l2 : lw_tbl[659]? = some (Cond.laysStatic "jdk/internal/util/Preconditions" "SIOOBE_FORMATTER" "Ljava/util/function/BiFunction;") := by decide +kernel
theorem q_i1 : lw_tbl[124]? = some (Cond.initialized "java/lang/String") := by decide +kernel
theorem q_i2 : lw_tbl[126]? = some (Cond.initialized "jdk/internal/util/Preconditions") := by decide +kernel
theorem q_ao : lw_tbl[486]? = some (Cond.arrayOver (.object RX9)) := by decide +kernel
theorem zz_Zs {s : State} {args : Array Value} (hts : ∀ w ∈ lw_tbl, w.before args s = true) (hgv : (Jvm.Cond.and given_1 narrow_1).before args s = true) : ∃ A : (Nat → Nat) × Option Nat, Zs A s.heap.size s := by
  have hs := flat_of_before _ hgv
  have hA : ∀ a : Nat, a < s.heap.size → ¬ s.heap.size ≤ a := fun a h => Nat.not_le.mpr h
  obtain ⟨adK, adV, h1, h2⟩ := vk_Sof (N := 12) (tm := fun i => Term.string RX4 (sidx.getD i 0)) (len := slen) (byt := sbyt) (A := fun q => s.heap.size ≤ q) (show ∀ i : Nat, i < 12 → slen.getD i 0 < 2 ^ 31 by decide) (fun i hi => hs _ (q_ex i hi)) (fun i hi => hs _ (q_co i hi)) (fun i hi => hs _ (q_ar i hi)) (fun i hi => hs _ (q_le i hi)) (fun i hi j hj => hs _ (q_el i hi j hj)) (fun i j hi hj hn => (q_ne i hi j hj hn).elim (fun z => Or.inl (hs _ z)) (fun z => Or.inr (hs _ z))) hA
  have hcs : va_Z "java/lang/String" "COMPACT_STRINGS" "Z" (.int 1) (fun q => s.heap.size ≤ q) s s.heap := va_Zof (hts _ (List.mem_of_getElem? q_l1)) (hts _ (List.mem_of_getElem? q_i1)) (va_eqi (hs _ q_cs)) hA
  obtain ⟨oz, hz⟩ : ∃ oz : Option Nat, va_Z "jdk/internal/util/Preconditions" "SIOOBE_FORMATTER" "Ljava/util/function/BiFunction;" (va_rf oz) (fun q => s.heap.size ≤ q) s s.heap := by
    rcases va_Zqof (A := fun q => s.heap.size ≤ q) (hts _ (List.mem_of_getElem? q_l2)) (hts _ (List.mem_of_getElem? q_i2)) (hs _ q_sf) hA with h | ⟨t, h⟩
    · exact ⟨none, h⟩
    · exact ⟨some t, h⟩
  have e1 : ∀ i, i < 12 → (if i < 100 then adK i else adV (i - 100)) = adK i := fun i hi => if_pos (by omega)
  have e2 : ∀ i, (if 100 + i < 100 then adK (100 + i) else adV (100 + i - 100)) = adV i := fun i => by rw [if_neg (by omega), Nat.add_sub_cancel_left]
  refine ⟨(fun i => if i < 100 then adK i else adV (i - 100), oz), ⟨fun i hi => ?_, fun i j hi hj e => ?_⟩, fun i hi => ?_, hcs, hz⟩
  · have := h1.1 i hi
    simp only []
    rw [e1 i hi, e2 i]
    exact this
  · simp only [] at e
    rw [e1 i hi, e1 j hj] at e
    exact h1.2 i j hi hj e
  · simp only []
    rw [e1 i hi]
    exact vk_R.of (hts _ (List.mem_of_getElem? (q_sr i hi))) (h2 i hi)
theorem jcl_in {ci : Nat} {C : String} {T : u_T} {N : Nat} (h : jcl[ci]? = some (C, T, N)) : Cond.instantiable C N ∈ jtbl := by
  match ci, h with
  | 0, h => cases Option.some.inj h; exact ni_0
  | 1, h => cases Option.some.inj h; exact ni_1
  | 2, h => cases Option.some.inj h; exact ni_2
  | 3, h => cases Option.some.inj h; exact ni_3
  | 4, h => cases Option.some.inj h; exact ni_4
  | 5, h => cases Option.some.inj h; exact ni_5
  | 6, h => cases Option.some.inj h; exact ni_6
  | 7, h => cases Option.some.inj h; exact ni_7
  | 8, h => cases Option.some.inj h; exact ni_8
  | 9, h => cases Option.some.inj h; exact ni_9
  | 10, h => cases Option.some.inj h; exact ni_10
  | 11, h => cases Option.some.inj h; exact ni_11
  | 12, h => cases Option.some.inj h; exact ni_12
theorem zz_ar {s : State} {args : Array Value} {ty : FieldType} (h : (Cond.arrayClass ty).before args s = true) : ∃ c, ArrOfT s c ty ∧ s.vm.findClass ("[" ++ ty.toString) = some c := by
  obtain ⟨c, k, comp, h1, h2, h3⟩ := Cond.arrayClass_spec h
  exact ⟨c, fun N z => ⟨(fun k h => by cases h), k, h2, comp, h3⟩, h1⟩
theorem zz_K {s : State} {args : Array Value} (l : Launch) (hto : ∀ w ∈ lw_tbl, w.before args s = true) : ∃ E : jE, E.1 = l ∧ E.2.2.2 = s.heap.size ∧ ¬ jfull E ∧ jK E s := by
  have hts : ∀ w ∈ jtbl, w.before args s = true := fun w hw => hto w (jtbl_in w hw)
  have hk : ∀ k : Nat, ∃ z : ClassId × (Nat → Nat), ∀ q : vw_C, jcl[k]? = some q → u_Kn s q.1 q.2.1 q.2.2 z.1 z.2 := by
    intro k
    cases hc : jcl[k]? with
    | none => exact ⟨(0, fun _ => 0), fun q hq => by cases hq⟩
    | some q =>
      obtain ⟨C, T, N⟩ := q
      obtain ⟨cC, iS, h⟩ := u_known (n := N) hts (jcl_ok hc).1 (hts _ (jcl_in hc))
      exact ⟨(cC, iS), fun q hq => by cases hq; exact h⟩
  obtain ⟨f, hf⟩ := Classical.axiomOfChoice hk
  obtain ⟨a0, x0, y0⟩ := zz_ar (hts _ tw_aI)
  obtain ⟨a1, x1, y1⟩ := zz_ar (hts _ tw_aB)
  obtain ⟨a2, x2, y2⟩ := zz_ar (hts _ tw_aL)
  obtain ⟨a3, x3, y3⟩ := zz_ar (hts _ tw_aZ)
  obtain ⟨comp, a4, k4, p1, p2, p3, p4, p5⟩ := Cond.arrayOver_spec (hto _ (List.mem_of_getElem? q_ao))
  refine ⟨(l, (fun k => (f k).1, fun k => (f k).2), fun i => if i = 0 then a0 else if i = 1 then a1 else if i = 2 then a2 else if i = 3 then a3 else if i = 4 then a4 else 1, s.heap.size), rfl, rfl, ?_, fun c q hq => hf c q hq, fun k q hq => ?_⟩
  · show ¬ (1 : Nat) = 0
    decide
  · match k, hq with
    | 0, hq => cases Option.some.inj hq; exact ⟨x0, y0⟩
    | 1, hq => cases Option.some.inj hq; exact ⟨x1, y1⟩
    | 2, hq => cases Option.some.inj hq; exact ⟨x2, y2⟩
    | 3, hq => cases Option.some.inj hq; exact ⟨x3, y3⟩
    | 4, hq => cases Option.some.inj hq; exact ⟨fun N z => ⟨(fun k h => by cases h), k4, p3, comp, p4⟩, k4, comp, p3, p4, p1, p5⟩
    | k + 5, hq => cases hq
theorem zz_sum {f g : Nat → Nat} : ∀ l : List Nat, (∀ k ∈ l, f k ≤ g k) → (l.map f).sum ≤ (l.map g).sum := by
  intro l
  induction l with
  | nil => exact fun _ => Nat.le_refl _
  | cons a l ih =>
    intro h
    simp only [List.map_cons, List.sum_cons]
    exact Nat.add_le_add (h a List.mem_cons_self) (ih (fun k hk => h k (List.mem_cons_of_mem _ hk)))
theorem jrows_kd : jrows.all (fun k => match kd k with
  | some q => (decide (q.1 = 6) && decide (k ≠ 13) && decide (k ≠ 15)) || (decide (q.1 = 7) && (decide (k = 13) || decide (k = 15)))
  | none => false) = true := by decide +kernel
/-- the room that a run of calls can have taken -/
theorem zz_room {E : jE} {w : jw} {h : jh} (hE : jfull E) (hO : jOk E w h) : h.2.2.1 ≤ 600000 ∧ h.2.2.2 ≤ 7302250 := by
  obtain ⟨o1, o2, o3, o4, o5, o6, o7, o8⟩ := hO
  have hb : ∀ k ∈ jrows, h.2.1 k ≤ 8192 ∧ jT h.2.1 k ≤ (if k = 13 ∨ k = 15 then 524800 else 16384) := by
    intro k hk
    have z := List.all_eq_true.mp jrows_kd k hk
    cases hq : kd k with
    | none => rw [hq] at z; cases z
    | some q =>
      rw [hq] at z
      obtain ⟨t, n⟩ := q
      simp only [Bool.or_eq_true, Bool.and_eq_true, decide_eq_true_eq] at z
      rcases z with ⟨⟨z1, z2⟩, z3⟩ | ⟨z1, z2⟩
      · subst z1
        have := (o2 k n (jkd_hi hE hq)).1
        refine ⟨this, ?_⟩
        unfold jT
        rw [if_neg (by omega), if_neg (by omega)]
        omega
      · subst z1
        have := o3 k n (jkd_hi hE hq)
        refine ⟨by omega, ?_⟩
        unfold jT
        rw [if_pos z2, if_pos z2]
        have : h.2.1 k * (h.2.1 k + 1) ≤ 1024 * 1025 := Nat.mul_le_mul this (by omega)
        omega
  have s1 : jsum h.2.1 ≤ (jrows.map (fun _ => 8192)).sum := zz_sum jrows (fun k hk => (hb k hk).1)
  have s2 : jsumT h.2.1 ≤ (jrows.map (fun k => if k = 13 ∨ k = 15 then 524800 else 16384)).sum := zz_sum jrows (fun k hk => (hb k hk).2)
  have c1 : 193 + (jrows.map (fun _ => 8192)).sum ≤ 600000 := by decide +kernel
  have c2 : 300000 + (jrows.map (fun k => if k = 13 ∨ k = 15 then 524800 else 16384)).sum ≤ 7302250 := by decide +kernel
  omega
end
