section
/-! making an object in the law's own body -/
variable {E : jE} {M N : jm} {p : Program} {e : Env} {R : Room} {s : State} {mm : MethodId} {args : Array Value} {below : List Frame} {meth : Method} {c : Code} {H : Heap} {locs : List Loc} {cells slots : Nat} {lsA : Array Slot} {Q : State → Prop} {pc b m : Nat} {H0 : Heap} {xs : jxs} {rest st As : List Value}
theorem lw_new {idx ci n : Nat} {C : String} {T : u_T} {V : List Value} (C0 : jCx E M p s mm args c) (hR : jraw E b H0 m xs H) (hS : jS E s H locs) (d : decode M.2.2.1 pc = .ok (.new idx, 3)) (hc : jcl[ci]? = some (C, T, n)) (hl : Cond.classLink M.1 idx C ∈ jtbl) (hi : Cond.instantiable C n ∈ jtbl) (hin : Cond.initialized C ∈ jtbl) (hg : (jgF E.2.2.2 m).1 = 0 ∧ (jgF E.2.2.2 m).2.1 = ci) (hV : ∀ j, j < n → defaultValue (jty ci j) = vp_V V j) (f1 : cells + 1 ≤ R.cells) (f2 : slots + n ≤ R.slots)
    (kw : ∀ H1 : Heap, jraw E b H0 (m + 1) ((m, V) :: xs) H1 → jS E s H1 locs → W p E.1 e R s mm args below meth c H1 locs (cells + 1) (slots + n) Q (F0 mm (pc + 3) lsA (.ref (E.2.2.2 + m) :: rest))) : W p E.1 e R s mm args below meth c H locs cells slots Q (F0 mm pc lsA rest) := by
  obtain ⟨hx, hb, hml, hown, hts, hK, -⟩ := C0
  obtain ⟨hiin, hty, -⟩ := jcl_ok hc
  have hKn := hK.1 ci _ hc
  refine W.newcK hx hb hown (hts _ hl) (hts _ hi) (hts _ hin) rfl d f1 f2 hKn.2.1 hR.1 (fun H1 kC hkC g1 g2 g3 => ?_)
  refine kw H1 (jraw_new hR g2 g3 ?_) ⟨Nat.le_trans hS.1 (by have := hR.1; omega), fun q q1 q2 => by rw [g3 q (by have := hS.1; have := hR.1; omega)]; exact hS.2.1 q q1 q2, hS.2.2⟩
  rw [hg.1, hg.2]
  exact ⟨_, hc, (u_born (jty ci) hts hiin hKn hkC g1 hty).to hV⟩
theorem lw_ctor {k' z m1 z1 idx n a : Nat} {ls : List (Nat × Value)} {P : Heap → Prop} (C0 : jCx E M p s mm args c) (b3 : jraw E b H0 m xs H) (b4 : jS E s H locs) (b5 : lv_has lsA M.2.2.2.1 ls) (d : decode M.2.2.1 pc = .ok (.invokespecial idx, 3)) (hlk : Cond.methodLink M.1 idx N.2.1 ∈ jtbl) (hN : jMi N n) (hD : jD E N k' (.ref (E.2.2.2 + a) :: As) b H0 m z xs m1 z1 P)
    (hst : st = As.reverse ++ .ref (E.2.2.2 + a) :: rest) (hn : As.length = n) (hk : k' + 1 ≤ R.frames) (hk2 : 40 * (k' + 1) ≤ R.locals) (hcat : (rest.map fun v => v.category).sum ≤ 8) (f1 : cells + (m1 - m) ≤ R.cells) (f2 : slots + (z1 - z) ≤ R.slots) (hZ1 : ∀ U : State, s.WarmedH U.vm → N.2.2.2.2.2 E.2.2.2 U) (hZ2 : ∀ (U : State) (g : JFrame) (mk : MethodId) (a : Array Value), N.2.2.2.2.2 E.2.2.2 U → N.2.2.2.2.2 E.2.2.2 (U.calling g mk a))
    (kw : ∀ (H1 : Heap) (locs1 : List Loc), P H1 → jS E s H1 locs1 → W p E.1 e R s mm args below meth c H1 locs1 (cells + (m1 - m)) (slots + (z1 - z)) Q (F0 mm (pc + 3) lsA rest)) : W p E.1 e R s mm args below meth c H locs cells slots Q (F0 mm pc lsA st) := by
  obtain ⟨c1, c2, hM⟩ := hD
  obtain ⟨⟨hcode, hini, hd, hL⟩, hin, hnm, hret⟩ := hN
  obtain ⟨hx, hb, hml, hown, hts, hK, hBs, hZs⟩ := id C0
  have run := va_runI (H := H) (locs := locs) (cells := cells) (slots := slots) (As := As) (rest := rest) (g := F0 mm pc lsA st) (e := e) (below := below) (meth := meth) ⟨hx, hb, hml, hown, hts⟩ (hM k' (Nat.le_refl _)) (cwI n hts (jgood (fun w hw => by
      rcases List.mem_cons.mp hw with rfl | g
      · exact hcode
      · exact g)) (by rw [hret]) rfl rfl (hts _ hini) (hts _ hlk) (hts _ hin) hnm hd ⟨by show k' + 1 ≤ R.frames; omega, by show 8 + (N.2.2.2.1 + 11) + 40 * k' ≤ R.locals; omega⟩)
    ⟨fun a U g mk q => by
      obtain ⟨q0, q1, q2, q3⟩ := q
      exact ⟨q0, q1, jK.moved (u := U) (U := U.calling g mk a) (Vm.Alike.refl U.vm) q2, hZ2 U g mk a q3⟩,
     fun U hU hW => ⟨rfl, by rw [hU]; exact b3, jK.moved hW.alike hK, hZ1 U hW⟩⟩ rfl hn b5.1 hst (lv_room hcat) d ⟨by omega, by omega⟩
  intro T hT X
  obtain ⟨v, st₀, t, T', L, h0, X', hL', e1, e2, ⟨hv, hR1, hz, hkp⟩, go⟩ := run T hT X
  have hv' : v = none := by cases hv; rfl
  subst hv'
  rw [h0] at hz hkp
  have hS1 : jS E s T'.heap (locs ++ L) := by
    refine ⟨Nat.le_trans b4.1 (by rw [e1]; exact hz), fun q g1 g2 => ?_, fun q hq => ?_⟩
    · rw [e1, hkp q (Nat.lt_of_lt_of_le g1 b4.1) g2]
      exact b4.2.1 q g1 g2
    · rcases List.mem_append.mp hq with g | g
      · exact b4.2.2 q g
      · exact hL' q g
  obtain ⟨t2, g1, g2⟩ := kw T'.heap (locs ++ L) (by rw [e1]; exact hR1) hS1 T' rfl X'
  exact ⟨t2, go t2 g1, g2⟩
theorem jraw_0 {b : Nat} (h : H.size = E.2.2.2 + b) : jraw E b H b [] H := ⟨h, Nat.le_refl _, fun _ _ => rfl, fun k k1 k2 => absurd k2 (Nat.not_lt.mpr k1), fun x hx => absurd hx List.not_mem_nil, List.Pairwise.nil⟩
end
