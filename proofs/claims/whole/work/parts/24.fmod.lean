/-! Math.floorMod of an int by 1000 -/
def RJ9 : String := "java/lang/Math"
abbrev cJ9_floorMod : ByteArray := prog_17_method_50_code
def yJ9_floorMod : MethodName := ⟨"java/lang/Math", "floorMod", "(II)I"⟩
theorem dfm_0 : decode cJ9_floorMod 0 = .ok (.iload_n 0, 1) := by decide +kernel
theorem dfm_1 : decode cJ9_floorMod 1 = .ok (.iload_n 1, 1) := by decide +kernel
theorem dfm_2 : decode cJ9_floorMod 2 = .ok (.irem, 1) := by decide +kernel
theorem dfm_3 : decode cJ9_floorMod 3 = .ok (.istore_n 2, 1) := by decide +kernel
theorem dfm_4 : decode cJ9_floorMod 4 = .ok (.iload_n 0, 1) := by decide +kernel
theorem dfm_5 : decode cJ9_floorMod 5 = .ok (.iload_n 1, 1) := by decide +kernel
theorem dfm_6 : decode cJ9_floorMod 6 = .ok (.ixor, 1) := by decide +kernel
theorem dfm_7 : decode cJ9_floorMod 7 = .ok (.ifCond .ge 11, 3) := by decide +kernel
theorem dfm_10 : decode cJ9_floorMod 10 = .ok (.iload_n 2, 1) := by decide +kernel
theorem dfm_11 : decode cJ9_floorMod 11 = .ok (.ifCond .eq 7, 3) := by decide +kernel
theorem dfm_14 : decode cJ9_floorMod 14 = .ok (.iload_n 2, 1) := by decide +kernel
theorem dfm_15 : decode cJ9_floorMod 15 = .ok (.iload_n 1, 1) := by decide +kernel
theorem dfm_16 : decode cJ9_floorMod 16 = .ok (.iadd, 1) := by decide +kernel
theorem dfm_17 : decode cJ9_floorMod 17 = .ok (.ireturn, 1) := by decide +kernel
theorem dfm_18 : decode cJ9_floorMod 18 = .ok (.iload_n 2, 1) := by decide +kernel
theorem dfm_19 : decode cJ9_floorMod 19 = .ok (.ireturn, 1) := by decide +kernel
def fmq (a : Int32) : Int32 := if 0 ≤ a ^^^ 1000 then a - a / 1000 * 1000 else if a - a / 1000 * 1000 = 0 then a - a / 1000 * 1000 else a - a / 1000 * 1000 + 1000
theorem fm_noRow0 : (NativeRow.find? natives yJ9_floorMod.cls yJ9_floorMod.name yJ9_floorMod.desc).isNone = true := by decide +kernel
theorem fm_noRow (p : Program) : NativeRow.find? p.tables.natives yJ9_floorMod.cls yJ9_floorMod.name yJ9_floorMod.desc = none := by
  cases p <;> exact Option.isNone_iff_eq_none.mp fm_noRow0
def fmSpec (a : Int32) : Spec where
  pre := .and (.code yJ9_floorMod cJ9_floorMod 3 (some .int)) (.and (.count 2) (.and (.isInt (.arg 0)) (.and (.isInt (.arg 1)) (.and (.eq (.arg 0) (.int a)) (.eq (.arg 1) (.int 1000))))))
  post := .and .returned (.eq .result (.int (fmq a)))
  changes := some []
set_option maxHeartbeats 4000000 in
theorem fm_meets (l : Launch) (a : Int32) : MeetsLoose l yJ9_floorMod (fmSpec a) := by
  refine MeetsLoose.of_body_ov (code := cJ9_floorMod) (maxLocals := 3) (ret := some .int) fm_noRow ?_ ?_
  · intro args s h
    simp only [fmSpec, Cond.before_and, Bool.and_eq_true] at h
    exact h.1
  · intro p e s m args below meth c s₁ B
    have hpre := B.pre
    simp only [fmSpec, Cond.before_and, Bool.and_eq_true] at hpre
    obtain ⟨x, y, rfl⟩ := Cond.two_ints hpre.2.1 hpre.2.2.1 hpre.2.2.2.1
    have ex : x = a := by
      have := hpre.2.2.2.2.1
      simpa [Cond.before, Cond.holds, Cond.value, Term.eval] using this
    have ey : y = 1000 := by
      have := hpre.2.2.2.2.2
      simpa [Cond.before, Cond.holds, Cond.value, Term.eval] using this
    subst ex; subst ey
    have hloc : argsToLocals #[.int x, .int 1000] 3 = #[.val (.int x), .val (.int 1000), .unset] := rfl
    obtain ⟨fs, hfs⟩ := handOver_isSome (s := s₁) (some (.int (fmq x))) B.hears₁
    refine ⟨s₁.setFrames fs, .returned (some (.int (fmq x))), ?_, B.here.running, B.ended hfs (by intro h; cases h), ?_, State.sameBut_nil.mpr ?_⟩
    · unfold entryFrame; rw [hloc]
      refine Steps.instrAtOv (c := _) (by simpa using B.here) ?_
      simp [jvm, wpRun, exec, B.here.top, B.exec, B.bytes, dfm_0]
      refine Steps.instrAtOv (c := _) (by simpa using B.here) ?_
      simp [jvm, wpRun, exec, B.here.top, B.exec, B.bytes, dfm_1]
      refine Steps.instrAtOv (c := _) (by simpa using B.here) ?_
      simp [jvm, wpRun, exec, B.here.top, B.exec, B.bytes, dfm_2]
      refine Steps.instrAtOv (c := _) (by simpa using B.here) ?_
      simp [jvm, wpRun, exec, B.here.top, B.exec, B.bytes, dfm_3]
      refine ⟨#[.val (.int x), .val (.int 1000), .val (.int (x - x / 1000 * 1000))], rfl, ?_⟩
      refine Steps.instrAtOv (c := _) (by simpa using B.here) ?_
      simp [jvm, wpRun, exec, B.here.top, B.exec, B.bytes, dfm_4]
      refine Steps.instrAtOv (c := _) (by simpa using B.here) ?_
      simp [jvm, wpRun, exec, B.here.top, B.exec, B.bytes, dfm_5]
      refine Steps.instrAtOv (c := _) (by simpa using B.here) ?_
      simp [jvm, wpRun, exec, B.here.top, B.exec, B.bytes, dfm_6]
      by_cases h1 : 0 ≤ x ^^^ 1000
      · have ev : fmq x = x - x / 1000 * 1000 := by rw [fmq, if_pos h1]
        rw [ev] at hfs
        refine Steps.instrAtOv (c := _) (by simpa using B.here) ?_
        simp [jvm, wpRun, exec, B.here.top, B.exec, B.bytes, dfm_7, Op.ifCond.holds, h1]
        refine Steps.instrAtOv (c := _) (by simpa using B.here) ?_
        simp [jvm, wpRun, exec, B.here.top, B.exec, B.bytes, dfm_18]
        refine Steps.instrAtOv (c := _) (by simpa using B.here) ?_
        simp [jvm, wpRun, exec, B.here.top, B.exec, B.bytes, dfm_19, B.method₁, B.returns, narrow]
        intro acts
        rw [ret_to B.frames₁ B.method₁ B.notSynchronized rfl rfl hfs]
        exact Steps.refl _
      · refine Steps.instrAtOv (c := _) (by simpa using B.here) ?_
        simp [jvm, wpRun, exec, B.here.top, B.exec, B.bytes, dfm_7, Op.ifCond.holds, h1]
        refine Steps.instrAtOv (c := _) (by simpa using B.here) ?_
        simp [jvm, wpRun, exec, B.here.top, B.exec, B.bytes, dfm_10]
        by_cases h2 : x - x / 1000 * 1000 = 0
        · have ev : fmq x = 0 := by rw [fmq, if_neg h1, if_pos h2, h2]
          rw [ev] at hfs
          refine Steps.instrAtOv (c := _) (by simpa using B.here) ?_
          simp [jvm, wpRun, exec, B.here.top, B.exec, B.bytes, dfm_11, Op.ifCond.holds, h2]
          refine Steps.instrAtOv (c := _) (by simpa using B.here) ?_
          simp [jvm, wpRun, exec, B.here.top, B.exec, B.bytes, dfm_18]
          refine Steps.instrAtOv (c := _) (by simpa using B.here) ?_
          simp [jvm, wpRun, exec, B.here.top, B.exec, B.bytes, dfm_19, B.method₁, B.returns, narrow]
          intro acts
          rw [ret_to B.frames₁ B.method₁ B.notSynchronized rfl rfl hfs]
          exact Steps.refl _
        · have ev : fmq x = x - x / 1000 * 1000 + 1000 := by rw [fmq, if_neg h1, if_neg h2]
          rw [ev] at hfs
          refine Steps.instrAtOv (c := _) (by simpa using B.here) ?_
          simp [jvm, wpRun, exec, B.here.top, B.exec, B.bytes, dfm_11, Op.ifCond.holds, h2]
          refine Steps.instrAtOv (c := _) (by simpa using B.here) ?_
          simp [jvm, wpRun, exec, B.here.top, B.exec, B.bytes, dfm_14]
          refine Steps.instrAtOv (c := _) (by simpa using B.here) ?_
          simp [jvm, wpRun, exec, B.here.top, B.exec, B.bytes, dfm_15]
          refine Steps.instrAtOv (c := _) (by simpa using B.here) ?_
          simp [jvm, wpRun, exec, B.here.top, B.exec, B.bytes, dfm_16]
          refine Steps.instrAtOv (c := _) (by simpa using B.here) ?_
          simp [jvm, wpRun, exec, B.here.top, B.exec, B.bytes, dfm_17, B.method₁, B.returns, narrow]
          intro acts
          rw [ret_to B.frames₁ B.method₁ B.notSynchronized rfl rfl hfs]
          exact Steps.refl _
    · simp [fmSpec, Cond.after, Cond.holds, Cond.value, Term.eval]
    · rw [State.frames_setFrames _ B.cur₁, B.back]
section JFM
variable {E : jE} {M : jm} {k pc idx : Nat} {ls : List (Nat × Value)} {rest : List Value} {w w' : jw} {r : Option Value}
theorem tw_fms : Cond.static yJ9_floorMod ∈ jtbl := jt (n := 868) (by decide +kernel) rfl
theorem tw_fmc : Cond.code yJ9_floorMod cJ9_floorMod 3 (some .int) ∈ jtbl := jt (n := 869) (by decide +kernel) (by decide +kernel)
theorem ml_fm : Cond.methodLink RX10 56 yJ9_floorMod ∈ jtbl := jt (n := 867) (by decide +kernel) rfl
theorem fm_desc : parseMethodDescriptor "(II)I" = some { parameters := [.int, .int], returnType := some .int } := by decide +kernel
set_option maxHeartbeats 4000000 in
theorem jx_fm {a : Int32} (d : decode M.2.2.1 pc = .ok (.invokestatic idx, 3)) (hlk : Cond.methodLink M.1 idx yJ9_floorMod ∈ jtbl) (hk : 1 ≤ k) (hcat : (rest.map fun v => v.category).sum ≤ 8) (kk : jX E M k (pc + 3) ls (.int (fmq a) :: rest) w r w') : jX E M k pc ls (.int 1000 :: .int a :: rest) w r w' := by
  intro h hO
  obtain ⟨h', a1, a2, a3, a4⟩ := kk h hO
  refine ⟨h', a1, a2, a3, fun p e R s m args below meth c H locs cells slots lsA Q C b2 b3 b4 b5 b6 b7 b8 b9 => ?_⟩
  have kw := a4 p e R s m args below meth c H locs cells slots lsA Q C b2 b3 b4 b5 b6 b7 b8 b9
  obtain ⟨hx, hb, hml, hown, hts, -⟩ := C
  intro T hT X
  obtain ⟨v, vm', X', ⟨first, t, hpost⟩, hstep⟩ := X.staticByContractV hx hown (hts _ hlk) (hts _ tw_fms) (hts _ tw_mM) (hts _ tw_fmc) (by decide) (fm_meets E.1 a) rfl rfl rfl rfl
    (fun args' first o s₂ h => by
      simp only [fmSpec, Cond.after_and, Bool.and_eq_true] at h
      cases o with
      | returned r => exact ⟨r, rfl⟩
      | threw y => simp [Cond.after, Cond.holds, Cond.value] at h)
    (g := F0 m pc lsA (.int 1000 :: .int a :: rest)) rfl (by rw [hml]; exact b4.1) (argsL := [.int a, .int 1000]) (rest := rest)
    (fun sig hs => by
      rw [show yJ9_floorMod.desc = "(II)I" from rfl, fm_desc] at hs
      rw [← Option.some.inj hs]; rfl)
    rfl (by rw [hb]; exact d)
    (fun vm' hW => by
      simp only [fmSpec, Cond.before_and, Bool.and_eq_true]
      refine ⟨?_, rfl, rfl, rfl, ?_, ?_⟩
      · have q := hts _ tw_fmc
        rw [← Cond.code_setVm hW.alike] at q
        simp only [Cond.before, Cond.holds, Cond.value, State.methodNamed?, State.vm_setVm] at q ⊢
        exact q
      · simp [Cond.before, Cond.holds, Cond.value, Term.eval]
      · simp [Cond.before, Cond.holds, Cond.value, Term.eval])
    (by show 0 + 1 ≤ R.frames; omega) (by show 2 * 0 + (rest.map fun v => v.category).sum + (3 + 11) + 0 ≤ R.locals; omega) (by show cells + 0 ≤ R.cells; omega) (by show slots + 0 ≤ R.slots; omega)
  have hv : v = some (.int (fmq a)) := by
    simp only [fmSpec, Cond.after_and, Bool.and_eq_true] at hpost
    have := hpost.2
    cases v with
    | none => simp [Cond.after, Cond.holds, Cond.value, Term.eval] at this
    | some u => cases u <;> simp_all [Cond.after, Cond.holds, Cond.value, Term.eval]
  subst hv
  obtain ⟨t2, c1, c2⟩ := kw (T.setVm vm') hT X'
  exact ⟨t2, hstep t2 c1, c2⟩
end JFM
