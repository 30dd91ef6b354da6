/-! the makers, with the numbers of their cells -/
theorem hv_of {N : Nat} {f : Nat → Value} {V : List Value} (h : (List.range N).map f = V) : ∀ j, j < N → f j = vp_V V j := by
  intro j hj
  subst h
  simp [vp_V, hj]
theorem jgk_o {B k ci : Nat} (h : kd k = some (0, ci)) : (jgF B k).1 = 0 ∧ (jgF B k).2.1 = ci := by rw [jgF_o h]; exact ⟨rfl, rfl⟩
theorem jgk_r {B k t n : Nat} (h : kd k = some (t, n)) (h6 : 6 ≤ t) : (jgF B k).1 = 0 ∧ (jgF B k).2.1 = 8 := by rw [jgF_r h h6]; exact ⟨rfl, rfl⟩
theorem jgk_1 {B k n : Nat} (h : kd k = some (1, n)) : (jgF B k).1 = 0 + 1 ∧ (jgF B k).2.1 = n ∧ (jgF B k).2.2 = fun _ => defaultValue (newarray.typeOf .int) := by rw [jgF_1 h]; exact ⟨rfl, rfl, rfl⟩
theorem jgk_2 {B k n : Nat} (h : kd k = some (2, n)) : (jgF B k).1 = 1 + 1 ∧ (jgF B k).2.1 = n ∧ (jgF B k).2.2 = fun _ => defaultValue (newarray.typeOf .byte) := by rw [jgF_2 h]; exact ⟨rfl, rfl, rfl⟩
theorem jgk_3 {B k n : Nat} (h : kd k = some (3, n)) : (jgF B k).1 = 3 + 1 ∧ (jgF B k).2.1 = n ∧ (jgF B k).2.2 = fun _ => defaultValue (newarray.typeOf .boolean) := by rw [jgF_3 h]; exact ⟨rfl, rfl, rfl⟩
theorem jgk_4 {B k n : Nat} (h : kd k = some (4, n)) : (jgF B k).1 = 2 + 1 ∧ (jgF B k).2.1 = n ∧ (jgF B k).2.2 = fun _ => defaultValue (newarray.typeOf .long) := by rw [jgF_4 h]; exact ⟨rfl, rfl, rfl⟩
theorem jgk_n {B k : Nat} {q : Nat × Nat} (h : kd (k + 1) = none) (h1 : kd k = some q) : (jgF B (k + 1)).1 = 0 + 1 ∧ (jgF B (k + 1)).2.1 = q.2 ∧ (jgF B (k + 1)).2.2 = fun _ => defaultValue (newarray.typeOf .int) := by rw [jgF_n h h1]; exact ⟨rfl, rfl, rfl⟩
theorem jgk_5 {B k n : Nat} (h : kd k = some (5, n)) : (jgF B k).1 = 5 ∧ (jgF B k).2.1 = n := by rw [jgF_5 h]; exact ⟨rfl, rfl⟩
abbrev m_X11_initA : jm := (RX11, yX11_init, cX11_init, 2, none, fun _ s => va_AO RX9 s)
theorem tw_aB : Cond.arrayClass .byte ∈ jtbl := jt (n := 993) (by decide +kernel) rfl
theorem tw_aL : Cond.arrayClass .long ∈ jtbl := jt (n := 1495) (by decide +kernel) rfl
theorem tw_aZ : Cond.arrayClass .boolean ∈ jtbl := jt (n := 1496) (by decide +kernel) rfl
theorem ni_0 : Cond.instantiable RX0 4 ∈ jtbl := jt (n := 403) (by decide +kernel) rfl
theorem nd_0 : Cond.initialized RX0 ∈ jtbl := jt (n := 118) (by decide +kernel) rfl
theorem mi_X0 : jMi m_X0_init 0 := jMi_mk [406, 118, 405] (by decide +kernel) (by decide +kernel) (by decide +kernel) (by decide) rfl rfl
theorem ni_1 : Cond.instantiable RX1 7 ∈ jtbl := jt (n := 395) (by decide +kernel) rfl
theorem nd_1 : Cond.initialized RX1 ∈ jtbl := jt (n := 117) (by decide +kernel) rfl
theorem mi_X1 : jMi m_X1_init 1 := jMi_mk [398, 117, 397] (by decide +kernel) (by decide +kernel) (by decide +kernel) (by decide) rfl rfl
theorem ni_2 : Cond.instantiable RX2 5 ∈ jtbl := jt (n := 298) (by decide +kernel) rfl
theorem nd_2 : Cond.initialized RX2 ∈ jtbl := jt (n := 115) (by decide +kernel) rfl
theorem mi_X2 : jMi m_X2_init 0 := jMi_mk [301, 115, 300] (by decide +kernel) (by decide +kernel) (by decide +kernel) (by decide) rfl rfl
theorem ni_3 : Cond.instantiable RX3 3 ∈ jtbl := jt (n := 448) (by decide +kernel) rfl
theorem nd_3 : Cond.initialized RX3 ∈ jtbl := jt (n := 119) (by decide +kernel) rfl
theorem mi_X3 : jMi m_X3_init 1 := jMi_mk [451, 119, 450] (by decide +kernel) (by decide +kernel) (by decide +kernel) (by decide) rfl rfl
theorem ni_4 : Cond.instantiable RX4 4 ∈ jtbl := jt (n := 165) (by decide +kernel) rfl
theorem nd_4 : Cond.initialized RX4 ∈ jtbl := jt (n := 111) (by decide +kernel) rfl
theorem mi_X4 : jMi m_X4_init 1 := jMi_mk [168, 111, 167] (by decide +kernel) (by decide +kernel) (by decide +kernel) (by decide) rfl rfl
theorem ni_5 : Cond.instantiable RX5 4 ∈ jtbl := jt (n := 466) (by decide +kernel) rfl
theorem nd_5 : Cond.initialized RX5 ∈ jtbl := jt (n := 120) (by decide +kernel) rfl
theorem mi_X5 : jMi m_X5_init 1 := jMi_mk [469, 120, 468] (by decide +kernel) (by decide +kernel) (by decide +kernel) (by decide) rfl rfl
theorem ni_6 : Cond.instantiable RX6 9 ∈ jtbl := jt (n := 238) (by decide +kernel) rfl
theorem nd_6 : Cond.initialized RX6 ∈ jtbl := jt (n := 114) (by decide +kernel) rfl
theorem mi_X6 : jMi m_X6_init 0 := jMi_mk [241, 114, 240] (by decide +kernel) (by decide +kernel) (by decide +kernel) (by decide) rfl rfl
theorem ni_7 : Cond.instantiable RX7 9 ∈ jtbl := jt (n := 191) (by decide +kernel) rfl
theorem nd_7 : Cond.initialized RX7 ∈ jtbl := jt (n := 112) (by decide +kernel) rfl
theorem mi_X7 : jMi m_X7_init 1 := jMi_mk [194, 112, 193] (by decide +kernel) (by decide +kernel) (by decide +kernel) (by decide) rfl rfl
theorem ni_8 : Cond.instantiable RX8 2 ∈ jtbl := jt (n := 138) (by decide +kernel) rfl
theorem nd_8 : Cond.initialized RX8 ∈ jtbl := jt (n := 109) (by decide +kernel) rfl
theorem mi_X8 : jMi m_X8_init 1 := jMi_mk [141, 109, 140] (by decide +kernel) (by decide +kernel) (by decide +kernel) (by decide) rfl rfl
theorem ni_9 : Cond.instantiable RX9 5 ∈ jtbl := jt (n := 232) (by decide +kernel) rfl
theorem nd_9 : Cond.initialized RX9 ∈ jtbl := jt (n := 113) (by decide +kernel) rfl
theorem mi_X9 : jMi m_X9_init 0 := jMi_mk [235, 113, 234] (by decide +kernel) (by decide +kernel) (by decide +kernel) (by decide) rfl rfl
theorem ni_10 : Cond.instantiable RX10 9 ∈ jtbl := jt (n := 356) (by decide +kernel) rfl
theorem nd_10 : Cond.initialized RX10 ∈ jtbl := jt (n := 116) (by decide +kernel) rfl
theorem mi_X10 : jMi m_X10_init 3 := jMi_mk [359, 116, 358] (by decide +kernel) (by decide +kernel) (by decide +kernel) (by decide) rfl rfl
theorem ni_11 : Cond.instantiable RX11 12 ∈ jtbl := jt (n := 130) (by decide +kernel) rfl
theorem nd_11 : Cond.initialized RX11 ∈ jtbl := jt (n := 108) (by decide +kernel) rfl
theorem mi_X11 : jMi m_X11_initA 0 := jMi_mk [133, 108, 132] (by decide +kernel) (by decide +kernel) (by decide +kernel) (by decide) rfl rfl
theorem ni_12 : Cond.instantiable RX12 48 ∈ jtbl := jt (n := 1324) (by decide +kernel) rfl
theorem nd_12 : Cond.initialized RX12 ∈ jtbl := jt (n := 123) (by decide +kernel) rfl
theorem mi_X12 : jMi m_X12_init 0 := jMi_mk [1327, 123, 1326] (by decide +kernel) (by decide +kernel) (by decide +kernel) (by decide) rfl rfl
theorem cl_L_7 : Cond.classLink RLaw 7 RX11 ∈ jtbl := jt (n := 129) (by decide +kernel) rfl
theorem ol_X11_1 : Cond.methodLink RX11 1 Lib.objectInit ∈ jtbl := jt (n := 134) (by decide +kernel) rfl
theorem cl_X11_7 : Cond.classLink RX11 7 RX8 ∈ jtbl := jt (n := 137) (by decide +kernel) rfl
theorem ol_X8_1 : Cond.methodLink RX8 1 Lib.objectInit ∈ jtbl := jt (n := 142) (by decide +kernel) rfl
theorem cl_X11_18 : Cond.classLink RX11 18 RX4 ∈ jtbl := jt (n := 164) (by decide +kernel) rfl
theorem ol_X4_3 : Cond.methodLink RX4 3 Lib.objectInit ∈ jtbl := jt (n := 169) (by decide +kernel) rfl
theorem cl_X4_15 : Cond.classLink RX4 15 RX8 ∈ jtbl := jt (n := 170) (by decide +kernel) rfl
theorem cl_X11_27 : Cond.classLink RX11 27 RX7 ∈ jtbl := jt (n := 190) (by decide +kernel) rfl
theorem ol_X7_3 : Cond.methodLink RX7 3 Lib.objectInit ∈ jtbl := jt (n := 195) (by decide +kernel) rfl
theorem cl_X7_15 : Cond.classLink RX7 15 RX8 ∈ jtbl := jt (n := 196) (by decide +kernel) rfl
theorem cl_X11_36 : Cond.classLink RX11 36 RX9 ∈ jtbl := jt (n := 231) (by decide +kernel) rfl
theorem ol_X9_3 : Cond.methodLink RX9 3 Lib.objectInit ∈ jtbl := jt (n := 236) (by decide +kernel) rfl
theorem cl_X9_9 : Cond.classLink RX9 9 RX6 ∈ jtbl := jt (n := 237) (by decide +kernel) rfl
theorem ol_X6_3 : Cond.methodLink RX6 3 Lib.objectInit ∈ jtbl := jt (n := 242) (by decide +kernel) rfl
theorem cl_X6_9 : Cond.classLink RX6 9 RX8 ∈ jtbl := jt (n := 243) (by decide +kernel) rfl
theorem cl_X9_18 : Cond.classLink RX9 18 RX2 ∈ jtbl := jt (n := 297) (by decide +kernel) rfl
theorem ol_X2_3 : Cond.methodLink RX2 3 Lib.objectInit ∈ jtbl := jt (n := 302) (by decide +kernel) rfl
theorem cl_X2_9 : Cond.classLink RX2 9 RX8 ∈ jtbl := jt (n := 303) (by decide +kernel) rfl
theorem cl_X9_25 : Cond.classLink RX9 25 RX8 ∈ jtbl := jt (n := 328) (by decide +kernel) rfl
theorem cl_X11_43 : Cond.classLink RX11 43 RX10 ∈ jtbl := jt (n := 355) (by decide +kernel) rfl
theorem ol_X10_3 : Cond.methodLink RX10 3 Lib.objectInit ∈ jtbl := jt (n := 360) (by decide +kernel) rfl
theorem cl_X10_23 : Cond.classLink RX10 23 RX8 ∈ jtbl := jt (n := 361) (by decide +kernel) rfl
theorem cl_X11_52 : Cond.classLink RX11 52 RX1 ∈ jtbl := jt (n := 394) (by decide +kernel) rfl
theorem ol_X1_3 : Cond.methodLink RX1 3 Lib.objectInit ∈ jtbl := jt (n := 399) (by decide +kernel) rfl
theorem cl_X1_22 : Cond.classLink RX1 22 RX8 ∈ jtbl := jt (n := 400) (by decide +kernel) rfl
theorem cl_X1_31 : Cond.classLink RX1 31 RX0 ∈ jtbl := jt (n := 402) (by decide +kernel) rfl
theorem ol_X0_1 : Cond.methodLink RX0 1 Lib.objectInit ∈ jtbl := jt (n := 407) (by decide +kernel) rfl
theorem cl_X11_61 : Cond.classLink RX11 61 RX3 ∈ jtbl := jt (n := 447) (by decide +kernel) rfl
theorem ol_X3_3 : Cond.methodLink RX3 3 Lib.objectInit ∈ jtbl := jt (n := 452) (by decide +kernel) rfl
theorem cl_X3_15 : Cond.classLink RX3 15 RX8 ∈ jtbl := jt (n := 453) (by decide +kernel) rfl
theorem cl_X11_74 : Cond.classLink RX11 74 RX5 ∈ jtbl := jt (n := 465) (by decide +kernel) rfl
theorem ol_X5_3 : Cond.methodLink RX5 3 Lib.objectInit ∈ jtbl := jt (n := 470) (by decide +kernel) rfl
theorem cl_X5_22 : Cond.classLink RX5 22 RX8 ∈ jtbl := jt (n := 471) (by decide +kernel) rfl
theorem cl_L_10 : Cond.classLink RLaw 10 RX12 ∈ jtbl := jt (n := 1323) (by decide +kernel) rfl
theorem ol_X12_7 : Cond.methodLink RX12 7 Lib.objectInit ∈ jtbl := jt (n := 1328) (by decide +kernel) rfl
theorem ml_max : Cond.methodLink RX8 7 Lib.Math.max.name ∈ jtbl := jt (n := 143) (by decide +kernel) rfl
theorem ff_X0_9 : jFf RX0 9 0 0 := ⟨TX0, 4, rfl, by decide, jt (n := 408) (by decide +kernel) rfl, rfl, rfl⟩
theorem ff_X0_13 : jFf RX0 13 0 1 := ⟨TX0, 4, rfl, by decide, jt (n := 410) (by decide +kernel) rfl, rfl, rfl⟩
theorem ff_X0_16 : jFf RX0 16 0 2 := ⟨TX0, 4, rfl, by decide, jt (n := 412) (by decide +kernel) rfl, rfl, rfl⟩
theorem ff_X1_9 : jFf RX1 9 1 0 := ⟨TX1, 7, rfl, by decide, jt (n := 425) (by decide +kernel) rfl, rfl, rfl⟩
theorem ff_X1_21 : jFf RX1 21 1 1 := ⟨TX1, 7, rfl, by decide, jt (n := 426) (by decide +kernel) rfl, rfl, rfl⟩
theorem ff_X1_27 : jFf RX1 27 1 2 := ⟨TX1, 7, rfl, by decide, jt (n := 427) (by decide +kernel) rfl, rfl, rfl⟩
theorem ff_X1_34 : jFf RX1 34 1 3 := ⟨TX1, 7, rfl, by decide, jt (n := 428) (by decide +kernel) rfl, rfl, rfl⟩
theorem ff_X10_9 : jFf RX10 9 10 0 := ⟨TX10, 9, rfl, by decide, jt (n := 363) (by decide +kernel) rfl, rfl, rfl⟩
theorem ff_X10_15 : jFf RX10 15 10 1 := ⟨TX10, 9, rfl, by decide, jt (n := 364) (by decide +kernel) rfl, rfl, rfl⟩
theorem ff_X10_19 : jFf RX10 19 10 2 := ⟨TX10, 9, rfl, by decide, jt (n := 365) (by decide +kernel) rfl, rfl, rfl⟩
theorem ff_X10_28 : jFf RX10 28 10 3 := ⟨TX10, 9, rfl, by decide, jt (n := 366) (by decide +kernel) rfl, rfl, rfl⟩
theorem ff_X11_12 : jFf RX11 12 11 0 := ⟨TX11, 12, rfl, by decide, jt (n := 538) (by decide +kernel) rfl, rfl, rfl⟩
theorem ff_X11_23 : jFf RX11 23 11 1 := ⟨TX11, 12, rfl, by decide, jt (n := 539) (by decide +kernel) rfl, rfl, rfl⟩
theorem ff_X11_32 : jFf RX11 32 11 2 := ⟨TX11, 12, rfl, by decide, jt (n := 540) (by decide +kernel) rfl, rfl, rfl⟩
theorem ff_X11_39 : jFf RX11 39 11 4 := ⟨TX11, 12, rfl, by decide, jt (n := 542) (by decide +kernel) rfl, rfl, rfl⟩
theorem ff_X11_48 : jFf RX11 48 11 3 := ⟨TX11, 12, rfl, by decide, jt (n := 541) (by decide +kernel) rfl, rfl, rfl⟩
theorem ff_X11_57 : jFf RX11 57 11 5 := ⟨TX11, 12, rfl, by decide, jt (n := 543) (by decide +kernel) rfl, rfl, rfl⟩
theorem ff_X11_70 : jFf RX11 70 11 6 := ⟨TX11, 12, rfl, by decide, jt (n := 544) (by decide +kernel) rfl, rfl, rfl⟩
theorem ff_X11_77 : jFf RX11 77 11 7 := ⟨TX11, 12, rfl, by decide, jt (n := 545) (by decide +kernel) rfl, rfl, rfl⟩
theorem ff_X11_81 : jFf RX11 81 11 8 := ⟨TX11, 12, rfl, by decide, jt (n := 546) (by decide +kernel) rfl, rfl, rfl⟩
theorem ff_X12_13 : jFf RX12 13 12 1 := ⟨TX12, 48, rfl, by decide, jt (n := 1351) (by decide +kernel) rfl, rfl, rfl⟩
theorem ff_X12_17 : jFf RX12 17 12 3 := ⟨TX12, 48, rfl, by decide, jt (n := 1353) (by decide +kernel) rfl, rfl, rfl⟩
theorem ff_X12_20 : jFf RX12 20 12 5 := ⟨TX12, 48, rfl, by decide, jt (n := 1355) (by decide +kernel) rfl, rfl, rfl⟩
theorem ff_X12_24 : jFf RX12 24 12 6 := ⟨TX12, 48, rfl, by decide, jt (n := 1356) (by decide +kernel) rfl, rfl, rfl⟩
theorem ff_X12_27 : jFf RX12 27 12 7 := ⟨TX12, 48, rfl, by decide, jt (n := 1357) (by decide +kernel) rfl, rfl, rfl⟩
theorem ff_X12_30 : jFf RX12 30 12 8 := ⟨TX12, 48, rfl, by decide, jt (n := 1358) (by decide +kernel) rfl, rfl, rfl⟩
theorem ff_X12_34 : jFf RX12 34 12 9 := ⟨TX12, 48, rfl, by decide, jt (n := 1359) (by decide +kernel) rfl, rfl, rfl⟩
theorem ff_X12_40 : jFf RX12 40 12 19 := ⟨TX12, 48, rfl, by decide, jt (n := 1369) (by decide +kernel) rfl, rfl, rfl⟩
theorem ff_X12_43 : jFf RX12 43 12 20 := ⟨TX12, 48, rfl, by decide, jt (n := 1370) (by decide +kernel) rfl, rfl, rfl⟩
theorem ff_X12_46 : jFf RX12 46 12 21 := ⟨TX12, 48, rfl, by decide, jt (n := 1371) (by decide +kernel) rfl, rfl, rfl⟩
theorem ff_X12_49 : jFf RX12 49 12 22 := ⟨TX12, 48, rfl, by decide, jt (n := 1372) (by decide +kernel) rfl, rfl, rfl⟩
theorem ff_X12_52 : jFf RX12 52 12 23 := ⟨TX12, 48, rfl, by decide, jt (n := 1373) (by decide +kernel) rfl, rfl, rfl⟩
theorem ff_X12_55 : jFf RX12 55 12 25 := ⟨TX12, 48, rfl, by decide, jt (n := 1375) (by decide +kernel) rfl, rfl, rfl⟩
theorem ff_X12_58 : jFf RX12 58 12 27 := ⟨TX12, 48, rfl, by decide, jt (n := 1377) (by decide +kernel) rfl, rfl, rfl⟩
theorem ff_X12_61 : jFf RX12 61 12 28 := ⟨TX12, 48, rfl, by decide, jt (n := 1378) (by decide +kernel) rfl, rfl, rfl⟩
theorem ff_X12_64 : jFf RX12 64 12 29 := ⟨TX12, 48, rfl, by decide, jt (n := 1379) (by decide +kernel) rfl, rfl, rfl⟩
theorem ff_X12_67 : jFf RX12 67 12 31 := ⟨TX12, 48, rfl, by decide, jt (n := 1381) (by decide +kernel) rfl, rfl, rfl⟩
theorem ff_X12_70 : jFf RX12 70 12 32 := ⟨TX12, 48, rfl, by decide, jt (n := 1382) (by decide +kernel) rfl, rfl, rfl⟩
theorem ff_X12_73 : jFf RX12 73 12 33 := ⟨TX12, 48, rfl, by decide, jt (n := 1383) (by decide +kernel) rfl, rfl, rfl⟩
theorem ff_X12_77 : jFf RX12 77 12 34 := ⟨TX12, 48, rfl, by decide, jt (n := 1384) (by decide +kernel) rfl, rfl, rfl⟩
theorem ff_X12_80 : jFf RX12 80 12 35 := ⟨TX12, 48, rfl, by decide, jt (n := 1385) (by decide +kernel) rfl, rfl, rfl⟩
theorem ff_X12_83 : jFf RX12 83 12 38 := ⟨TX12, 48, rfl, by decide, jt (n := 1388) (by decide +kernel) rfl, rfl, rfl⟩
theorem ff_X12_86 : jFf RX12 86 12 39 := ⟨TX12, 48, rfl, by decide, jt (n := 1389) (by decide +kernel) rfl, rfl, rfl⟩
theorem ff_X12_89 : jFf RX12 89 12 40 := ⟨TX12, 48, rfl, by decide, jt (n := 1390) (by decide +kernel) rfl, rfl, rfl⟩
theorem ff_X12_92 : jFf RX12 92 12 41 := ⟨TX12, 48, rfl, by decide, jt (n := 1391) (by decide +kernel) rfl, rfl, rfl⟩
theorem ff_X12_95 : jFf RX12 95 12 42 := ⟨TX12, 48, rfl, by decide, jt (n := 1392) (by decide +kernel) rfl, rfl, rfl⟩
theorem ff_X12_98 : jFf RX12 98 12 43 := ⟨TX12, 48, rfl, by decide, jt (n := 1393) (by decide +kernel) rfl, rfl, rfl⟩
theorem ff_X12_101 : jFf RX12 101 12 44 := ⟨TX12, 48, rfl, by decide, jt (n := 1394) (by decide +kernel) rfl, rfl, rfl⟩
theorem ff_X12_104 : jFf RX12 104 12 46 := ⟨TX12, 48, rfl, by decide, jt (n := 1396) (by decide +kernel) rfl, rfl, rfl⟩
theorem ff_X12_109 : jFf RX12 109 12 47 := ⟨TX12, 48, rfl, by decide, jt (n := 1397) (by decide +kernel) rfl, rfl, rfl⟩
theorem ff_X2_14 : jFf RX2 14 2 0 := ⟨TX2, 5, rfl, by decide, jt (n := 305) (by decide +kernel) rfl, rfl, rfl⟩
theorem ff_X2_20 : jFf RX2 20 2 1 := ⟨TX2, 5, rfl, by decide, jt (n := 307) (by decide +kernel) rfl, rfl, rfl⟩
theorem ff_X2_23 : jFf RX2 23 2 2 := ⟨TX2, 5, rfl, by decide, jt (n := 309) (by decide +kernel) rfl, rfl, rfl⟩
theorem ff_X2_26 : jFf RX2 26 2 3 := ⟨TX2, 5, rfl, by decide, jt (n := 312) (by decide +kernel) rfl, rfl, rfl⟩
theorem ff_X3_9 : jFf RX3 9 3 0 := ⟨TX3, 3, rfl, by decide, jt (n := 455) (by decide +kernel) rfl, rfl, rfl⟩
theorem ff_X3_20 : jFf RX3 20 3 1 := ⟨TX3, 3, rfl, by decide, jt (n := 456) (by decide +kernel) rfl, rfl, rfl⟩
theorem ff_X3_24 : jFf RX3 24 3 2 := ⟨TX3, 3, rfl, by decide, jt (n := 457) (by decide +kernel) rfl, rfl, rfl⟩
theorem ff_X4_9 : jFf RX4 9 4 0 := ⟨TX4, 4, rfl, by decide, jt (n := 172) (by decide +kernel) rfl, rfl, rfl⟩
theorem ff_X4_20 : jFf RX4 20 4 1 := ⟨TX4, 4, rfl, by decide, jt (n := 173) (by decide +kernel) rfl, rfl, rfl⟩
theorem ff_X4_23 : jFf RX4 23 4 2 := ⟨TX4, 4, rfl, by decide, jt (n := 176) (by decide +kernel) rfl, rfl, rfl⟩
theorem ff_X4_26 : jFf RX4 26 4 3 := ⟨TX4, 4, rfl, by decide, jt (n := 179) (by decide +kernel) rfl, rfl, rfl⟩
theorem ff_X5_9 : jFf RX5 9 5 0 := ⟨TX5, 4, rfl, by decide, jt (n := 473) (by decide +kernel) rfl, rfl, rfl⟩
theorem ff_X5_21 : jFf RX5 21 5 1 := ⟨TX5, 4, rfl, by decide, jt (n := 474) (by decide +kernel) rfl, rfl, rfl⟩
theorem ff_X5_27 : jFf RX5 27 5 2 := ⟨TX5, 4, rfl, by decide, jt (n := 475) (by decide +kernel) rfl, rfl, rfl⟩
theorem ff_X5_31 : jFf RX5 31 5 3 := ⟨TX5, 4, rfl, by decide, jt (n := 476) (by decide +kernel) rfl, rfl, rfl⟩
theorem ff_X6_14 : jFf RX6 14 6 0 := ⟨TX6, 9, rfl, by decide, jt (n := 245) (by decide +kernel) rfl, rfl, rfl⟩
theorem ff_X6_20 : jFf RX6 20 6 1 := ⟨TX6, 9, rfl, by decide, jt (n := 250) (by decide +kernel) rfl, rfl, rfl⟩
theorem ff_X6_23 : jFf RX6 23 6 2 := ⟨TX6, 9, rfl, by decide, jt (n := 254) (by decide +kernel) rfl, rfl, rfl⟩
theorem ff_X6_26 : jFf RX6 26 6 3 := ⟨TX6, 9, rfl, by decide, jt (n := 256) (by decide +kernel) rfl, rfl, rfl⟩
theorem ff_X6_29 : jFf RX6 29 6 4 := ⟨TX6, 9, rfl, by decide, jt (n := 259) (by decide +kernel) rfl, rfl, rfl⟩
theorem ff_X6_32 : jFf RX6 32 6 5 := ⟨TX6, 9, rfl, by decide, jt (n := 263) (by decide +kernel) rfl, rfl, rfl⟩
theorem ff_X6_35 : jFf RX6 35 6 6 := ⟨TX6, 9, rfl, by decide, jt (n := 268) (by decide +kernel) rfl, rfl, rfl⟩
theorem ff_X6_38 : jFf RX6 38 6 7 := ⟨TX6, 9, rfl, by decide, jt (n := 271) (by decide +kernel) rfl, rfl, rfl⟩
theorem ff_X7_9 : jFf RX7 9 7 0 := ⟨TX7, 9, rfl, by decide, jt (n := 198) (by decide +kernel) rfl, rfl, rfl⟩
theorem ff_X7_20 : jFf RX7 20 7 1 := ⟨TX7, 9, rfl, by decide, jt (n := 199) (by decide +kernel) rfl, rfl, rfl⟩
theorem ff_X7_24 : jFf RX7 24 7 2 := ⟨TX7, 9, rfl, by decide, jt (n := 200) (by decide +kernel) rfl, rfl, rfl⟩
theorem ff_X7_27 : jFf RX7 27 7 3 := ⟨TX7, 9, rfl, by decide, jt (n := 202) (by decide +kernel) rfl, rfl, rfl⟩
theorem ff_X9_12 : jFf RX9 12 9 0 := ⟨TX9, 5, rfl, by decide, jt (n := 332) (by decide +kernel) rfl, rfl, rfl⟩
theorem ff_X9_21 : jFf RX9 21 9 1 := ⟨TX9, 5, rfl, by decide, jt (n := 335) (by decide +kernel) rfl, rfl, rfl⟩
theorem ff_X9_30 : jFf RX9 30 9 2 := ⟨TX9, 5, rfl, by decide, jt (n := 339) (by decide +kernel) rfl, rfl, rfl⟩
theorem ff_X9_34 : jFf RX9 34 9 3 := ⟨TX9, 5, rfl, by decide, jt (n := 340) (by decide +kernel) rfl, rfl, rfl⟩
theorem i_X8 {E : jE} {b a t n z : Nat} {H0 : Heap} {xs : jxs} (hk : kd a = some (t, n)) (h6 : 6 ≤ t) (hk1 : kd (a + 1) = none) (hn1 : 1 ≤ n) (hn : n ≤ 2000) : jD E m_X8_init 1 [.ref (E.2.2.2 + a), .int (nI n)] b H0 (a + 1) z ((a, [.null, .int 0]) :: xs) (a + 1 + 1) (z + n) (jraw E b H0 (a + 1 + 1) xs) := by
  refine jD_of (ls := [(0, .ref (E.2.2.2 + a)), (1, .int (nI n))]) (by decide) rfl rfl rfl (Nat.le_of_ble_eq_true rfl) rfl ?_
  refine jy_aload_n dX8_init_0 rfl ?_
  refine jy_obj dX8_init_1 ol_X8_1 (Nat.le_refl 1) (by decide) ?_
  refine jy_aload_n dX8_init_4 rfl ?_
  refine jy_iconst (v := nI 1) dX8_init_5 (by decide) ?_
  refine jy_iload_n dX8_init_6 rfl ?_
  refine jy_max (n := n) dX8_init_7 ml_max hn1 (by omega) (Nat.le_refl 1) (Nat.le_of_ble_eq_true rfl) ?_
  refine jy_newa (atype := .int) (t := 0) (n := n) dX8_init_10 tw_aI rfl (by omega) (jgk_n hk1 hk) (by decide) (fun U cA h => h) ?_
  refine jy_put (ci := 8) (j := 0) (i := 0) (xs1 := (a, [.ref (E.2.2.2 + (a + 1)), .int 0]) :: xs) dX8_init_12 fp_X8_13 rfl (jgk_r hk h6) (Nat.lt_of_succ_le (Nat.le_of_ble_eq_true rfl)) rfl rfl rfl ?_
  refine jy_aload_n dX8_init_15 rfl ?_
  refine jy_iconst (v := nI 0) dX8_init_16 (by decide) ?_
  refine jy_put (ci := 8) (j := 1) (i := 0) (xs1 := (a, [.ref (E.2.2.2 + (a + 1)), .int (nI 0)]) :: xs) dX8_init_17 fp_X8_19 rfl (jgk_r hk h6) (Nat.lt_of_succ_le (Nat.le_of_ble_eq_true rfl)) rfl rfl rfl ?_
  refine jy_ret dX8_init_20 (fun H h => jraw_pop h ?_)
  rw [jgF_r hk h6]
  rintro ⟨C, h1, hO⟩
  refine ⟨C, h1, hO.to (fun j hj => ?_)⟩
  have e2 : C.2.2 = 2 := by cases h1; rfl
  rw [e2] at hj
  match j, hj with
  | 0, _ => rfl
  | 1, _ => rfl
set_option maxRecDepth 20000 in
theorem i_X4_3 {E : jE} {b : Nat} {H0 : Heap} {xs : jxs} : jD E m_X4_init 2 [.ref (E.2.2.2 + 3), .ref (E.2.2.2 + 1)] b H0 4 146 ((3, [.null, .null, .null, .null]) :: xs) 10 344 (jraw E b H0 10 (xs)) := by
  refine jD_of (ls := [(0, .ref (E.2.2.2 + 3)), (1, .ref (E.2.2.2 + 1))]) (by decide) rfl rfl rfl (Nat.le_of_ble_eq_true rfl) rfl ?_
  refine jy_aload_n dX4_init_0 rfl ?_
  refine jy_obj dX4_init_1 ol_X4_3 (by decide) (by decide) ?_
  refine jy_aload_n dX4_init_4 rfl ?_
  refine jy_aload_n dX4_init_5 rfl ?_
  refine jy_putF (ci := 4) (j := 0) (a := 3) (i := 0) (xs1 := (3, [.ref (E.2.2.2 + 1), .null, .null, .null]) :: xs) dX4_init_6 ff_X4_9 rfl (jgk_o kd_3) (Nat.lt_of_succ_le (Nat.le_of_ble_eq_true rfl)) rfl rfl rfl ?_
  refine jy_aload_n dX4_init_9 rfl ?_
  refine jy_new (ci := 8) (V := [.null, .int 0]) dX4_init_10 rfl cl_X4_15 ni_8 nd_8 (jgk_r kd_4 (by decide)) (hv_of rfl) ?_
  refine jy_dup dX4_init_13 rfl ?_
  refine jy_bipush (v := nI 64) dX4_init_14 (by decide) ?_
  refine jy_ctor (a := 4) (As := [.int (nI 64)]) (rest := [.ref (E.2.2.2 + 4), .ref (E.2.2.2 + 3)]) (m1 := 6) (z1 := 212) (xs1 := (3, [.ref (E.2.2.2 + 1), .null, .null, .null]) :: xs) dX4_init_16 ml_X4_17 mi_X8 (i_X8 (n := 64) (z := 148) kd_4 (by decide) (by decide +kernel) (by decide) (by decide)) rfl rfl (by decide) (Nat.le_of_ble_eq_true rfl) ?_
  refine jy_putF (ci := 4) (j := 1) (a := 3) (i := 0) (xs1 := (3, [.ref (E.2.2.2 + 1), .ref (E.2.2.2 + 4), .null, .null]) :: xs) dX4_init_19 ff_X4_20 rfl (jgk_o kd_3) (Nat.lt_of_succ_le (Nat.le_of_ble_eq_true rfl)) rfl rfl rfl ?_
  refine jy_aload_n dX4_init_22 rfl ?_
  refine jy_new (ci := 8) (V := [.null, .int 0]) dX4_init_23 rfl cl_X4_15 ni_8 nd_8 (jgk_r kd_6 (by decide)) (hv_of rfl) ?_
  refine jy_dup dX4_init_26 rfl ?_
  refine jy_bipush (v := nI 64) dX4_init_27 (by decide) ?_
  refine jy_ctor (a := 6) (As := [.int (nI 64)]) (rest := [.ref (E.2.2.2 + 6), .ref (E.2.2.2 + 3)]) (m1 := 8) (z1 := 278) (xs1 := (3, [.ref (E.2.2.2 + 1), .ref (E.2.2.2 + 4), .null, .null]) :: xs) dX4_init_29 ml_X4_17 mi_X8 (i_X8 (n := 64) (z := 214) kd_6 (by decide) (by decide +kernel) (by decide) (by decide)) rfl rfl (by decide) (Nat.le_of_ble_eq_true rfl) ?_
  refine jy_putF (ci := 4) (j := 2) (a := 3) (i := 0) (xs1 := (3, [.ref (E.2.2.2 + 1), .ref (E.2.2.2 + 4), .ref (E.2.2.2 + 6), .null]) :: xs) dX4_init_32 ff_X4_23 rfl (jgk_o kd_3) (Nat.lt_of_succ_le (Nat.le_of_ble_eq_true rfl)) rfl rfl rfl ?_
  refine jy_aload_n dX4_init_35 rfl ?_
  refine jy_new (ci := 8) (V := [.null, .int 0]) dX4_init_36 rfl cl_X4_15 ni_8 nd_8 (jgk_r kd_8 (by decide)) (hv_of rfl) ?_
  refine jy_dup dX4_init_39 rfl ?_
  refine jy_bipush (v := nI 64) dX4_init_40 (by decide) ?_
  refine jy_ctor (a := 8) (As := [.int (nI 64)]) (rest := [.ref (E.2.2.2 + 8), .ref (E.2.2.2 + 3)]) (m1 := 10) (z1 := 344) (xs1 := (3, [.ref (E.2.2.2 + 1), .ref (E.2.2.2 + 4), .ref (E.2.2.2 + 6), .null]) :: xs) dX4_init_42 ml_X4_17 mi_X8 (i_X8 (n := 64) (z := 280) kd_8 (by decide) (by decide +kernel) (by decide) (by decide)) rfl rfl (by decide) (Nat.le_of_ble_eq_true rfl) ?_
  refine jy_putF (ci := 4) (j := 3) (a := 3) (i := 0) (xs1 := (3, [.ref (E.2.2.2 + 1), .ref (E.2.2.2 + 4), .ref (E.2.2.2 + 6), .ref (E.2.2.2 + 8)]) :: xs) dX4_init_45 ff_X4_26 rfl (jgk_o kd_3) (Nat.lt_of_succ_le (Nat.le_of_ble_eq_true rfl)) rfl rfl rfl ?_
  refine jy_pop kd_3 rfl (os := [(some 1, 0), (some 4, 0), (some 6, 0), (some 8, 0)]) (by decide +kernel) rfl ?_
  exact jy_ret dX4_init_48 (fun H h => h)
set_option maxRecDepth 20000 in
theorem i_X7_10 {E : jE} {b : Nat} {H0 : Heap} {xs : jxs} : jD E m_X7_init 2 [.ref (E.2.2.2 + 10), .ref (E.2.2.2 + 3)] b H0 11 353 ((10, [.null, .null, .null, .null, .int 0, .int 0, .int 0, .int 0, .int 0]) :: xs) 17 490 (jraw E b H0 17 (xs)) := by
  refine jD_of (ls := [(0, .ref (E.2.2.2 + 10)), (1, .ref (E.2.2.2 + 3))]) (by decide) rfl rfl rfl (Nat.le_of_ble_eq_true rfl) rfl ?_
  refine jy_aload_n dX7_init_0 rfl ?_
  refine jy_obj dX7_init_1 ol_X7_3 (by decide) (by decide) ?_
  refine jy_aload_n dX7_init_4 rfl ?_
  refine jy_aload_n dX7_init_5 rfl ?_
  refine jy_putF (ci := 7) (j := 0) (a := 10) (i := 0) (xs1 := (10, [.ref (E.2.2.2 + 3), .null, .null, .null, .int 0, .int 0, .int 0, .int 0, .int 0]) :: xs) dX7_init_6 ff_X7_9 rfl (jgk_o kd_10) (Nat.lt_of_succ_le (Nat.le_of_ble_eq_true rfl)) rfl rfl rfl ?_
  refine jy_aload_n dX7_init_9 rfl ?_
  refine jy_new (ci := 8) (V := [.null, .int 0]) dX7_init_10 rfl cl_X7_15 ni_8 nd_8 (jgk_r kd_11 (by decide)) (hv_of rfl) ?_
  refine jy_dup dX7_init_13 rfl ?_
  refine jy_iconst (v := nI 3) dX7_init_14 (by decide) ?_
  refine jy_ctor (a := 11) (As := [.int (nI 3)]) (rest := [.ref (E.2.2.2 + 11), .ref (E.2.2.2 + 10)]) (m1 := 13) (z1 := 358) (xs1 := (10, [.ref (E.2.2.2 + 3), .null, .null, .null, .int 0, .int 0, .int 0, .int 0, .int 0]) :: xs) dX7_init_15 ml_X7_17 mi_X8 (i_X8 (n := 3) (z := 355) kd_11 (by decide) (by decide +kernel) (by decide) (by decide)) rfl rfl (by decide) (Nat.le_of_ble_eq_true rfl) ?_
  refine jy_putF (ci := 7) (j := 1) (a := 10) (i := 0) (xs1 := (10, [.ref (E.2.2.2 + 3), .ref (E.2.2.2 + 11), .null, .null, .int 0, .int 0, .int 0, .int 0, .int 0]) :: xs) dX7_init_18 ff_X7_20 rfl (jgk_o kd_10) (Nat.lt_of_succ_le (Nat.le_of_ble_eq_true rfl)) rfl rfl rfl ?_
  refine jy_aload_n dX7_init_21 rfl ?_
  refine jy_new (ci := 8) (V := [.null, .int 0]) dX7_init_22 rfl cl_X7_15 ni_8 nd_8 (jgk_r kd_13 (by decide)) (hv_of rfl) ?_
  refine jy_dup dX7_init_25 rfl ?_
  refine jy_bipush (v := nI 64) dX7_init_26 (by decide) ?_
  refine jy_ctor (a := 13) (As := [.int (nI 64)]) (rest := [.ref (E.2.2.2 + 13), .ref (E.2.2.2 + 10)]) (m1 := 15) (z1 := 424) (xs1 := (10, [.ref (E.2.2.2 + 3), .ref (E.2.2.2 + 11), .null, .null, .int 0, .int 0, .int 0, .int 0, .int 0]) :: xs) dX7_init_28 ml_X7_17 mi_X8 (i_X8 (n := 64) (z := 360) kd_13 (by decide) (by decide +kernel) (by decide) (by decide)) rfl rfl (by decide) (Nat.le_of_ble_eq_true rfl) ?_
  refine jy_putF (ci := 7) (j := 2) (a := 10) (i := 0) (xs1 := (10, [.ref (E.2.2.2 + 3), .ref (E.2.2.2 + 11), .ref (E.2.2.2 + 13), .null, .int 0, .int 0, .int 0, .int 0, .int 0]) :: xs) dX7_init_31 ff_X7_24 rfl (jgk_o kd_10) (Nat.lt_of_succ_le (Nat.le_of_ble_eq_true rfl)) rfl rfl rfl ?_
  refine jy_aload_n dX7_init_34 rfl ?_
  refine jy_new (ci := 8) (V := [.null, .int 0]) dX7_init_35 rfl cl_X7_15 ni_8 nd_8 (jgk_r kd_15 (by decide)) (hv_of rfl) ?_
  refine jy_dup dX7_init_38 rfl ?_
  refine jy_bipush (v := nI 64) dX7_init_39 (by decide) ?_
  refine jy_ctor (a := 15) (As := [.int (nI 64)]) (rest := [.ref (E.2.2.2 + 15), .ref (E.2.2.2 + 10)]) (m1 := 17) (z1 := 490) (xs1 := (10, [.ref (E.2.2.2 + 3), .ref (E.2.2.2 + 11), .ref (E.2.2.2 + 13), .null, .int 0, .int 0, .int 0, .int 0, .int 0]) :: xs) dX7_init_41 ml_X7_17 mi_X8 (i_X8 (n := 64) (z := 426) kd_15 (by decide) (by decide +kernel) (by decide) (by decide)) rfl rfl (by decide) (Nat.le_of_ble_eq_true rfl) ?_
  refine jy_putF (ci := 7) (j := 3) (a := 10) (i := 0) (xs1 := (10, [.ref (E.2.2.2 + 3), .ref (E.2.2.2 + 11), .ref (E.2.2.2 + 13), .ref (E.2.2.2 + 15), .int 0, .int 0, .int 0, .int 0, .int 0]) :: xs) dX7_init_44 ff_X7_27 rfl (jgk_o kd_10) (Nat.lt_of_succ_le (Nat.le_of_ble_eq_true rfl)) rfl rfl rfl ?_
  refine jy_pop kd_10 rfl (os := [(some 3, 0), (some 11, 0), (some 13, 0), (some 15, 0), (none, 0), (none, 0), (none, 0), (none, 0), (none, 0)]) (by decide +kernel) rfl ?_
  exact jy_ret dX7_init_47 (fun H h => h)
set_option maxRecDepth 20000 in
theorem i_X6_18 {E : jE} {b : Nat} {H0 : Heap} {xs : jxs} : jD E m_X6_init 2 [.ref (E.2.2.2 + 18)] b H0 19 504 ((18, [.null, .null, .null, .null, .null, .null, .null, .null, .int 0]) :: xs) 35 680 (jraw E b H0 35 (xs)) := by
  refine jD_of (ls := [(0, .ref (E.2.2.2 + 18))]) (by decide) rfl rfl rfl (Nat.le_of_ble_eq_true rfl) rfl ?_
  refine jy_aload_n dX6_init_0 rfl ?_
  refine jy_obj dX6_init_1 ol_X6_3 (by decide) (by decide) ?_
  refine jy_aload_n dX6_init_4 rfl ?_
  refine jy_new (ci := 8) (V := [.null, .int 0]) dX6_init_5 rfl cl_X6_9 ni_8 nd_8 (jgk_r kd_19 (by decide)) (hv_of rfl) ?_
  refine jy_dup dX6_init_8 rfl ?_
  refine jy_bipush (v := nI 8) dX6_init_9 (by decide) ?_
  refine jy_ctor (a := 19) (As := [.int (nI 8)]) (rest := [.ref (E.2.2.2 + 19), .ref (E.2.2.2 + 18)]) (m1 := 21) (z1 := 514) (xs1 := (18, [.null, .null, .null, .null, .null, .null, .null, .null, .int 0]) :: xs) dX6_init_11 ml_X6_11 mi_X8 (i_X8 (n := 8) (z := 506) kd_19 (by decide) (by decide +kernel) (by decide) (by decide)) rfl rfl (by decide) (Nat.le_of_ble_eq_true rfl) ?_
  refine jy_putF (ci := 6) (j := 0) (a := 18) (i := 0) (xs1 := (18, [.ref (E.2.2.2 + 19), .null, .null, .null, .null, .null, .null, .null, .int 0]) :: xs) dX6_init_14 ff_X6_14 rfl (jgk_o kd_18) (Nat.lt_of_succ_le (Nat.le_of_ble_eq_true rfl)) rfl rfl rfl ?_
  refine jy_aload_n dX6_init_17 rfl ?_
  refine jy_new (ci := 8) (V := [.null, .int 0]) dX6_init_18 rfl cl_X6_9 ni_8 nd_8 (jgk_r kd_21 (by decide)) (hv_of rfl) ?_
  refine jy_dup dX6_init_21 rfl ?_
  refine jy_bipush (v := nI 8) dX6_init_22 (by decide) ?_
  refine jy_ctor (a := 21) (As := [.int (nI 8)]) (rest := [.ref (E.2.2.2 + 21), .ref (E.2.2.2 + 18)]) (m1 := 23) (z1 := 524) (xs1 := (18, [.ref (E.2.2.2 + 19), .null, .null, .null, .null, .null, .null, .null, .int 0]) :: xs) dX6_init_24 ml_X6_11 mi_X8 (i_X8 (n := 8) (z := 516) kd_21 (by decide) (by decide +kernel) (by decide) (by decide)) rfl rfl (by decide) (Nat.le_of_ble_eq_true rfl) ?_
  refine jy_putF (ci := 6) (j := 1) (a := 18) (i := 0) (xs1 := (18, [.ref (E.2.2.2 + 19), .ref (E.2.2.2 + 21), .null, .null, .null, .null, .null, .null, .int 0]) :: xs) dX6_init_27 ff_X6_20 rfl (jgk_o kd_18) (Nat.lt_of_succ_le (Nat.le_of_ble_eq_true rfl)) rfl rfl rfl ?_
  refine jy_aload_n dX6_init_30 rfl ?_
  refine jy_new (ci := 8) (V := [.null, .int 0]) dX6_init_31 rfl cl_X6_9 ni_8 nd_8 (jgk_r kd_23 (by decide)) (hv_of rfl) ?_
  refine jy_dup dX6_init_34 rfl ?_
  refine jy_bipush (v := nI 8) dX6_init_35 (by decide) ?_
  refine jy_ctor (a := 23) (As := [.int (nI 8)]) (rest := [.ref (E.2.2.2 + 23), .ref (E.2.2.2 + 18)]) (m1 := 25) (z1 := 534) (xs1 := (18, [.ref (E.2.2.2 + 19), .ref (E.2.2.2 + 21), .null, .null, .null, .null, .null, .null, .int 0]) :: xs) dX6_init_37 ml_X6_11 mi_X8 (i_X8 (n := 8) (z := 526) kd_23 (by decide) (by decide +kernel) (by decide) (by decide)) rfl rfl (by decide) (Nat.le_of_ble_eq_true rfl) ?_
  refine jy_putF (ci := 6) (j := 2) (a := 18) (i := 0) (xs1 := (18, [.ref (E.2.2.2 + 19), .ref (E.2.2.2 + 21), .ref (E.2.2.2 + 23), .null, .null, .null, .null, .null, .int 0]) :: xs) dX6_init_40 ff_X6_23 rfl (jgk_o kd_18) (Nat.lt_of_succ_le (Nat.le_of_ble_eq_true rfl)) rfl rfl rfl ?_
  refine jy_aload_n dX6_init_43 rfl ?_
  refine jy_new (ci := 8) (V := [.null, .int 0]) dX6_init_44 rfl cl_X6_9 ni_8 nd_8 (jgk_r kd_25 (by decide)) (hv_of rfl) ?_
  refine jy_dup dX6_init_47 rfl ?_
  refine jy_bipush (v := nI 8) dX6_init_48 (by decide) ?_
  refine jy_ctor (a := 25) (As := [.int (nI 8)]) (rest := [.ref (E.2.2.2 + 25), .ref (E.2.2.2 + 18)]) (m1 := 27) (z1 := 544) (xs1 := (18, [.ref (E.2.2.2 + 19), .ref (E.2.2.2 + 21), .ref (E.2.2.2 + 23), .null, .null, .null, .null, .null, .int 0]) :: xs) dX6_init_50 ml_X6_11 mi_X8 (i_X8 (n := 8) (z := 536) kd_25 (by decide) (by decide +kernel) (by decide) (by decide)) rfl rfl (by decide) (Nat.le_of_ble_eq_true rfl) ?_
  refine jy_putF (ci := 6) (j := 3) (a := 18) (i := 0) (xs1 := (18, [.ref (E.2.2.2 + 19), .ref (E.2.2.2 + 21), .ref (E.2.2.2 + 23), .ref (E.2.2.2 + 25), .null, .null, .null, .null, .int 0]) :: xs) dX6_init_53 ff_X6_26 rfl (jgk_o kd_18) (Nat.lt_of_succ_le (Nat.le_of_ble_eq_true rfl)) rfl rfl rfl ?_
  refine jy_aload_n dX6_init_56 rfl ?_
  refine jy_new (ci := 8) (V := [.null, .int 0]) dX6_init_57 rfl cl_X6_9 ni_8 nd_8 (jgk_r kd_27 (by decide)) (hv_of rfl) ?_
  refine jy_dup dX6_init_60 rfl ?_
  refine jy_bipush (v := nI 32) dX6_init_61 (by decide) ?_
  refine jy_ctor (a := 27) (As := [.int (nI 32)]) (rest := [.ref (E.2.2.2 + 27), .ref (E.2.2.2 + 18)]) (m1 := 29) (z1 := 578) (xs1 := (18, [.ref (E.2.2.2 + 19), .ref (E.2.2.2 + 21), .ref (E.2.2.2 + 23), .ref (E.2.2.2 + 25), .null, .null, .null, .null, .int 0]) :: xs) dX6_init_63 ml_X6_11 mi_X8 (i_X8 (n := 32) (z := 546) kd_27 (by decide) (by decide +kernel) (by decide) (by decide)) rfl rfl (by decide) (Nat.le_of_ble_eq_true rfl) ?_
  refine jy_putF (ci := 6) (j := 4) (a := 18) (i := 0) (xs1 := (18, [.ref (E.2.2.2 + 19), .ref (E.2.2.2 + 21), .ref (E.2.2.2 + 23), .ref (E.2.2.2 + 25), .ref (E.2.2.2 + 27), .null, .null, .null, .int 0]) :: xs) dX6_init_66 ff_X6_29 rfl (jgk_o kd_18) (Nat.lt_of_succ_le (Nat.le_of_ble_eq_true rfl)) rfl rfl rfl ?_
  refine jy_aload_n dX6_init_69 rfl ?_
  refine jy_new (ci := 8) (V := [.null, .int 0]) dX6_init_70 rfl cl_X6_9 ni_8 nd_8 (jgk_r kd_29 (by decide)) (hv_of rfl) ?_
  refine jy_dup dX6_init_73 rfl ?_
  refine jy_bipush (v := nI 32) dX6_init_74 (by decide) ?_
  refine jy_ctor (a := 29) (As := [.int (nI 32)]) (rest := [.ref (E.2.2.2 + 29), .ref (E.2.2.2 + 18)]) (m1 := 31) (z1 := 612) (xs1 := (18, [.ref (E.2.2.2 + 19), .ref (E.2.2.2 + 21), .ref (E.2.2.2 + 23), .ref (E.2.2.2 + 25), .ref (E.2.2.2 + 27), .null, .null, .null, .int 0]) :: xs) dX6_init_76 ml_X6_11 mi_X8 (i_X8 (n := 32) (z := 580) kd_29 (by decide) (by decide +kernel) (by decide) (by decide)) rfl rfl (by decide) (Nat.le_of_ble_eq_true rfl) ?_
  refine jy_putF (ci := 6) (j := 5) (a := 18) (i := 0) (xs1 := (18, [.ref (E.2.2.2 + 19), .ref (E.2.2.2 + 21), .ref (E.2.2.2 + 23), .ref (E.2.2.2 + 25), .ref (E.2.2.2 + 27), .ref (E.2.2.2 + 29), .null, .null, .int 0]) :: xs) dX6_init_79 ff_X6_32 rfl (jgk_o kd_18) (Nat.lt_of_succ_le (Nat.le_of_ble_eq_true rfl)) rfl rfl rfl ?_
  refine jy_aload_n dX6_init_82 rfl ?_
  refine jy_new (ci := 8) (V := [.null, .int 0]) dX6_init_83 rfl cl_X6_9 ni_8 nd_8 (jgk_r kd_31 (by decide)) (hv_of rfl) ?_
  refine jy_dup dX6_init_86 rfl ?_
  refine jy_bipush (v := nI 32) dX6_init_87 (by decide) ?_
  refine jy_ctor (a := 31) (As := [.int (nI 32)]) (rest := [.ref (E.2.2.2 + 31), .ref (E.2.2.2 + 18)]) (m1 := 33) (z1 := 646) (xs1 := (18, [.ref (E.2.2.2 + 19), .ref (E.2.2.2 + 21), .ref (E.2.2.2 + 23), .ref (E.2.2.2 + 25), .ref (E.2.2.2 + 27), .ref (E.2.2.2 + 29), .null, .null, .int 0]) :: xs) dX6_init_89 ml_X6_11 mi_X8 (i_X8 (n := 32) (z := 614) kd_31 (by decide) (by decide +kernel) (by decide) (by decide)) rfl rfl (by decide) (Nat.le_of_ble_eq_true rfl) ?_
  refine jy_putF (ci := 6) (j := 6) (a := 18) (i := 0) (xs1 := (18, [.ref (E.2.2.2 + 19), .ref (E.2.2.2 + 21), .ref (E.2.2.2 + 23), .ref (E.2.2.2 + 25), .ref (E.2.2.2 + 27), .ref (E.2.2.2 + 29), .ref (E.2.2.2 + 31), .null, .int 0]) :: xs) dX6_init_92 ff_X6_35 rfl (jgk_o kd_18) (Nat.lt_of_succ_le (Nat.le_of_ble_eq_true rfl)) rfl rfl rfl ?_
  refine jy_aload_n dX6_init_95 rfl ?_
  refine jy_new (ci := 8) (V := [.null, .int 0]) dX6_init_96 rfl cl_X6_9 ni_8 nd_8 (jgk_r kd_33 (by decide)) (hv_of rfl) ?_
  refine jy_dup dX6_init_99 rfl ?_
  refine jy_bipush (v := nI 32) dX6_init_100 (by decide) ?_
  refine jy_ctor (a := 33) (As := [.int (nI 32)]) (rest := [.ref (E.2.2.2 + 33), .ref (E.2.2.2 + 18)]) (m1 := 35) (z1 := 680) (xs1 := (18, [.ref (E.2.2.2 + 19), .ref (E.2.2.2 + 21), .ref (E.2.2.2 + 23), .ref (E.2.2.2 + 25), .ref (E.2.2.2 + 27), .ref (E.2.2.2 + 29), .ref (E.2.2.2 + 31), .null, .int 0]) :: xs) dX6_init_102 ml_X6_11 mi_X8 (i_X8 (n := 32) (z := 648) kd_33 (by decide) (by decide +kernel) (by decide) (by decide)) rfl rfl (by decide) (Nat.le_of_ble_eq_true rfl) ?_
  refine jy_putF (ci := 6) (j := 7) (a := 18) (i := 0) (xs1 := (18, [.ref (E.2.2.2 + 19), .ref (E.2.2.2 + 21), .ref (E.2.2.2 + 23), .ref (E.2.2.2 + 25), .ref (E.2.2.2 + 27), .ref (E.2.2.2 + 29), .ref (E.2.2.2 + 31), .ref (E.2.2.2 + 33), .int 0]) :: xs) dX6_init_105 ff_X6_38 rfl (jgk_o kd_18) (Nat.lt_of_succ_le (Nat.le_of_ble_eq_true rfl)) rfl rfl rfl ?_
  refine jy_aload_n dX6_init_108 rfl ?_
  refine jy_bipush (v := nI 8) dX6_init_109 (by decide) ?_
  refine jy_put (ci := 6) (j := 8) (a := 18) (i := 0) (xs1 := (18, [.ref (E.2.2.2 + 19), .ref (E.2.2.2 + 21), .ref (E.2.2.2 + 23), .ref (E.2.2.2 + 25), .ref (E.2.2.2 + 27), .ref (E.2.2.2 + 29), .ref (E.2.2.2 + 31), .ref (E.2.2.2 + 33), .int (nI 8)]) :: xs) dX6_init_111 fp_X6_41 rfl (jgk_o kd_18) (Nat.lt_of_succ_le (Nat.le_of_ble_eq_true rfl)) rfl rfl rfl ?_
  refine jy_pop kd_18 rfl (os := [(some 19, 0), (some 21, 0), (some 23, 0), (some 25, 0), (some 27, 0), (some 29, 0), (some 31, 0), (some 33, 0), (none, 8)]) (by decide +kernel) rfl ?_
  exact jy_ret dX6_init_114 (fun H h => h)
set_option maxRecDepth 20000 in
theorem i_X2_35 {E : jE} {b : Nat} {H0 : Heap} {xs : jxs} : jD E m_X2_init 2 [.ref (E.2.2.2 + 35)] b H0 36 685 ((35, [.null, .null, .null, .null, .int 0]) :: xs) 44 757 (jraw E b H0 44 (xs)) := by
  refine jD_of (ls := [(0, .ref (E.2.2.2 + 35))]) (by decide) rfl rfl rfl (Nat.le_of_ble_eq_true rfl) rfl ?_
  refine jy_aload_n dX2_init_0 rfl ?_
  refine jy_obj dX2_init_1 ol_X2_3 (by decide) (by decide) ?_
  refine jy_aload_n dX2_init_4 rfl ?_
  refine jy_new (ci := 8) (V := [.null, .int 0]) dX2_init_5 rfl cl_X2_9 ni_8 nd_8 (jgk_r kd_36 (by decide)) (hv_of rfl) ?_
  refine jy_dup dX2_init_8 rfl ?_
  refine jy_bipush (v := nI 16) dX2_init_9 (by decide) ?_
  refine jy_ctor (a := 36) (As := [.int (nI 16)]) (rest := [.ref (E.2.2.2 + 36), .ref (E.2.2.2 + 35)]) (m1 := 38) (z1 := 703) (xs1 := (35, [.null, .null, .null, .null, .int 0]) :: xs) dX2_init_11 ml_X2_11 mi_X8 (i_X8 (n := 16) (z := 687) kd_36 (by decide) (by decide +kernel) (by decide) (by decide)) rfl rfl (by decide) (Nat.le_of_ble_eq_true rfl) ?_
  refine jy_putF (ci := 2) (j := 0) (a := 35) (i := 0) (xs1 := (35, [.ref (E.2.2.2 + 36), .null, .null, .null, .int 0]) :: xs) dX2_init_14 ff_X2_14 rfl (jgk_o kd_35) (Nat.lt_of_succ_le (Nat.le_of_ble_eq_true rfl)) rfl rfl rfl ?_
  refine jy_aload_n dX2_init_17 rfl ?_
  refine jy_new (ci := 8) (V := [.null, .int 0]) dX2_init_18 rfl cl_X2_9 ni_8 nd_8 (jgk_r kd_38 (by decide)) (hv_of rfl) ?_
  refine jy_dup dX2_init_21 rfl ?_
  refine jy_bipush (v := nI 16) dX2_init_22 (by decide) ?_
  refine jy_ctor (a := 38) (As := [.int (nI 16)]) (rest := [.ref (E.2.2.2 + 38), .ref (E.2.2.2 + 35)]) (m1 := 40) (z1 := 721) (xs1 := (35, [.ref (E.2.2.2 + 36), .null, .null, .null, .int 0]) :: xs) dX2_init_24 ml_X2_11 mi_X8 (i_X8 (n := 16) (z := 705) kd_38 (by decide) (by decide +kernel) (by decide) (by decide)) rfl rfl (by decide) (Nat.le_of_ble_eq_true rfl) ?_
  refine jy_putF (ci := 2) (j := 1) (a := 35) (i := 0) (xs1 := (35, [.ref (E.2.2.2 + 36), .ref (E.2.2.2 + 38), .null, .null, .int 0]) :: xs) dX2_init_27 ff_X2_20 rfl (jgk_o kd_35) (Nat.lt_of_succ_le (Nat.le_of_ble_eq_true rfl)) rfl rfl rfl ?_
  refine jy_aload_n dX2_init_30 rfl ?_
  refine jy_new (ci := 8) (V := [.null, .int 0]) dX2_init_31 rfl cl_X2_9 ni_8 nd_8 (jgk_r kd_40 (by decide)) (hv_of rfl) ?_
  refine jy_dup dX2_init_34 rfl ?_
  refine jy_bipush (v := nI 16) dX2_init_35 (by decide) ?_
  refine jy_ctor (a := 40) (As := [.int (nI 16)]) (rest := [.ref (E.2.2.2 + 40), .ref (E.2.2.2 + 35)]) (m1 := 42) (z1 := 739) (xs1 := (35, [.ref (E.2.2.2 + 36), .ref (E.2.2.2 + 38), .null, .null, .int 0]) :: xs) dX2_init_37 ml_X2_11 mi_X8 (i_X8 (n := 16) (z := 723) kd_40 (by decide) (by decide +kernel) (by decide) (by decide)) rfl rfl (by decide) (Nat.le_of_ble_eq_true rfl) ?_
  refine jy_putF (ci := 2) (j := 2) (a := 35) (i := 0) (xs1 := (35, [.ref (E.2.2.2 + 36), .ref (E.2.2.2 + 38), .ref (E.2.2.2 + 40), .null, .int 0]) :: xs) dX2_init_40 ff_X2_23 rfl (jgk_o kd_35) (Nat.lt_of_succ_le (Nat.le_of_ble_eq_true rfl)) rfl rfl rfl ?_
  refine jy_aload_n dX2_init_43 rfl ?_
  refine jy_new (ci := 8) (V := [.null, .int 0]) dX2_init_44 rfl cl_X2_9 ni_8 nd_8 (jgk_r kd_42 (by decide)) (hv_of rfl) ?_
  refine jy_dup dX2_init_47 rfl ?_
  refine jy_bipush (v := nI 16) dX2_init_48 (by decide) ?_
  refine jy_ctor (a := 42) (As := [.int (nI 16)]) (rest := [.ref (E.2.2.2 + 42), .ref (E.2.2.2 + 35)]) (m1 := 44) (z1 := 757) (xs1 := (35, [.ref (E.2.2.2 + 36), .ref (E.2.2.2 + 38), .ref (E.2.2.2 + 40), .null, .int 0]) :: xs) dX2_init_50 ml_X2_11 mi_X8 (i_X8 (n := 16) (z := 741) kd_42 (by decide) (by decide +kernel) (by decide) (by decide)) rfl rfl (by decide) (Nat.le_of_ble_eq_true rfl) ?_
  refine jy_putF (ci := 2) (j := 3) (a := 35) (i := 0) (xs1 := (35, [.ref (E.2.2.2 + 36), .ref (E.2.2.2 + 38), .ref (E.2.2.2 + 40), .ref (E.2.2.2 + 42), .int 0]) :: xs) dX2_init_53 ff_X2_26 rfl (jgk_o kd_35) (Nat.lt_of_succ_le (Nat.le_of_ble_eq_true rfl)) rfl rfl rfl ?_
  refine jy_aload_n dX2_init_56 rfl ?_
  refine jy_iconst (v := nI 0) dX2_init_57 (by decide) ?_
  refine jy_put (ci := 2) (j := 4) (a := 35) (i := 0) (xs1 := (35, [.ref (E.2.2.2 + 36), .ref (E.2.2.2 + 38), .ref (E.2.2.2 + 40), .ref (E.2.2.2 + 42), .int (nI 0)]) :: xs) dX2_init_58 fp_X2_29 rfl (jgk_o kd_35) (Nat.lt_of_succ_le (Nat.le_of_ble_eq_true rfl)) rfl rfl rfl ?_
  refine jy_pop kd_35 rfl (os := [(some 36, 0), (some 38, 0), (some 40, 0), (some 42, 0), (none, 0)]) (by decide +kernel) rfl ?_
  exact jy_ret dX2_init_61 (fun H h => h)
set_option maxRecDepth 20000 in
theorem i_X9_17 {E : jE} {b : Nat} {H0 : Heap} {xs : jxs} : jD E m_X9_init 3 [.ref (E.2.2.2 + 17)] b H0 18 495 ((17, [.null, .null, .null, .null, .int 0]) :: xs) 48 777 (jraw E b H0 48 (xs)) := by
  refine jD_of (ls := [(0, .ref (E.2.2.2 + 17))]) (by decide) rfl rfl rfl (Nat.le_of_ble_eq_true rfl) rfl ?_
  refine jy_aload_n dX9_init_0 rfl ?_
  refine jy_obj dX9_init_1 ol_X9_3 (by decide) (by decide) ?_
  refine jy_aload_n dX9_init_4 rfl ?_
  refine jy_new (ci := 6) (V := [.null, .null, .null, .null, .null, .null, .null, .null, .int 0]) dX9_init_5 rfl cl_X9_9 ni_6 nd_6 (jgk_o kd_18) (hv_of rfl) ?_
  refine jy_dup dX9_init_8 rfl ?_
  refine jy_ctor (a := 18) (As := []) (rest := [.ref (E.2.2.2 + 18), .ref (E.2.2.2 + 17)]) (m1 := 35) (z1 := 680) (xs1 := (17, [.null, .null, .null, .null, .int 0]) :: xs) dX9_init_9 ml_X9_11 mi_X6 (i_X6_18) rfl rfl (by decide) (Nat.le_of_ble_eq_true rfl) ?_
  refine jy_putF (ci := 9) (j := 0) (a := 17) (i := 0) (xs1 := (17, [.ref (E.2.2.2 + 18), .null, .null, .null, .int 0]) :: xs) dX9_init_12 ff_X9_12 rfl (jgk_o kd_17) (Nat.lt_of_succ_le (Nat.le_of_ble_eq_true rfl)) rfl rfl rfl ?_
  refine jy_aload_n dX9_init_15 rfl ?_
  refine jy_new (ci := 2) (V := [.null, .null, .null, .null, .int 0]) dX9_init_16 rfl cl_X9_18 ni_2 nd_2 (jgk_o kd_35) (hv_of rfl) ?_
  refine jy_dup dX9_init_19 rfl ?_
  refine jy_ctor (a := 35) (As := []) (rest := [.ref (E.2.2.2 + 35), .ref (E.2.2.2 + 17)]) (m1 := 44) (z1 := 757) (xs1 := (17, [.ref (E.2.2.2 + 18), .null, .null, .null, .int 0]) :: xs) dX9_init_20 ml_X9_20 mi_X2 (i_X2_35) rfl rfl (by decide) (Nat.le_of_ble_eq_true rfl) ?_
  refine jy_putF (ci := 9) (j := 1) (a := 17) (i := 0) (xs1 := (17, [.ref (E.2.2.2 + 18), .ref (E.2.2.2 + 35), .null, .null, .int 0]) :: xs) dX9_init_23 ff_X9_21 rfl (jgk_o kd_17) (Nat.lt_of_succ_le (Nat.le_of_ble_eq_true rfl)) rfl rfl rfl ?_
  refine jy_aload_n dX9_init_26 rfl ?_
  refine jy_new (ci := 8) (V := [.null, .int 0]) dX9_init_27 rfl cl_X9_25 ni_8 nd_8 (jgk_r kd_44 (by decide)) (hv_of rfl) ?_
  refine jy_dup dX9_init_30 rfl ?_
  refine jy_bipush (v := nI 8) dX9_init_31 (by decide) ?_
  refine jy_ctor (a := 44) (As := [.int (nI 8)]) (rest := [.ref (E.2.2.2 + 44), .ref (E.2.2.2 + 17)]) (m1 := 46) (z1 := 767) (xs1 := (17, [.ref (E.2.2.2 + 18), .ref (E.2.2.2 + 35), .null, .null, .int 0]) :: xs) dX9_init_33 ml_X9_27 mi_X8 (i_X8 (n := 8) (z := 759) kd_44 (by decide) (by decide +kernel) (by decide) (by decide)) rfl rfl (by decide) (Nat.le_of_ble_eq_true rfl) ?_
  refine jy_putF (ci := 9) (j := 2) (a := 17) (i := 0) (xs1 := (17, [.ref (E.2.2.2 + 18), .ref (E.2.2.2 + 35), .ref (E.2.2.2 + 44), .null, .int 0]) :: xs) dX9_init_36 ff_X9_30 rfl (jgk_o kd_17) (Nat.lt_of_succ_le (Nat.le_of_ble_eq_true rfl)) rfl rfl rfl ?_
  refine jy_aload_n dX9_init_39 rfl ?_
  refine jy_new (ci := 8) (V := [.null, .int 0]) dX9_init_40 rfl cl_X9_25 ni_8 nd_8 (jgk_r kd_46 (by decide)) (hv_of rfl) ?_
  refine jy_dup dX9_init_43 rfl ?_
  refine jy_bipush (v := nI 8) dX9_init_44 (by decide) ?_
  refine jy_ctor (a := 46) (As := [.int (nI 8)]) (rest := [.ref (E.2.2.2 + 46), .ref (E.2.2.2 + 17)]) (m1 := 48) (z1 := 777) (xs1 := (17, [.ref (E.2.2.2 + 18), .ref (E.2.2.2 + 35), .ref (E.2.2.2 + 44), .null, .int 0]) :: xs) dX9_init_46 ml_X9_27 mi_X8 (i_X8 (n := 8) (z := 769) kd_46 (by decide) (by decide +kernel) (by decide) (by decide)) rfl rfl (by decide) (Nat.le_of_ble_eq_true rfl) ?_
  refine jy_putF (ci := 9) (j := 3) (a := 17) (i := 0) (xs1 := (17, [.ref (E.2.2.2 + 18), .ref (E.2.2.2 + 35), .ref (E.2.2.2 + 44), .ref (E.2.2.2 + 46), .int 0]) :: xs) dX9_init_49 ff_X9_34 rfl (jgk_o kd_17) (Nat.lt_of_succ_le (Nat.le_of_ble_eq_true rfl)) rfl rfl rfl ?_
  refine jy_aload_n dX9_init_52 rfl ?_
  refine jy_iconst (v := nI 0) dX9_init_53 (by decide) ?_
  refine jy_put (ci := 9) (j := 4) (a := 17) (i := 0) (xs1 := (17, [.ref (E.2.2.2 + 18), .ref (E.2.2.2 + 35), .ref (E.2.2.2 + 44), .ref (E.2.2.2 + 46), .int (nI 0)]) :: xs) dX9_init_54 fp_X9_37 rfl (jgk_o kd_17) (Nat.lt_of_succ_le (Nat.le_of_ble_eq_true rfl)) rfl rfl rfl ?_
  refine jy_pop kd_17 rfl (os := [(some 18, 0), (some 35, 0), (some 44, 0), (some 46, 0), (none, 0)]) (by decide +kernel) rfl ?_
  exact jy_ret dX9_init_57 (fun H h => h)
set_option maxRecDepth 20000 in
theorem i_X10_48 {E : jE} {b : Nat} {H0 : Heap} {xs : jxs} : jD E m_X10_init 2 [.ref (E.2.2.2 + 48), .ref (E.2.2.2 + 3), .ref (E.2.2.2 + 10), .ref (E.2.2.2 + 17)] b H0 49 786 ((48, [.null, .null, .null, .null, .int 0, .int 0, .int 0, .int 0, .int 0]) :: xs) 51 791 (jraw E b H0 51 (xs)) := by
  refine jD_of (ls := [(0, .ref (E.2.2.2 + 48)), (1, .ref (E.2.2.2 + 3)), (2, .ref (E.2.2.2 + 10)), (3, .ref (E.2.2.2 + 17))]) (by decide) rfl rfl rfl (Nat.le_of_ble_eq_true rfl) rfl ?_
  refine jy_aload_n dX10_init_0 rfl ?_
  refine jy_obj dX10_init_1 ol_X10_3 (by decide) (by decide) ?_
  refine jy_aload_n dX10_init_4 rfl ?_
  refine jy_aload_n dX10_init_5 rfl ?_
  refine jy_putF (ci := 10) (j := 0) (a := 48) (i := 0) (xs1 := (48, [.ref (E.2.2.2 + 3), .null, .null, .null, .int 0, .int 0, .int 0, .int 0, .int 0]) :: xs) dX10_init_6 ff_X10_9 rfl (jgk_o kd_48) (Nat.lt_of_succ_le (Nat.le_of_ble_eq_true rfl)) rfl rfl rfl ?_
  refine jy_aload_n dX10_init_9 rfl ?_
  refine jy_aload_n dX10_init_10 rfl ?_
  refine jy_putF (ci := 10) (j := 1) (a := 48) (i := 0) (xs1 := (48, [.ref (E.2.2.2 + 3), .ref (E.2.2.2 + 10), .null, .null, .int 0, .int 0, .int 0, .int 0, .int 0]) :: xs) dX10_init_11 ff_X10_15 rfl (jgk_o kd_48) (Nat.lt_of_succ_le (Nat.le_of_ble_eq_true rfl)) rfl rfl rfl ?_
  refine jy_aload_n dX10_init_14 rfl ?_
  refine jy_aload_n dX10_init_15 rfl ?_
  refine jy_putF (ci := 10) (j := 2) (a := 48) (i := 0) (xs1 := (48, [.ref (E.2.2.2 + 3), .ref (E.2.2.2 + 10), .ref (E.2.2.2 + 17), .null, .int 0, .int 0, .int 0, .int 0, .int 0]) :: xs) dX10_init_16 ff_X10_19 rfl (jgk_o kd_48) (Nat.lt_of_succ_le (Nat.le_of_ble_eq_true rfl)) rfl rfl rfl ?_
  refine jy_aload_n dX10_init_19 rfl ?_
  refine jy_new (ci := 8) (V := [.null, .int 0]) dX10_init_20 rfl cl_X10_23 ni_8 nd_8 (jgk_r kd_49 (by decide)) (hv_of rfl) ?_
  refine jy_dup dX10_init_23 rfl ?_
  refine jy_iconst (v := nI 3) dX10_init_24 (by decide) ?_
  refine jy_ctor (a := 49) (As := [.int (nI 3)]) (rest := [.ref (E.2.2.2 + 49), .ref (E.2.2.2 + 48)]) (m1 := 51) (z1 := 791) (xs1 := (48, [.ref (E.2.2.2 + 3), .ref (E.2.2.2 + 10), .ref (E.2.2.2 + 17), .null, .int 0, .int 0, .int 0, .int 0, .int 0]) :: xs) dX10_init_25 ml_X10_25 mi_X8 (i_X8 (n := 3) (z := 788) kd_49 (by decide) (by decide +kernel) (by decide) (by decide)) rfl rfl (by decide) (Nat.le_of_ble_eq_true rfl) ?_
  refine jy_putF (ci := 10) (j := 3) (a := 48) (i := 0) (xs1 := (48, [.ref (E.2.2.2 + 3), .ref (E.2.2.2 + 10), .ref (E.2.2.2 + 17), .ref (E.2.2.2 + 49), .int 0, .int 0, .int 0, .int 0, .int 0]) :: xs) dX10_init_28 ff_X10_28 rfl (jgk_o kd_48) (Nat.lt_of_succ_le (Nat.le_of_ble_eq_true rfl)) rfl rfl rfl ?_
  refine jy_pop kd_48 rfl (os := [(some 3, 0), (some 10, 0), (some 17, 0), (some 49, 0), (none, 0), (none, 0), (none, 0), (none, 0), (none, 0)]) (by decide +kernel) rfl ?_
  exact jy_ret dX10_init_31 (fun H h => h)
set_option maxRecDepth 20000 in
theorem i_X0_54 {E : jE} {b : Nat} {H0 : Heap} {xs : jxs} : jD E m_X0_init 1 [.ref (E.2.2.2 + 54)] b H0 55 844 ((54, [.null, .null, .null, .int 0]) :: xs) 58 940 (jraw E b H0 58 (xs)) := by
  refine jD_of (ls := [(0, .ref (E.2.2.2 + 54))]) (by decide) rfl rfl rfl (Nat.le_of_ble_eq_true rfl) rfl ?_
  refine jy_aload_n dX0_init_0 rfl ?_
  refine jy_obj dX0_init_1 ol_X0_1 (by decide) (by decide) ?_
  refine jy_aload_n dX0_init_4 rfl ?_
  refine jy_bipush (v := nI 32) dX0_init_5 (by decide) ?_
  refine jy_newa (atype := .int) (t := 0) (n := 32) dX0_init_7 tw_aI rfl (by decide) (jgk_1 kd_55) (by decide) (fun U cA h => h) ?_
  refine jy_putF (ci := 0) (j := 0) (a := 54) (i := 0) (xs1 := (54, [.ref (E.2.2.2 + 55), .null, .null, .int 0]) :: xs) dX0_init_9 ff_X0_9 rfl (jgk_o kd_54) (Nat.lt_of_succ_le (Nat.le_of_ble_eq_true rfl)) rfl rfl rfl ?_
  refine jy_aload_n dX0_init_12 rfl ?_
  refine jy_bipush (v := nI 32) dX0_init_13 (by decide) ?_
  refine jy_newa (atype := .int) (t := 0) (n := 32) dX0_init_15 tw_aI rfl (by decide) (jgk_1 kd_56) (by decide) (fun U cA h => h) ?_
  refine jy_putF (ci := 0) (j := 1) (a := 54) (i := 0) (xs1 := (54, [.ref (E.2.2.2 + 55), .ref (E.2.2.2 + 56), .null, .int 0]) :: xs) dX0_init_17 ff_X0_13 rfl (jgk_o kd_54) (Nat.lt_of_succ_le (Nat.le_of_ble_eq_true rfl)) rfl rfl rfl ?_
  refine jy_aload_n dX0_init_20 rfl ?_
  refine jy_bipush (v := nI 32) dX0_init_21 (by decide) ?_
  refine jy_newa (atype := .int) (t := 0) (n := 32) dX0_init_23 tw_aI rfl (by decide) (jgk_1 kd_57) (by decide) (fun U cA h => h) ?_
  refine jy_putF (ci := 0) (j := 2) (a := 54) (i := 0) (xs1 := (54, [.ref (E.2.2.2 + 55), .ref (E.2.2.2 + 56), .ref (E.2.2.2 + 57), .int 0]) :: xs) dX0_init_25 ff_X0_16 rfl (jgk_o kd_54) (Nat.lt_of_succ_le (Nat.le_of_ble_eq_true rfl)) rfl rfl rfl ?_
  refine jy_aload_n dX0_init_28 rfl ?_
  refine jy_iconst (v := nI 0) dX0_init_29 (by decide) ?_
  refine jy_put (ci := 0) (j := 3) (a := 54) (i := 0) (xs1 := (54, [.ref (E.2.2.2 + 55), .ref (E.2.2.2 + 56), .ref (E.2.2.2 + 57), .int (nI 0)]) :: xs) dX0_init_30 fp_X0_19 rfl (jgk_o kd_54) (Nat.lt_of_succ_le (Nat.le_of_ble_eq_true rfl)) rfl rfl rfl ?_
  refine jy_pop kd_54 rfl (os := [(some 55, 0), (some 56, 0), (some 57, 0), (none, 0)]) (by decide +kernel) rfl ?_
  exact jy_ret dX0_init_33 (fun H h => h)
set_option maxRecDepth 20000 in
theorem i_X1_51 {E : jE} {b : Nat} {H0 : Heap} {V : List Value} (hb : b ≤ 17) : jD E m_X1_init 2 [.ref (E.2.2.2 + 51), .ref (E.2.2.2 + 17)] b H0 52 798 ((51, [.null, .null, .null, .null, .int 0, .int 0, .int 0]) :: (0, V) :: []) 58 940 (jraw E b H0 58 ((0, V) :: [])) := by
  refine jD_of (ls := [(0, .ref (E.2.2.2 + 51)), (1, .ref (E.2.2.2 + 17))]) (by decide) rfl rfl rfl (Nat.le_of_ble_eq_true rfl) rfl ?_
  refine jy_aload_n dX1_init_0 rfl ?_
  refine jy_obj dX1_init_1 ol_X1_3 (by decide) (by decide) ?_
  refine jy_aload_n dX1_init_4 rfl ?_
  refine jy_aload_n dX1_init_5 rfl ?_
  refine jy_putF (ci := 1) (j := 0) (a := 51) (i := 0) (xs1 := (51, [.ref (E.2.2.2 + 17), .null, .null, .null, .int 0, .int 0, .int 0]) :: (0, V) :: []) dX1_init_6 ff_X1_9 rfl (jgk_o kd_51) (Nat.lt_of_succ_le (Nat.le_of_ble_eq_true rfl)) rfl rfl rfl ?_
  refine jy_aload_n dX1_init_9 rfl ?_
  refine jy_aload_n dX1_init_10 rfl ?_
  refine jy_getF (ci := 9) (j := 0) (a := 17) (v := .ref (E.2.2.2 + 18)) dX1_init_11 fl_X1_15 (by simp) (by omega) (by decide) (jgk_o kd_17) (by rw [jgF_o kd_17]; show jgv _ (jgo 17 0) = _; rw [show jgo 17 0 = (some 18, 0) by decide +kernel]; rfl) ?_
  refine jy_putF (ci := 1) (j := 1) (a := 51) (i := 0) (xs1 := (51, [.ref (E.2.2.2 + 17), .ref (E.2.2.2 + 18), .null, .null, .int 0, .int 0, .int 0]) :: (0, V) :: []) dX1_init_14 ff_X1_21 rfl (jgk_o kd_51) (Nat.lt_of_succ_le (Nat.le_of_ble_eq_true rfl)) rfl rfl rfl ?_
  refine jy_aload_n dX1_init_17 rfl ?_
  refine jy_new (ci := 8) (V := [.null, .int 0]) dX1_init_18 rfl cl_X1_22 ni_8 nd_8 (jgk_r kd_52 (by decide)) (hv_of rfl) ?_
  refine jy_dup dX1_init_21 rfl ?_
  refine jy_bipush (v := nI 40) dX1_init_22 (by decide) ?_
  refine jy_ctor (a := 52) (As := [.int (nI 40)]) (rest := [.ref (E.2.2.2 + 52), .ref (E.2.2.2 + 51)]) (m1 := 54) (z1 := 840) (xs1 := (51, [.ref (E.2.2.2 + 17), .ref (E.2.2.2 + 18), .null, .null, .int 0, .int 0, .int 0]) :: (0, V) :: []) dX1_init_24 ml_X1_24 mi_X8 (i_X8 (n := 40) (z := 800) kd_52 (by decide) (by decide +kernel) (by decide) (by decide)) rfl rfl (by decide) (Nat.le_of_ble_eq_true rfl) ?_
  refine jy_putF (ci := 1) (j := 2) (a := 51) (i := 0) (xs1 := (51, [.ref (E.2.2.2 + 17), .ref (E.2.2.2 + 18), .ref (E.2.2.2 + 52), .null, .int 0, .int 0, .int 0]) :: (0, V) :: []) dX1_init_27 ff_X1_27 rfl (jgk_o kd_51) (Nat.lt_of_succ_le (Nat.le_of_ble_eq_true rfl)) rfl rfl rfl ?_
  refine jy_aload_n dX1_init_30 rfl ?_
  refine jy_new (ci := 0) (V := [.null, .null, .null, .int 0]) dX1_init_31 rfl cl_X1_31 ni_0 nd_0 (jgk_o kd_54) (hv_of rfl) ?_
  refine jy_dup dX1_init_34 rfl ?_
  refine jy_ctor (a := 54) (As := []) (rest := [.ref (E.2.2.2 + 54), .ref (E.2.2.2 + 51)]) (m1 := 58) (z1 := 940) (xs1 := (51, [.ref (E.2.2.2 + 17), .ref (E.2.2.2 + 18), .ref (E.2.2.2 + 52), .null, .int 0, .int 0, .int 0]) :: (0, V) :: []) dX1_init_35 ml_X1_33 mi_X0 (i_X0_54) rfl rfl (by decide) (Nat.le_of_ble_eq_true rfl) ?_
  refine jy_putF (ci := 1) (j := 3) (a := 51) (i := 0) (xs1 := (51, [.ref (E.2.2.2 + 17), .ref (E.2.2.2 + 18), .ref (E.2.2.2 + 52), .ref (E.2.2.2 + 54), .int 0, .int 0, .int 0]) :: (0, V) :: []) dX1_init_38 ff_X1_34 rfl (jgk_o kd_51) (Nat.lt_of_succ_le (Nat.le_of_ble_eq_true rfl)) rfl rfl rfl ?_
  refine jy_pop kd_51 rfl (os := [(some 17, 0), (some 18, 0), (some 52, 0), (some 54, 0), (none, 0), (none, 0), (none, 0)]) (by decide +kernel) rfl ?_
  exact jy_ret dX1_init_41 (fun H h => h)
set_option maxRecDepth 20000 in
theorem i_X3_58 {E : jE} {b : Nat} {H0 : Heap} {xs : jxs} : jD E m_X3_init 2 [.ref (E.2.2.2 + 58), .ref (E.2.2.2 + 35)] b H0 59 943 ((58, [.null, .null, .null]) :: xs) 63 2947 (jraw E b H0 63 (xs)) := by
  refine jD_of (ls := [(0, .ref (E.2.2.2 + 58)), (1, .ref (E.2.2.2 + 35))]) (by decide) rfl rfl rfl (Nat.le_of_ble_eq_true rfl) rfl ?_
  refine jy_aload_n dX3_init_0 rfl ?_
  refine jy_obj dX3_init_1 ol_X3_3 (by decide) (by decide) ?_
  refine jy_aload_n dX3_init_4 rfl ?_
  refine jy_aload_n dX3_init_5 rfl ?_
  refine jy_putF (ci := 3) (j := 0) (a := 58) (i := 0) (xs1 := (58, [.ref (E.2.2.2 + 35), .null, .null]) :: xs) dX3_init_6 ff_X3_9 rfl (jgk_o kd_58) (Nat.lt_of_succ_le (Nat.le_of_ble_eq_true rfl)) rfl rfl rfl ?_
  refine jy_aload_n dX3_init_9 rfl ?_
  refine jy_new (ci := 8) (V := [.null, .int 0]) dX3_init_10 rfl cl_X3_15 ni_8 nd_8 (jgk_r kd_59 (by decide)) (hv_of rfl) ?_
  refine jy_dup dX3_init_13 rfl ?_
  refine jy_sipush (v := nI 1000) dX3_init_14 (by decide) ?_
  refine jy_ctor (a := 59) (As := [.int (nI 1000)]) (rest := [.ref (E.2.2.2 + 59), .ref (E.2.2.2 + 58)]) (m1 := 61) (z1 := 1945) (xs1 := (58, [.ref (E.2.2.2 + 35), .null, .null]) :: xs) dX3_init_17 ml_X3_17 mi_X8 (i_X8 (n := 1000) (z := 945) kd_59 (by decide) (by decide +kernel) (by decide) (by decide)) rfl rfl (by decide) (Nat.le_of_ble_eq_true rfl) ?_
  refine jy_putF (ci := 3) (j := 1) (a := 58) (i := 0) (xs1 := (58, [.ref (E.2.2.2 + 35), .ref (E.2.2.2 + 59), .null]) :: xs) dX3_init_20 ff_X3_20 rfl (jgk_o kd_58) (Nat.lt_of_succ_le (Nat.le_of_ble_eq_true rfl)) rfl rfl rfl ?_
  refine jy_aload_n dX3_init_23 rfl ?_
  refine jy_new (ci := 8) (V := [.null, .int 0]) dX3_init_24 rfl cl_X3_15 ni_8 nd_8 (jgk_r kd_61 (by decide)) (hv_of rfl) ?_
  refine jy_dup dX3_init_27 rfl ?_
  refine jy_sipush (v := nI 1000) dX3_init_28 (by decide) ?_
  refine jy_ctor (a := 61) (As := [.int (nI 1000)]) (rest := [.ref (E.2.2.2 + 61), .ref (E.2.2.2 + 58)]) (m1 := 63) (z1 := 2947) (xs1 := (58, [.ref (E.2.2.2 + 35), .ref (E.2.2.2 + 59), .null]) :: xs) dX3_init_31 ml_X3_17 mi_X8 (i_X8 (n := 1000) (z := 1947) kd_61 (by decide) (by decide +kernel) (by decide) (by decide)) rfl rfl (by decide) (Nat.le_of_ble_eq_true rfl) ?_
  refine jy_putF (ci := 3) (j := 2) (a := 58) (i := 0) (xs1 := (58, [.ref (E.2.2.2 + 35), .ref (E.2.2.2 + 59), .ref (E.2.2.2 + 61)]) :: xs) dX3_init_34 ff_X3_24 rfl (jgk_o kd_58) (Nat.lt_of_succ_le (Nat.le_of_ble_eq_true rfl)) rfl rfl rfl ?_
  refine jy_pop kd_58 rfl (os := [(some 35, 0), (some 59, 0), (some 61, 0)]) (by decide +kernel) rfl ?_
  exact jy_ret dX3_init_37 (fun H h => h)
set_option maxRecDepth 20000 in
theorem i_X5_63 {E : jE} {b : Nat} {H0 : Heap} {V : List Value} (hb : b ≤ 17) : jD E m_X5_init 2 [.ref (E.2.2.2 + 63), .ref (E.2.2.2 + 17)] b H0 64 2951 ((63, [.null, .null, .null, .null]) :: (0, V) :: []) 68 3011 (jraw E b H0 68 ((0, V) :: [])) := by
  refine jD_of (ls := [(0, .ref (E.2.2.2 + 63)), (1, .ref (E.2.2.2 + 17))]) (by decide) rfl rfl rfl (Nat.le_of_ble_eq_true rfl) rfl ?_
  refine jy_aload_n dX5_init_0 rfl ?_
  refine jy_obj dX5_init_1 ol_X5_3 (by decide) (by decide) ?_
  refine jy_aload_n dX5_init_4 rfl ?_
  refine jy_aload_n dX5_init_5 rfl ?_
  refine jy_putF (ci := 5) (j := 0) (a := 63) (i := 0) (xs1 := (63, [.ref (E.2.2.2 + 17), .null, .null, .null]) :: (0, V) :: []) dX5_init_6 ff_X5_9 rfl (jgk_o kd_63) (Nat.lt_of_succ_le (Nat.le_of_ble_eq_true rfl)) rfl rfl rfl ?_
  refine jy_aload_n dX5_init_9 rfl ?_
  refine jy_aload_n dX5_init_10 rfl ?_
  refine jy_getF (ci := 9) (j := 0) (a := 17) (v := .ref (E.2.2.2 + 18)) dX5_init_11 fl_X5_15 (by simp) (by omega) (by decide) (jgk_o kd_17) (by rw [jgF_o kd_17]; show jgv _ (jgo 17 0) = _; rw [show jgo 17 0 = (some 18, 0) by decide +kernel]; rfl) ?_
  refine jy_putF (ci := 5) (j := 1) (a := 63) (i := 0) (xs1 := (63, [.ref (E.2.2.2 + 17), .ref (E.2.2.2 + 18), .null, .null]) :: (0, V) :: []) dX5_init_14 ff_X5_21 rfl (jgk_o kd_63) (Nat.lt_of_succ_le (Nat.le_of_ble_eq_true rfl)) rfl rfl rfl ?_
  refine jy_aload_n dX5_init_17 rfl ?_
  refine jy_new (ci := 8) (V := [.null, .int 0]) dX5_init_18 rfl cl_X5_22 ni_8 nd_8 (jgk_r kd_64 (by decide)) (hv_of rfl) ?_
  refine jy_dup dX5_init_21 rfl ?_
  refine jy_bipush (v := nI 40) dX5_init_22 (by decide) ?_
  refine jy_ctor (a := 64) (As := [.int (nI 40)]) (rest := [.ref (E.2.2.2 + 64), .ref (E.2.2.2 + 63)]) (m1 := 66) (z1 := 2993) (xs1 := (63, [.ref (E.2.2.2 + 17), .ref (E.2.2.2 + 18), .null, .null]) :: (0, V) :: []) dX5_init_24 ml_X5_24 mi_X8 (i_X8 (n := 40) (z := 2953) kd_64 (by decide) (by decide +kernel) (by decide) (by decide)) rfl rfl (by decide) (Nat.le_of_ble_eq_true rfl) ?_
  refine jy_putF (ci := 5) (j := 2) (a := 63) (i := 0) (xs1 := (63, [.ref (E.2.2.2 + 17), .ref (E.2.2.2 + 18), .ref (E.2.2.2 + 64), .null]) :: (0, V) :: []) dX5_init_27 ff_X5_27 rfl (jgk_o kd_63) (Nat.lt_of_succ_le (Nat.le_of_ble_eq_true rfl)) rfl rfl rfl ?_
  refine jy_aload_n dX5_init_30 rfl ?_
  refine jy_new (ci := 8) (V := [.null, .int 0]) dX5_init_31 rfl cl_X5_22 ni_8 nd_8 (jgk_r kd_66 (by decide)) (hv_of rfl) ?_
  refine jy_dup dX5_init_34 rfl ?_
  refine jy_bipush (v := nI 16) dX5_init_35 (by decide) ?_
  refine jy_ctor (a := 66) (As := [.int (nI 16)]) (rest := [.ref (E.2.2.2 + 66), .ref (E.2.2.2 + 63)]) (m1 := 68) (z1 := 3011) (xs1 := (63, [.ref (E.2.2.2 + 17), .ref (E.2.2.2 + 18), .ref (E.2.2.2 + 64), .null]) :: (0, V) :: []) dX5_init_37 ml_X5_24 mi_X8 (i_X8 (n := 16) (z := 2995) kd_66 (by decide) (by decide +kernel) (by decide) (by decide)) rfl rfl (by decide) (Nat.le_of_ble_eq_true rfl) ?_
  refine jy_putF (ci := 5) (j := 3) (a := 63) (i := 0) (xs1 := (63, [.ref (E.2.2.2 + 17), .ref (E.2.2.2 + 18), .ref (E.2.2.2 + 64), .ref (E.2.2.2 + 66)]) :: (0, V) :: []) dX5_init_40 ff_X5_31 rfl (jgk_o kd_63) (Nat.lt_of_succ_le (Nat.le_of_ble_eq_true rfl)) rfl rfl rfl ?_
  refine jy_pop kd_63 rfl (os := [(some 17, 0), (some 18, 0), (some 64, 0), (some 66, 0)]) (by decide +kernel) rfl ?_
  exact jy_ret dX5_init_43 (fun H h => h)
set_option maxRecDepth 20000 in
theorem i_X6_70 {E : jE} {b : Nat} {H0 : Heap} {xs : jxs} : jD E m_X6_init 2 [.ref (E.2.2.2 + 70)] b H0 71 3028 ((70, [.null, .null, .null, .null, .null, .null, .null, .null, .int 0]) :: xs) 87 3204 (jraw E b H0 87 (xs)) := by
  refine jD_of (ls := [(0, .ref (E.2.2.2 + 70))]) (by decide) rfl rfl rfl (Nat.le_of_ble_eq_true rfl) rfl ?_
  refine jy_aload_n dX6_init_0 rfl ?_
  refine jy_obj dX6_init_1 ol_X6_3 (by decide) (by decide) ?_
  refine jy_aload_n dX6_init_4 rfl ?_
  refine jy_new (ci := 8) (V := [.null, .int 0]) dX6_init_5 rfl cl_X6_9 ni_8 nd_8 (jgk_r kd_71 (by decide)) (hv_of rfl) ?_
  refine jy_dup dX6_init_8 rfl ?_
  refine jy_bipush (v := nI 8) dX6_init_9 (by decide) ?_
  refine jy_ctor (a := 71) (As := [.int (nI 8)]) (rest := [.ref (E.2.2.2 + 71), .ref (E.2.2.2 + 70)]) (m1 := 73) (z1 := 3038) (xs1 := (70, [.null, .null, .null, .null, .null, .null, .null, .null, .int 0]) :: xs) dX6_init_11 ml_X6_11 mi_X8 (i_X8 (n := 8) (z := 3030) kd_71 (by decide) (by decide +kernel) (by decide) (by decide)) rfl rfl (by decide) (Nat.le_of_ble_eq_true rfl) ?_
  refine jy_putF (ci := 6) (j := 0) (a := 70) (i := 0) (xs1 := (70, [.ref (E.2.2.2 + 71), .null, .null, .null, .null, .null, .null, .null, .int 0]) :: xs) dX6_init_14 ff_X6_14 rfl (jgk_o kd_70) (Nat.lt_of_succ_le (Nat.le_of_ble_eq_true rfl)) rfl rfl rfl ?_
  refine jy_aload_n dX6_init_17 rfl ?_
  refine jy_new (ci := 8) (V := [.null, .int 0]) dX6_init_18 rfl cl_X6_9 ni_8 nd_8 (jgk_r kd_73 (by decide)) (hv_of rfl) ?_
  refine jy_dup dX6_init_21 rfl ?_
  refine jy_bipush (v := nI 8) dX6_init_22 (by decide) ?_
  refine jy_ctor (a := 73) (As := [.int (nI 8)]) (rest := [.ref (E.2.2.2 + 73), .ref (E.2.2.2 + 70)]) (m1 := 75) (z1 := 3048) (xs1 := (70, [.ref (E.2.2.2 + 71), .null, .null, .null, .null, .null, .null, .null, .int 0]) :: xs) dX6_init_24 ml_X6_11 mi_X8 (i_X8 (n := 8) (z := 3040) kd_73 (by decide) (by decide +kernel) (by decide) (by decide)) rfl rfl (by decide) (Nat.le_of_ble_eq_true rfl) ?_
  refine jy_putF (ci := 6) (j := 1) (a := 70) (i := 0) (xs1 := (70, [.ref (E.2.2.2 + 71), .ref (E.2.2.2 + 73), .null, .null, .null, .null, .null, .null, .int 0]) :: xs) dX6_init_27 ff_X6_20 rfl (jgk_o kd_70) (Nat.lt_of_succ_le (Nat.le_of_ble_eq_true rfl)) rfl rfl rfl ?_
  refine jy_aload_n dX6_init_30 rfl ?_
  refine jy_new (ci := 8) (V := [.null, .int 0]) dX6_init_31 rfl cl_X6_9 ni_8 nd_8 (jgk_r kd_75 (by decide)) (hv_of rfl) ?_
  refine jy_dup dX6_init_34 rfl ?_
  refine jy_bipush (v := nI 8) dX6_init_35 (by decide) ?_
  refine jy_ctor (a := 75) (As := [.int (nI 8)]) (rest := [.ref (E.2.2.2 + 75), .ref (E.2.2.2 + 70)]) (m1 := 77) (z1 := 3058) (xs1 := (70, [.ref (E.2.2.2 + 71), .ref (E.2.2.2 + 73), .null, .null, .null, .null, .null, .null, .int 0]) :: xs) dX6_init_37 ml_X6_11 mi_X8 (i_X8 (n := 8) (z := 3050) kd_75 (by decide) (by decide +kernel) (by decide) (by decide)) rfl rfl (by decide) (Nat.le_of_ble_eq_true rfl) ?_
  refine jy_putF (ci := 6) (j := 2) (a := 70) (i := 0) (xs1 := (70, [.ref (E.2.2.2 + 71), .ref (E.2.2.2 + 73), .ref (E.2.2.2 + 75), .null, .null, .null, .null, .null, .int 0]) :: xs) dX6_init_40 ff_X6_23 rfl (jgk_o kd_70) (Nat.lt_of_succ_le (Nat.le_of_ble_eq_true rfl)) rfl rfl rfl ?_
  refine jy_aload_n dX6_init_43 rfl ?_
  refine jy_new (ci := 8) (V := [.null, .int 0]) dX6_init_44 rfl cl_X6_9 ni_8 nd_8 (jgk_r kd_77 (by decide)) (hv_of rfl) ?_
  refine jy_dup dX6_init_47 rfl ?_
  refine jy_bipush (v := nI 8) dX6_init_48 (by decide) ?_
  refine jy_ctor (a := 77) (As := [.int (nI 8)]) (rest := [.ref (E.2.2.2 + 77), .ref (E.2.2.2 + 70)]) (m1 := 79) (z1 := 3068) (xs1 := (70, [.ref (E.2.2.2 + 71), .ref (E.2.2.2 + 73), .ref (E.2.2.2 + 75), .null, .null, .null, .null, .null, .int 0]) :: xs) dX6_init_50 ml_X6_11 mi_X8 (i_X8 (n := 8) (z := 3060) kd_77 (by decide) (by decide +kernel) (by decide) (by decide)) rfl rfl (by decide) (Nat.le_of_ble_eq_true rfl) ?_
  refine jy_putF (ci := 6) (j := 3) (a := 70) (i := 0) (xs1 := (70, [.ref (E.2.2.2 + 71), .ref (E.2.2.2 + 73), .ref (E.2.2.2 + 75), .ref (E.2.2.2 + 77), .null, .null, .null, .null, .int 0]) :: xs) dX6_init_53 ff_X6_26 rfl (jgk_o kd_70) (Nat.lt_of_succ_le (Nat.le_of_ble_eq_true rfl)) rfl rfl rfl ?_
  refine jy_aload_n dX6_init_56 rfl ?_
  refine jy_new (ci := 8) (V := [.null, .int 0]) dX6_init_57 rfl cl_X6_9 ni_8 nd_8 (jgk_r kd_79 (by decide)) (hv_of rfl) ?_
  refine jy_dup dX6_init_60 rfl ?_
  refine jy_bipush (v := nI 32) dX6_init_61 (by decide) ?_
  refine jy_ctor (a := 79) (As := [.int (nI 32)]) (rest := [.ref (E.2.2.2 + 79), .ref (E.2.2.2 + 70)]) (m1 := 81) (z1 := 3102) (xs1 := (70, [.ref (E.2.2.2 + 71), .ref (E.2.2.2 + 73), .ref (E.2.2.2 + 75), .ref (E.2.2.2 + 77), .null, .null, .null, .null, .int 0]) :: xs) dX6_init_63 ml_X6_11 mi_X8 (i_X8 (n := 32) (z := 3070) kd_79 (by decide) (by decide +kernel) (by decide) (by decide)) rfl rfl (by decide) (Nat.le_of_ble_eq_true rfl) ?_
  refine jy_putF (ci := 6) (j := 4) (a := 70) (i := 0) (xs1 := (70, [.ref (E.2.2.2 + 71), .ref (E.2.2.2 + 73), .ref (E.2.2.2 + 75), .ref (E.2.2.2 + 77), .ref (E.2.2.2 + 79), .null, .null, .null, .int 0]) :: xs) dX6_init_66 ff_X6_29 rfl (jgk_o kd_70) (Nat.lt_of_succ_le (Nat.le_of_ble_eq_true rfl)) rfl rfl rfl ?_
  refine jy_aload_n dX6_init_69 rfl ?_
  refine jy_new (ci := 8) (V := [.null, .int 0]) dX6_init_70 rfl cl_X6_9 ni_8 nd_8 (jgk_r kd_81 (by decide)) (hv_of rfl) ?_
  refine jy_dup dX6_init_73 rfl ?_
  refine jy_bipush (v := nI 32) dX6_init_74 (by decide) ?_
  refine jy_ctor (a := 81) (As := [.int (nI 32)]) (rest := [.ref (E.2.2.2 + 81), .ref (E.2.2.2 + 70)]) (m1 := 83) (z1 := 3136) (xs1 := (70, [.ref (E.2.2.2 + 71), .ref (E.2.2.2 + 73), .ref (E.2.2.2 + 75), .ref (E.2.2.2 + 77), .ref (E.2.2.2 + 79), .null, .null, .null, .int 0]) :: xs) dX6_init_76 ml_X6_11 mi_X8 (i_X8 (n := 32) (z := 3104) kd_81 (by decide) (by decide +kernel) (by decide) (by decide)) rfl rfl (by decide) (Nat.le_of_ble_eq_true rfl) ?_
  refine jy_putF (ci := 6) (j := 5) (a := 70) (i := 0) (xs1 := (70, [.ref (E.2.2.2 + 71), .ref (E.2.2.2 + 73), .ref (E.2.2.2 + 75), .ref (E.2.2.2 + 77), .ref (E.2.2.2 + 79), .ref (E.2.2.2 + 81), .null, .null, .int 0]) :: xs) dX6_init_79 ff_X6_32 rfl (jgk_o kd_70) (Nat.lt_of_succ_le (Nat.le_of_ble_eq_true rfl)) rfl rfl rfl ?_
  refine jy_aload_n dX6_init_82 rfl ?_
  refine jy_new (ci := 8) (V := [.null, .int 0]) dX6_init_83 rfl cl_X6_9 ni_8 nd_8 (jgk_r kd_83 (by decide)) (hv_of rfl) ?_
  refine jy_dup dX6_init_86 rfl ?_
  refine jy_bipush (v := nI 32) dX6_init_87 (by decide) ?_
  refine jy_ctor (a := 83) (As := [.int (nI 32)]) (rest := [.ref (E.2.2.2 + 83), .ref (E.2.2.2 + 70)]) (m1 := 85) (z1 := 3170) (xs1 := (70, [.ref (E.2.2.2 + 71), .ref (E.2.2.2 + 73), .ref (E.2.2.2 + 75), .ref (E.2.2.2 + 77), .ref (E.2.2.2 + 79), .ref (E.2.2.2 + 81), .null, .null, .int 0]) :: xs) dX6_init_89 ml_X6_11 mi_X8 (i_X8 (n := 32) (z := 3138) kd_83 (by decide) (by decide +kernel) (by decide) (by decide)) rfl rfl (by decide) (Nat.le_of_ble_eq_true rfl) ?_
  refine jy_putF (ci := 6) (j := 6) (a := 70) (i := 0) (xs1 := (70, [.ref (E.2.2.2 + 71), .ref (E.2.2.2 + 73), .ref (E.2.2.2 + 75), .ref (E.2.2.2 + 77), .ref (E.2.2.2 + 79), .ref (E.2.2.2 + 81), .ref (E.2.2.2 + 83), .null, .int 0]) :: xs) dX6_init_92 ff_X6_35 rfl (jgk_o kd_70) (Nat.lt_of_succ_le (Nat.le_of_ble_eq_true rfl)) rfl rfl rfl ?_
  refine jy_aload_n dX6_init_95 rfl ?_
  refine jy_new (ci := 8) (V := [.null, .int 0]) dX6_init_96 rfl cl_X6_9 ni_8 nd_8 (jgk_r kd_85 (by decide)) (hv_of rfl) ?_
  refine jy_dup dX6_init_99 rfl ?_
  refine jy_bipush (v := nI 32) dX6_init_100 (by decide) ?_
  refine jy_ctor (a := 85) (As := [.int (nI 32)]) (rest := [.ref (E.2.2.2 + 85), .ref (E.2.2.2 + 70)]) (m1 := 87) (z1 := 3204) (xs1 := (70, [.ref (E.2.2.2 + 71), .ref (E.2.2.2 + 73), .ref (E.2.2.2 + 75), .ref (E.2.2.2 + 77), .ref (E.2.2.2 + 79), .ref (E.2.2.2 + 81), .ref (E.2.2.2 + 83), .null, .int 0]) :: xs) dX6_init_102 ml_X6_11 mi_X8 (i_X8 (n := 32) (z := 3172) kd_85 (by decide) (by decide +kernel) (by decide) (by decide)) rfl rfl (by decide) (Nat.le_of_ble_eq_true rfl) ?_
  refine jy_putF (ci := 6) (j := 7) (a := 70) (i := 0) (xs1 := (70, [.ref (E.2.2.2 + 71), .ref (E.2.2.2 + 73), .ref (E.2.2.2 + 75), .ref (E.2.2.2 + 77), .ref (E.2.2.2 + 79), .ref (E.2.2.2 + 81), .ref (E.2.2.2 + 83), .ref (E.2.2.2 + 85), .int 0]) :: xs) dX6_init_105 ff_X6_38 rfl (jgk_o kd_70) (Nat.lt_of_succ_le (Nat.le_of_ble_eq_true rfl)) rfl rfl rfl ?_
  refine jy_aload_n dX6_init_108 rfl ?_
  refine jy_bipush (v := nI 8) dX6_init_109 (by decide) ?_
  refine jy_put (ci := 6) (j := 8) (a := 70) (i := 0) (xs1 := (70, [.ref (E.2.2.2 + 71), .ref (E.2.2.2 + 73), .ref (E.2.2.2 + 75), .ref (E.2.2.2 + 77), .ref (E.2.2.2 + 79), .ref (E.2.2.2 + 81), .ref (E.2.2.2 + 83), .ref (E.2.2.2 + 85), .int (nI 8)]) :: xs) dX6_init_111 fp_X6_41 rfl (jgk_o kd_70) (Nat.lt_of_succ_le (Nat.le_of_ble_eq_true rfl)) rfl rfl rfl ?_
  refine jy_pop kd_70 rfl (os := [(some 71, 0), (some 73, 0), (some 75, 0), (some 77, 0), (some 79, 0), (some 81, 0), (some 83, 0), (some 85, 0), (none, 8)]) (by decide +kernel) rfl ?_
  exact jy_ret dX6_init_114 (fun H h => h)
set_option maxRecDepth 20000 in
theorem i_X2_87 {E : jE} {b : Nat} {H0 : Heap} {xs : jxs} : jD E m_X2_init 2 [.ref (E.2.2.2 + 87)] b H0 88 3209 ((87, [.null, .null, .null, .null, .int 0]) :: xs) 96 3281 (jraw E b H0 96 (xs)) := by
  refine jD_of (ls := [(0, .ref (E.2.2.2 + 87))]) (by decide) rfl rfl rfl (Nat.le_of_ble_eq_true rfl) rfl ?_
  refine jy_aload_n dX2_init_0 rfl ?_
  refine jy_obj dX2_init_1 ol_X2_3 (by decide) (by decide) ?_
  refine jy_aload_n dX2_init_4 rfl ?_
  refine jy_new (ci := 8) (V := [.null, .int 0]) dX2_init_5 rfl cl_X2_9 ni_8 nd_8 (jgk_r kd_88 (by decide)) (hv_of rfl) ?_
  refine jy_dup dX2_init_8 rfl ?_
  refine jy_bipush (v := nI 16) dX2_init_9 (by decide) ?_
  refine jy_ctor (a := 88) (As := [.int (nI 16)]) (rest := [.ref (E.2.2.2 + 88), .ref (E.2.2.2 + 87)]) (m1 := 90) (z1 := 3227) (xs1 := (87, [.null, .null, .null, .null, .int 0]) :: xs) dX2_init_11 ml_X2_11 mi_X8 (i_X8 (n := 16) (z := 3211) kd_88 (by decide) (by decide +kernel) (by decide) (by decide)) rfl rfl (by decide) (Nat.le_of_ble_eq_true rfl) ?_
  refine jy_putF (ci := 2) (j := 0) (a := 87) (i := 0) (xs1 := (87, [.ref (E.2.2.2 + 88), .null, .null, .null, .int 0]) :: xs) dX2_init_14 ff_X2_14 rfl (jgk_o kd_87) (Nat.lt_of_succ_le (Nat.le_of_ble_eq_true rfl)) rfl rfl rfl ?_
  refine jy_aload_n dX2_init_17 rfl ?_
  refine jy_new (ci := 8) (V := [.null, .int 0]) dX2_init_18 rfl cl_X2_9 ni_8 nd_8 (jgk_r kd_90 (by decide)) (hv_of rfl) ?_
  refine jy_dup dX2_init_21 rfl ?_
  refine jy_bipush (v := nI 16) dX2_init_22 (by decide) ?_
  refine jy_ctor (a := 90) (As := [.int (nI 16)]) (rest := [.ref (E.2.2.2 + 90), .ref (E.2.2.2 + 87)]) (m1 := 92) (z1 := 3245) (xs1 := (87, [.ref (E.2.2.2 + 88), .null, .null, .null, .int 0]) :: xs) dX2_init_24 ml_X2_11 mi_X8 (i_X8 (n := 16) (z := 3229) kd_90 (by decide) (by decide +kernel) (by decide) (by decide)) rfl rfl (by decide) (Nat.le_of_ble_eq_true rfl) ?_
  refine jy_putF (ci := 2) (j := 1) (a := 87) (i := 0) (xs1 := (87, [.ref (E.2.2.2 + 88), .ref (E.2.2.2 + 90), .null, .null, .int 0]) :: xs) dX2_init_27 ff_X2_20 rfl (jgk_o kd_87) (Nat.lt_of_succ_le (Nat.le_of_ble_eq_true rfl)) rfl rfl rfl ?_
  refine jy_aload_n dX2_init_30 rfl ?_
  refine jy_new (ci := 8) (V := [.null, .int 0]) dX2_init_31 rfl cl_X2_9 ni_8 nd_8 (jgk_r kd_92 (by decide)) (hv_of rfl) ?_
  refine jy_dup dX2_init_34 rfl ?_
  refine jy_bipush (v := nI 16) dX2_init_35 (by decide) ?_
  refine jy_ctor (a := 92) (As := [.int (nI 16)]) (rest := [.ref (E.2.2.2 + 92), .ref (E.2.2.2 + 87)]) (m1 := 94) (z1 := 3263) (xs1 := (87, [.ref (E.2.2.2 + 88), .ref (E.2.2.2 + 90), .null, .null, .int 0]) :: xs) dX2_init_37 ml_X2_11 mi_X8 (i_X8 (n := 16) (z := 3247) kd_92 (by decide) (by decide +kernel) (by decide) (by decide)) rfl rfl (by decide) (Nat.le_of_ble_eq_true rfl) ?_
  refine jy_putF (ci := 2) (j := 2) (a := 87) (i := 0) (xs1 := (87, [.ref (E.2.2.2 + 88), .ref (E.2.2.2 + 90), .ref (E.2.2.2 + 92), .null, .int 0]) :: xs) dX2_init_40 ff_X2_23 rfl (jgk_o kd_87) (Nat.lt_of_succ_le (Nat.le_of_ble_eq_true rfl)) rfl rfl rfl ?_
  refine jy_aload_n dX2_init_43 rfl ?_
  refine jy_new (ci := 8) (V := [.null, .int 0]) dX2_init_44 rfl cl_X2_9 ni_8 nd_8 (jgk_r kd_94 (by decide)) (hv_of rfl) ?_
  refine jy_dup dX2_init_47 rfl ?_
  refine jy_bipush (v := nI 16) dX2_init_48 (by decide) ?_
  refine jy_ctor (a := 94) (As := [.int (nI 16)]) (rest := [.ref (E.2.2.2 + 94), .ref (E.2.2.2 + 87)]) (m1 := 96) (z1 := 3281) (xs1 := (87, [.ref (E.2.2.2 + 88), .ref (E.2.2.2 + 90), .ref (E.2.2.2 + 92), .null, .int 0]) :: xs) dX2_init_50 ml_X2_11 mi_X8 (i_X8 (n := 16) (z := 3265) kd_94 (by decide) (by decide +kernel) (by decide) (by decide)) rfl rfl (by decide) (Nat.le_of_ble_eq_true rfl) ?_
  refine jy_putF (ci := 2) (j := 3) (a := 87) (i := 0) (xs1 := (87, [.ref (E.2.2.2 + 88), .ref (E.2.2.2 + 90), .ref (E.2.2.2 + 92), .ref (E.2.2.2 + 94), .int 0]) :: xs) dX2_init_53 ff_X2_26 rfl (jgk_o kd_87) (Nat.lt_of_succ_le (Nat.le_of_ble_eq_true rfl)) rfl rfl rfl ?_
  refine jy_aload_n dX2_init_56 rfl ?_
  refine jy_iconst (v := nI 0) dX2_init_57 (by decide) ?_
  refine jy_put (ci := 2) (j := 4) (a := 87) (i := 0) (xs1 := (87, [.ref (E.2.2.2 + 88), .ref (E.2.2.2 + 90), .ref (E.2.2.2 + 92), .ref (E.2.2.2 + 94), .int (nI 0)]) :: xs) dX2_init_58 fp_X2_29 rfl (jgk_o kd_87) (Nat.lt_of_succ_le (Nat.le_of_ble_eq_true rfl)) rfl rfl rfl ?_
  refine jy_pop kd_87 rfl (os := [(some 88, 0), (some 90, 0), (some 92, 0), (some 94, 0), (none, 0)]) (by decide +kernel) rfl ?_
  exact jy_ret dX2_init_61 (fun H h => h)
set_option maxRecDepth 20000 in
theorem i_X9_69 {E : jE} {b : Nat} {H0 : Heap} {xs : jxs} : jD E m_X9_init 3 [.ref (E.2.2.2 + 69)] b H0 70 3019 ((69, [.null, .null, .null, .null, .int 0]) :: xs) 100 3301 (jraw E b H0 100 (xs)) := by
  refine jD_of (ls := [(0, .ref (E.2.2.2 + 69))]) (by decide) rfl rfl rfl (Nat.le_of_ble_eq_true rfl) rfl ?_
  refine jy_aload_n dX9_init_0 rfl ?_
  refine jy_obj dX9_init_1 ol_X9_3 (by decide) (by decide) ?_
  refine jy_aload_n dX9_init_4 rfl ?_
  refine jy_new (ci := 6) (V := [.null, .null, .null, .null, .null, .null, .null, .null, .int 0]) dX9_init_5 rfl cl_X9_9 ni_6 nd_6 (jgk_o kd_70) (hv_of rfl) ?_
  refine jy_dup dX9_init_8 rfl ?_
  refine jy_ctor (a := 70) (As := []) (rest := [.ref (E.2.2.2 + 70), .ref (E.2.2.2 + 69)]) (m1 := 87) (z1 := 3204) (xs1 := (69, [.null, .null, .null, .null, .int 0]) :: xs) dX9_init_9 ml_X9_11 mi_X6 (i_X6_70) rfl rfl (by decide) (Nat.le_of_ble_eq_true rfl) ?_
  refine jy_putF (ci := 9) (j := 0) (a := 69) (i := 0) (xs1 := (69, [.ref (E.2.2.2 + 70), .null, .null, .null, .int 0]) :: xs) dX9_init_12 ff_X9_12 rfl (jgk_o kd_69) (Nat.lt_of_succ_le (Nat.le_of_ble_eq_true rfl)) rfl rfl rfl ?_
  refine jy_aload_n dX9_init_15 rfl ?_
  refine jy_new (ci := 2) (V := [.null, .null, .null, .null, .int 0]) dX9_init_16 rfl cl_X9_18 ni_2 nd_2 (jgk_o kd_87) (hv_of rfl) ?_
  refine jy_dup dX9_init_19 rfl ?_
  refine jy_ctor (a := 87) (As := []) (rest := [.ref (E.2.2.2 + 87), .ref (E.2.2.2 + 69)]) (m1 := 96) (z1 := 3281) (xs1 := (69, [.ref (E.2.2.2 + 70), .null, .null, .null, .int 0]) :: xs) dX9_init_20 ml_X9_20 mi_X2 (i_X2_87) rfl rfl (by decide) (Nat.le_of_ble_eq_true rfl) ?_
  refine jy_putF (ci := 9) (j := 1) (a := 69) (i := 0) (xs1 := (69, [.ref (E.2.2.2 + 70), .ref (E.2.2.2 + 87), .null, .null, .int 0]) :: xs) dX9_init_23 ff_X9_21 rfl (jgk_o kd_69) (Nat.lt_of_succ_le (Nat.le_of_ble_eq_true rfl)) rfl rfl rfl ?_
  refine jy_aload_n dX9_init_26 rfl ?_
  refine jy_new (ci := 8) (V := [.null, .int 0]) dX9_init_27 rfl cl_X9_25 ni_8 nd_8 (jgk_r kd_96 (by decide)) (hv_of rfl) ?_
  refine jy_dup dX9_init_30 rfl ?_
  refine jy_bipush (v := nI 8) dX9_init_31 (by decide) ?_
  refine jy_ctor (a := 96) (As := [.int (nI 8)]) (rest := [.ref (E.2.2.2 + 96), .ref (E.2.2.2 + 69)]) (m1 := 98) (z1 := 3291) (xs1 := (69, [.ref (E.2.2.2 + 70), .ref (E.2.2.2 + 87), .null, .null, .int 0]) :: xs) dX9_init_33 ml_X9_27 mi_X8 (i_X8 (n := 8) (z := 3283) kd_96 (by decide) (by decide +kernel) (by decide) (by decide)) rfl rfl (by decide) (Nat.le_of_ble_eq_true rfl) ?_
  refine jy_putF (ci := 9) (j := 2) (a := 69) (i := 0) (xs1 := (69, [.ref (E.2.2.2 + 70), .ref (E.2.2.2 + 87), .ref (E.2.2.2 + 96), .null, .int 0]) :: xs) dX9_init_36 ff_X9_30 rfl (jgk_o kd_69) (Nat.lt_of_succ_le (Nat.le_of_ble_eq_true rfl)) rfl rfl rfl ?_
  refine jy_aload_n dX9_init_39 rfl ?_
  refine jy_new (ci := 8) (V := [.null, .int 0]) dX9_init_40 rfl cl_X9_25 ni_8 nd_8 (jgk_r kd_98 (by decide)) (hv_of rfl) ?_
  refine jy_dup dX9_init_43 rfl ?_
  refine jy_bipush (v := nI 8) dX9_init_44 (by decide) ?_
  refine jy_ctor (a := 98) (As := [.int (nI 8)]) (rest := [.ref (E.2.2.2 + 98), .ref (E.2.2.2 + 69)]) (m1 := 100) (z1 := 3301) (xs1 := (69, [.ref (E.2.2.2 + 70), .ref (E.2.2.2 + 87), .ref (E.2.2.2 + 96), .null, .int 0]) :: xs) dX9_init_46 ml_X9_27 mi_X8 (i_X8 (n := 8) (z := 3293) kd_98 (by decide) (by decide +kernel) (by decide) (by decide)) rfl rfl (by decide) (Nat.le_of_ble_eq_true rfl) ?_
  refine jy_putF (ci := 9) (j := 3) (a := 69) (i := 0) (xs1 := (69, [.ref (E.2.2.2 + 70), .ref (E.2.2.2 + 87), .ref (E.2.2.2 + 96), .ref (E.2.2.2 + 98), .int 0]) :: xs) dX9_init_49 ff_X9_34 rfl (jgk_o kd_69) (Nat.lt_of_succ_le (Nat.le_of_ble_eq_true rfl)) rfl rfl rfl ?_
  refine jy_aload_n dX9_init_52 rfl ?_
  refine jy_iconst (v := nI 0) dX9_init_53 (by decide) ?_
  refine jy_put (ci := 9) (j := 4) (a := 69) (i := 0) (xs1 := (69, [.ref (E.2.2.2 + 70), .ref (E.2.2.2 + 87), .ref (E.2.2.2 + 96), .ref (E.2.2.2 + 98), .int (nI 0)]) :: xs) dX9_init_54 fp_X9_37 rfl (jgk_o kd_69) (Nat.lt_of_succ_le (Nat.le_of_ble_eq_true rfl)) rfl rfl rfl ?_
  refine jy_pop kd_69 rfl (os := [(some 70, 0), (some 87, 0), (some 96, 0), (some 98, 0), (none, 0)]) (by decide +kernel) rfl ?_
  exact jy_ret dX9_init_57 (fun H h => h)
set_option maxRecDepth 20000 in
theorem i_X6_101 {E : jE} {b : Nat} {H0 : Heap} {xs : jxs} : jD E m_X6_init 2 [.ref (E.2.2.2 + 101)] b H0 102 3315 ((101, [.null, .null, .null, .null, .null, .null, .null, .null, .int 0]) :: xs) 118 3491 (jraw E b H0 118 (xs)) := by
  refine jD_of (ls := [(0, .ref (E.2.2.2 + 101))]) (by decide) rfl rfl rfl (Nat.le_of_ble_eq_true rfl) rfl ?_
  refine jy_aload_n dX6_init_0 rfl ?_
  refine jy_obj dX6_init_1 ol_X6_3 (by decide) (by decide) ?_
  refine jy_aload_n dX6_init_4 rfl ?_
  refine jy_new (ci := 8) (V := [.null, .int 0]) dX6_init_5 rfl cl_X6_9 ni_8 nd_8 (jgk_r kd_102 (by decide)) (hv_of rfl) ?_
  refine jy_dup dX6_init_8 rfl ?_
  refine jy_bipush (v := nI 8) dX6_init_9 (by decide) ?_
  refine jy_ctor (a := 102) (As := [.int (nI 8)]) (rest := [.ref (E.2.2.2 + 102), .ref (E.2.2.2 + 101)]) (m1 := 104) (z1 := 3325) (xs1 := (101, [.null, .null, .null, .null, .null, .null, .null, .null, .int 0]) :: xs) dX6_init_11 ml_X6_11 mi_X8 (i_X8 (n := 8) (z := 3317) kd_102 (by decide) (by decide +kernel) (by decide) (by decide)) rfl rfl (by decide) (Nat.le_of_ble_eq_true rfl) ?_
  refine jy_putF (ci := 6) (j := 0) (a := 101) (i := 0) (xs1 := (101, [.ref (E.2.2.2 + 102), .null, .null, .null, .null, .null, .null, .null, .int 0]) :: xs) dX6_init_14 ff_X6_14 rfl (jgk_o kd_101) (Nat.lt_of_succ_le (Nat.le_of_ble_eq_true rfl)) rfl rfl rfl ?_
  refine jy_aload_n dX6_init_17 rfl ?_
  refine jy_new (ci := 8) (V := [.null, .int 0]) dX6_init_18 rfl cl_X6_9 ni_8 nd_8 (jgk_r kd_104 (by decide)) (hv_of rfl) ?_
  refine jy_dup dX6_init_21 rfl ?_
  refine jy_bipush (v := nI 8) dX6_init_22 (by decide) ?_
  refine jy_ctor (a := 104) (As := [.int (nI 8)]) (rest := [.ref (E.2.2.2 + 104), .ref (E.2.2.2 + 101)]) (m1 := 106) (z1 := 3335) (xs1 := (101, [.ref (E.2.2.2 + 102), .null, .null, .null, .null, .null, .null, .null, .int 0]) :: xs) dX6_init_24 ml_X6_11 mi_X8 (i_X8 (n := 8) (z := 3327) kd_104 (by decide) (by decide +kernel) (by decide) (by decide)) rfl rfl (by decide) (Nat.le_of_ble_eq_true rfl) ?_
  refine jy_putF (ci := 6) (j := 1) (a := 101) (i := 0) (xs1 := (101, [.ref (E.2.2.2 + 102), .ref (E.2.2.2 + 104), .null, .null, .null, .null, .null, .null, .int 0]) :: xs) dX6_init_27 ff_X6_20 rfl (jgk_o kd_101) (Nat.lt_of_succ_le (Nat.le_of_ble_eq_true rfl)) rfl rfl rfl ?_
  refine jy_aload_n dX6_init_30 rfl ?_
  refine jy_new (ci := 8) (V := [.null, .int 0]) dX6_init_31 rfl cl_X6_9 ni_8 nd_8 (jgk_r kd_106 (by decide)) (hv_of rfl) ?_
  refine jy_dup dX6_init_34 rfl ?_
  refine jy_bipush (v := nI 8) dX6_init_35 (by decide) ?_
  refine jy_ctor (a := 106) (As := [.int (nI 8)]) (rest := [.ref (E.2.2.2 + 106), .ref (E.2.2.2 + 101)]) (m1 := 108) (z1 := 3345) (xs1 := (101, [.ref (E.2.2.2 + 102), .ref (E.2.2.2 + 104), .null, .null, .null, .null, .null, .null, .int 0]) :: xs) dX6_init_37 ml_X6_11 mi_X8 (i_X8 (n := 8) (z := 3337) kd_106 (by decide) (by decide +kernel) (by decide) (by decide)) rfl rfl (by decide) (Nat.le_of_ble_eq_true rfl) ?_
  refine jy_putF (ci := 6) (j := 2) (a := 101) (i := 0) (xs1 := (101, [.ref (E.2.2.2 + 102), .ref (E.2.2.2 + 104), .ref (E.2.2.2 + 106), .null, .null, .null, .null, .null, .int 0]) :: xs) dX6_init_40 ff_X6_23 rfl (jgk_o kd_101) (Nat.lt_of_succ_le (Nat.le_of_ble_eq_true rfl)) rfl rfl rfl ?_
  refine jy_aload_n dX6_init_43 rfl ?_
  refine jy_new (ci := 8) (V := [.null, .int 0]) dX6_init_44 rfl cl_X6_9 ni_8 nd_8 (jgk_r kd_108 (by decide)) (hv_of rfl) ?_
  refine jy_dup dX6_init_47 rfl ?_
  refine jy_bipush (v := nI 8) dX6_init_48 (by decide) ?_
  refine jy_ctor (a := 108) (As := [.int (nI 8)]) (rest := [.ref (E.2.2.2 + 108), .ref (E.2.2.2 + 101)]) (m1 := 110) (z1 := 3355) (xs1 := (101, [.ref (E.2.2.2 + 102), .ref (E.2.2.2 + 104), .ref (E.2.2.2 + 106), .null, .null, .null, .null, .null, .int 0]) :: xs) dX6_init_50 ml_X6_11 mi_X8 (i_X8 (n := 8) (z := 3347) kd_108 (by decide) (by decide +kernel) (by decide) (by decide)) rfl rfl (by decide) (Nat.le_of_ble_eq_true rfl) ?_
  refine jy_putF (ci := 6) (j := 3) (a := 101) (i := 0) (xs1 := (101, [.ref (E.2.2.2 + 102), .ref (E.2.2.2 + 104), .ref (E.2.2.2 + 106), .ref (E.2.2.2 + 108), .null, .null, .null, .null, .int 0]) :: xs) dX6_init_53 ff_X6_26 rfl (jgk_o kd_101) (Nat.lt_of_succ_le (Nat.le_of_ble_eq_true rfl)) rfl rfl rfl ?_
  refine jy_aload_n dX6_init_56 rfl ?_
  refine jy_new (ci := 8) (V := [.null, .int 0]) dX6_init_57 rfl cl_X6_9 ni_8 nd_8 (jgk_r kd_110 (by decide)) (hv_of rfl) ?_
  refine jy_dup dX6_init_60 rfl ?_
  refine jy_bipush (v := nI 32) dX6_init_61 (by decide) ?_
  refine jy_ctor (a := 110) (As := [.int (nI 32)]) (rest := [.ref (E.2.2.2 + 110), .ref (E.2.2.2 + 101)]) (m1 := 112) (z1 := 3389) (xs1 := (101, [.ref (E.2.2.2 + 102), .ref (E.2.2.2 + 104), .ref (E.2.2.2 + 106), .ref (E.2.2.2 + 108), .null, .null, .null, .null, .int 0]) :: xs) dX6_init_63 ml_X6_11 mi_X8 (i_X8 (n := 32) (z := 3357) kd_110 (by decide) (by decide +kernel) (by decide) (by decide)) rfl rfl (by decide) (Nat.le_of_ble_eq_true rfl) ?_
  refine jy_putF (ci := 6) (j := 4) (a := 101) (i := 0) (xs1 := (101, [.ref (E.2.2.2 + 102), .ref (E.2.2.2 + 104), .ref (E.2.2.2 + 106), .ref (E.2.2.2 + 108), .ref (E.2.2.2 + 110), .null, .null, .null, .int 0]) :: xs) dX6_init_66 ff_X6_29 rfl (jgk_o kd_101) (Nat.lt_of_succ_le (Nat.le_of_ble_eq_true rfl)) rfl rfl rfl ?_
  refine jy_aload_n dX6_init_69 rfl ?_
  refine jy_new (ci := 8) (V := [.null, .int 0]) dX6_init_70 rfl cl_X6_9 ni_8 nd_8 (jgk_r kd_112 (by decide)) (hv_of rfl) ?_
  refine jy_dup dX6_init_73 rfl ?_
  refine jy_bipush (v := nI 32) dX6_init_74 (by decide) ?_
  refine jy_ctor (a := 112) (As := [.int (nI 32)]) (rest := [.ref (E.2.2.2 + 112), .ref (E.2.2.2 + 101)]) (m1 := 114) (z1 := 3423) (xs1 := (101, [.ref (E.2.2.2 + 102), .ref (E.2.2.2 + 104), .ref (E.2.2.2 + 106), .ref (E.2.2.2 + 108), .ref (E.2.2.2 + 110), .null, .null, .null, .int 0]) :: xs) dX6_init_76 ml_X6_11 mi_X8 (i_X8 (n := 32) (z := 3391) kd_112 (by decide) (by decide +kernel) (by decide) (by decide)) rfl rfl (by decide) (Nat.le_of_ble_eq_true rfl) ?_
  refine jy_putF (ci := 6) (j := 5) (a := 101) (i := 0) (xs1 := (101, [.ref (E.2.2.2 + 102), .ref (E.2.2.2 + 104), .ref (E.2.2.2 + 106), .ref (E.2.2.2 + 108), .ref (E.2.2.2 + 110), .ref (E.2.2.2 + 112), .null, .null, .int 0]) :: xs) dX6_init_79 ff_X6_32 rfl (jgk_o kd_101) (Nat.lt_of_succ_le (Nat.le_of_ble_eq_true rfl)) rfl rfl rfl ?_
  refine jy_aload_n dX6_init_82 rfl ?_
  refine jy_new (ci := 8) (V := [.null, .int 0]) dX6_init_83 rfl cl_X6_9 ni_8 nd_8 (jgk_r kd_114 (by decide)) (hv_of rfl) ?_
  refine jy_dup dX6_init_86 rfl ?_
  refine jy_bipush (v := nI 32) dX6_init_87 (by decide) ?_
  refine jy_ctor (a := 114) (As := [.int (nI 32)]) (rest := [.ref (E.2.2.2 + 114), .ref (E.2.2.2 + 101)]) (m1 := 116) (z1 := 3457) (xs1 := (101, [.ref (E.2.2.2 + 102), .ref (E.2.2.2 + 104), .ref (E.2.2.2 + 106), .ref (E.2.2.2 + 108), .ref (E.2.2.2 + 110), .ref (E.2.2.2 + 112), .null, .null, .int 0]) :: xs) dX6_init_89 ml_X6_11 mi_X8 (i_X8 (n := 32) (z := 3425) kd_114 (by decide) (by decide +kernel) (by decide) (by decide)) rfl rfl (by decide) (Nat.le_of_ble_eq_true rfl) ?_
  refine jy_putF (ci := 6) (j := 6) (a := 101) (i := 0) (xs1 := (101, [.ref (E.2.2.2 + 102), .ref (E.2.2.2 + 104), .ref (E.2.2.2 + 106), .ref (E.2.2.2 + 108), .ref (E.2.2.2 + 110), .ref (E.2.2.2 + 112), .ref (E.2.2.2 + 114), .null, .int 0]) :: xs) dX6_init_92 ff_X6_35 rfl (jgk_o kd_101) (Nat.lt_of_succ_le (Nat.le_of_ble_eq_true rfl)) rfl rfl rfl ?_
  refine jy_aload_n dX6_init_95 rfl ?_
  refine jy_new (ci := 8) (V := [.null, .int 0]) dX6_init_96 rfl cl_X6_9 ni_8 nd_8 (jgk_r kd_116 (by decide)) (hv_of rfl) ?_
  refine jy_dup dX6_init_99 rfl ?_
  refine jy_bipush (v := nI 32) dX6_init_100 (by decide) ?_
  refine jy_ctor (a := 116) (As := [.int (nI 32)]) (rest := [.ref (E.2.2.2 + 116), .ref (E.2.2.2 + 101)]) (m1 := 118) (z1 := 3491) (xs1 := (101, [.ref (E.2.2.2 + 102), .ref (E.2.2.2 + 104), .ref (E.2.2.2 + 106), .ref (E.2.2.2 + 108), .ref (E.2.2.2 + 110), .ref (E.2.2.2 + 112), .ref (E.2.2.2 + 114), .null, .int 0]) :: xs) dX6_init_102 ml_X6_11 mi_X8 (i_X8 (n := 32) (z := 3459) kd_116 (by decide) (by decide +kernel) (by decide) (by decide)) rfl rfl (by decide) (Nat.le_of_ble_eq_true rfl) ?_
  refine jy_putF (ci := 6) (j := 7) (a := 101) (i := 0) (xs1 := (101, [.ref (E.2.2.2 + 102), .ref (E.2.2.2 + 104), .ref (E.2.2.2 + 106), .ref (E.2.2.2 + 108), .ref (E.2.2.2 + 110), .ref (E.2.2.2 + 112), .ref (E.2.2.2 + 114), .ref (E.2.2.2 + 116), .int 0]) :: xs) dX6_init_105 ff_X6_38 rfl (jgk_o kd_101) (Nat.lt_of_succ_le (Nat.le_of_ble_eq_true rfl)) rfl rfl rfl ?_
  refine jy_aload_n dX6_init_108 rfl ?_
  refine jy_bipush (v := nI 8) dX6_init_109 (by decide) ?_
  refine jy_put (ci := 6) (j := 8) (a := 101) (i := 0) (xs1 := (101, [.ref (E.2.2.2 + 102), .ref (E.2.2.2 + 104), .ref (E.2.2.2 + 106), .ref (E.2.2.2 + 108), .ref (E.2.2.2 + 110), .ref (E.2.2.2 + 112), .ref (E.2.2.2 + 114), .ref (E.2.2.2 + 116), .int (nI 8)]) :: xs) dX6_init_111 fp_X6_41 rfl (jgk_o kd_101) (Nat.lt_of_succ_le (Nat.le_of_ble_eq_true rfl)) rfl rfl rfl ?_
  refine jy_pop kd_101 rfl (os := [(some 102, 0), (some 104, 0), (some 106, 0), (some 108, 0), (some 110, 0), (some 112, 0), (some 114, 0), (some 116, 0), (none, 8)]) (by decide +kernel) rfl ?_
  exact jy_ret dX6_init_114 (fun H h => h)
set_option maxRecDepth 20000 in
theorem i_X2_118 {E : jE} {b : Nat} {H0 : Heap} {xs : jxs} : jD E m_X2_init 2 [.ref (E.2.2.2 + 118)] b H0 119 3496 ((118, [.null, .null, .null, .null, .int 0]) :: xs) 127 3568 (jraw E b H0 127 (xs)) := by
  refine jD_of (ls := [(0, .ref (E.2.2.2 + 118))]) (by decide) rfl rfl rfl (Nat.le_of_ble_eq_true rfl) rfl ?_
  refine jy_aload_n dX2_init_0 rfl ?_
  refine jy_obj dX2_init_1 ol_X2_3 (by decide) (by decide) ?_
  refine jy_aload_n dX2_init_4 rfl ?_
  refine jy_new (ci := 8) (V := [.null, .int 0]) dX2_init_5 rfl cl_X2_9 ni_8 nd_8 (jgk_r kd_119 (by decide)) (hv_of rfl) ?_
  refine jy_dup dX2_init_8 rfl ?_
  refine jy_bipush (v := nI 16) dX2_init_9 (by decide) ?_
  refine jy_ctor (a := 119) (As := [.int (nI 16)]) (rest := [.ref (E.2.2.2 + 119), .ref (E.2.2.2 + 118)]) (m1 := 121) (z1 := 3514) (xs1 := (118, [.null, .null, .null, .null, .int 0]) :: xs) dX2_init_11 ml_X2_11 mi_X8 (i_X8 (n := 16) (z := 3498) kd_119 (by decide) (by decide +kernel) (by decide) (by decide)) rfl rfl (by decide) (Nat.le_of_ble_eq_true rfl) ?_
  refine jy_putF (ci := 2) (j := 0) (a := 118) (i := 0) (xs1 := (118, [.ref (E.2.2.2 + 119), .null, .null, .null, .int 0]) :: xs) dX2_init_14 ff_X2_14 rfl (jgk_o kd_118) (Nat.lt_of_succ_le (Nat.le_of_ble_eq_true rfl)) rfl rfl rfl ?_
  refine jy_aload_n dX2_init_17 rfl ?_
  refine jy_new (ci := 8) (V := [.null, .int 0]) dX2_init_18 rfl cl_X2_9 ni_8 nd_8 (jgk_r kd_121 (by decide)) (hv_of rfl) ?_
  refine jy_dup dX2_init_21 rfl ?_
  refine jy_bipush (v := nI 16) dX2_init_22 (by decide) ?_
  refine jy_ctor (a := 121) (As := [.int (nI 16)]) (rest := [.ref (E.2.2.2 + 121), .ref (E.2.2.2 + 118)]) (m1 := 123) (z1 := 3532) (xs1 := (118, [.ref (E.2.2.2 + 119), .null, .null, .null, .int 0]) :: xs) dX2_init_24 ml_X2_11 mi_X8 (i_X8 (n := 16) (z := 3516) kd_121 (by decide) (by decide +kernel) (by decide) (by decide)) rfl rfl (by decide) (Nat.le_of_ble_eq_true rfl) ?_
  refine jy_putF (ci := 2) (j := 1) (a := 118) (i := 0) (xs1 := (118, [.ref (E.2.2.2 + 119), .ref (E.2.2.2 + 121), .null, .null, .int 0]) :: xs) dX2_init_27 ff_X2_20 rfl (jgk_o kd_118) (Nat.lt_of_succ_le (Nat.le_of_ble_eq_true rfl)) rfl rfl rfl ?_
  refine jy_aload_n dX2_init_30 rfl ?_
  refine jy_new (ci := 8) (V := [.null, .int 0]) dX2_init_31 rfl cl_X2_9 ni_8 nd_8 (jgk_r kd_123 (by decide)) (hv_of rfl) ?_
  refine jy_dup dX2_init_34 rfl ?_
  refine jy_bipush (v := nI 16) dX2_init_35 (by decide) ?_
  refine jy_ctor (a := 123) (As := [.int (nI 16)]) (rest := [.ref (E.2.2.2 + 123), .ref (E.2.2.2 + 118)]) (m1 := 125) (z1 := 3550) (xs1 := (118, [.ref (E.2.2.2 + 119), .ref (E.2.2.2 + 121), .null, .null, .int 0]) :: xs) dX2_init_37 ml_X2_11 mi_X8 (i_X8 (n := 16) (z := 3534) kd_123 (by decide) (by decide +kernel) (by decide) (by decide)) rfl rfl (by decide) (Nat.le_of_ble_eq_true rfl) ?_
  refine jy_putF (ci := 2) (j := 2) (a := 118) (i := 0) (xs1 := (118, [.ref (E.2.2.2 + 119), .ref (E.2.2.2 + 121), .ref (E.2.2.2 + 123), .null, .int 0]) :: xs) dX2_init_40 ff_X2_23 rfl (jgk_o kd_118) (Nat.lt_of_succ_le (Nat.le_of_ble_eq_true rfl)) rfl rfl rfl ?_
  refine jy_aload_n dX2_init_43 rfl ?_
  refine jy_new (ci := 8) (V := [.null, .int 0]) dX2_init_44 rfl cl_X2_9 ni_8 nd_8 (jgk_r kd_125 (by decide)) (hv_of rfl) ?_
  refine jy_dup dX2_init_47 rfl ?_
  refine jy_bipush (v := nI 16) dX2_init_48 (by decide) ?_
  refine jy_ctor (a := 125) (As := [.int (nI 16)]) (rest := [.ref (E.2.2.2 + 125), .ref (E.2.2.2 + 118)]) (m1 := 127) (z1 := 3568) (xs1 := (118, [.ref (E.2.2.2 + 119), .ref (E.2.2.2 + 121), .ref (E.2.2.2 + 123), .null, .int 0]) :: xs) dX2_init_50 ml_X2_11 mi_X8 (i_X8 (n := 16) (z := 3552) kd_125 (by decide) (by decide +kernel) (by decide) (by decide)) rfl rfl (by decide) (Nat.le_of_ble_eq_true rfl) ?_
  refine jy_putF (ci := 2) (j := 3) (a := 118) (i := 0) (xs1 := (118, [.ref (E.2.2.2 + 119), .ref (E.2.2.2 + 121), .ref (E.2.2.2 + 123), .ref (E.2.2.2 + 125), .int 0]) :: xs) dX2_init_53 ff_X2_26 rfl (jgk_o kd_118) (Nat.lt_of_succ_le (Nat.le_of_ble_eq_true rfl)) rfl rfl rfl ?_
  refine jy_aload_n dX2_init_56 rfl ?_
  refine jy_iconst (v := nI 0) dX2_init_57 (by decide) ?_
  refine jy_put (ci := 2) (j := 4) (a := 118) (i := 0) (xs1 := (118, [.ref (E.2.2.2 + 119), .ref (E.2.2.2 + 121), .ref (E.2.2.2 + 123), .ref (E.2.2.2 + 125), .int (nI 0)]) :: xs) dX2_init_58 fp_X2_29 rfl (jgk_o kd_118) (Nat.lt_of_succ_le (Nat.le_of_ble_eq_true rfl)) rfl rfl rfl ?_
  refine jy_pop kd_118 rfl (os := [(some 119, 0), (some 121, 0), (some 123, 0), (some 125, 0), (none, 0)]) (by decide +kernel) rfl ?_
  exact jy_ret dX2_init_61 (fun H h => h)
set_option maxRecDepth 20000 in
theorem i_X9_100 {E : jE} {b : Nat} {H0 : Heap} {xs : jxs} : jD E m_X9_init 3 [.ref (E.2.2.2 + 100)] b H0 101 3306 ((100, [.null, .null, .null, .null, .int 0]) :: xs) 131 3588 (jraw E b H0 131 (xs)) := by
  refine jD_of (ls := [(0, .ref (E.2.2.2 + 100))]) (by decide) rfl rfl rfl (Nat.le_of_ble_eq_true rfl) rfl ?_
  refine jy_aload_n dX9_init_0 rfl ?_
  refine jy_obj dX9_init_1 ol_X9_3 (by decide) (by decide) ?_
  refine jy_aload_n dX9_init_4 rfl ?_
  refine jy_new (ci := 6) (V := [.null, .null, .null, .null, .null, .null, .null, .null, .int 0]) dX9_init_5 rfl cl_X9_9 ni_6 nd_6 (jgk_o kd_101) (hv_of rfl) ?_
  refine jy_dup dX9_init_8 rfl ?_
  refine jy_ctor (a := 101) (As := []) (rest := [.ref (E.2.2.2 + 101), .ref (E.2.2.2 + 100)]) (m1 := 118) (z1 := 3491) (xs1 := (100, [.null, .null, .null, .null, .int 0]) :: xs) dX9_init_9 ml_X9_11 mi_X6 (i_X6_101) rfl rfl (by decide) (Nat.le_of_ble_eq_true rfl) ?_
  refine jy_putF (ci := 9) (j := 0) (a := 100) (i := 0) (xs1 := (100, [.ref (E.2.2.2 + 101), .null, .null, .null, .int 0]) :: xs) dX9_init_12 ff_X9_12 rfl (jgk_o kd_100) (Nat.lt_of_succ_le (Nat.le_of_ble_eq_true rfl)) rfl rfl rfl ?_
  refine jy_aload_n dX9_init_15 rfl ?_
  refine jy_new (ci := 2) (V := [.null, .null, .null, .null, .int 0]) dX9_init_16 rfl cl_X9_18 ni_2 nd_2 (jgk_o kd_118) (hv_of rfl) ?_
  refine jy_dup dX9_init_19 rfl ?_
  refine jy_ctor (a := 118) (As := []) (rest := [.ref (E.2.2.2 + 118), .ref (E.2.2.2 + 100)]) (m1 := 127) (z1 := 3568) (xs1 := (100, [.ref (E.2.2.2 + 101), .null, .null, .null, .int 0]) :: xs) dX9_init_20 ml_X9_20 mi_X2 (i_X2_118) rfl rfl (by decide) (Nat.le_of_ble_eq_true rfl) ?_
  refine jy_putF (ci := 9) (j := 1) (a := 100) (i := 0) (xs1 := (100, [.ref (E.2.2.2 + 101), .ref (E.2.2.2 + 118), .null, .null, .int 0]) :: xs) dX9_init_23 ff_X9_21 rfl (jgk_o kd_100) (Nat.lt_of_succ_le (Nat.le_of_ble_eq_true rfl)) rfl rfl rfl ?_
  refine jy_aload_n dX9_init_26 rfl ?_
  refine jy_new (ci := 8) (V := [.null, .int 0]) dX9_init_27 rfl cl_X9_25 ni_8 nd_8 (jgk_r kd_127 (by decide)) (hv_of rfl) ?_
  refine jy_dup dX9_init_30 rfl ?_
  refine jy_bipush (v := nI 8) dX9_init_31 (by decide) ?_
  refine jy_ctor (a := 127) (As := [.int (nI 8)]) (rest := [.ref (E.2.2.2 + 127), .ref (E.2.2.2 + 100)]) (m1 := 129) (z1 := 3578) (xs1 := (100, [.ref (E.2.2.2 + 101), .ref (E.2.2.2 + 118), .null, .null, .int 0]) :: xs) dX9_init_33 ml_X9_27 mi_X8 (i_X8 (n := 8) (z := 3570) kd_127 (by decide) (by decide +kernel) (by decide) (by decide)) rfl rfl (by decide) (Nat.le_of_ble_eq_true rfl) ?_
  refine jy_putF (ci := 9) (j := 2) (a := 100) (i := 0) (xs1 := (100, [.ref (E.2.2.2 + 101), .ref (E.2.2.2 + 118), .ref (E.2.2.2 + 127), .null, .int 0]) :: xs) dX9_init_36 ff_X9_30 rfl (jgk_o kd_100) (Nat.lt_of_succ_le (Nat.le_of_ble_eq_true rfl)) rfl rfl rfl ?_
  refine jy_aload_n dX9_init_39 rfl ?_
  refine jy_new (ci := 8) (V := [.null, .int 0]) dX9_init_40 rfl cl_X9_25 ni_8 nd_8 (jgk_r kd_129 (by decide)) (hv_of rfl) ?_
  refine jy_dup dX9_init_43 rfl ?_
  refine jy_bipush (v := nI 8) dX9_init_44 (by decide) ?_
  refine jy_ctor (a := 129) (As := [.int (nI 8)]) (rest := [.ref (E.2.2.2 + 129), .ref (E.2.2.2 + 100)]) (m1 := 131) (z1 := 3588) (xs1 := (100, [.ref (E.2.2.2 + 101), .ref (E.2.2.2 + 118), .ref (E.2.2.2 + 127), .null, .int 0]) :: xs) dX9_init_46 ml_X9_27 mi_X8 (i_X8 (n := 8) (z := 3580) kd_129 (by decide) (by decide +kernel) (by decide) (by decide)) rfl rfl (by decide) (Nat.le_of_ble_eq_true rfl) ?_
  refine jy_putF (ci := 9) (j := 3) (a := 100) (i := 0) (xs1 := (100, [.ref (E.2.2.2 + 101), .ref (E.2.2.2 + 118), .ref (E.2.2.2 + 127), .ref (E.2.2.2 + 129), .int 0]) :: xs) dX9_init_49 ff_X9_34 rfl (jgk_o kd_100) (Nat.lt_of_succ_le (Nat.le_of_ble_eq_true rfl)) rfl rfl rfl ?_
  refine jy_aload_n dX9_init_52 rfl ?_
  refine jy_iconst (v := nI 0) dX9_init_53 (by decide) ?_
  refine jy_put (ci := 9) (j := 4) (a := 100) (i := 0) (xs1 := (100, [.ref (E.2.2.2 + 101), .ref (E.2.2.2 + 118), .ref (E.2.2.2 + 127), .ref (E.2.2.2 + 129), .int (nI 0)]) :: xs) dX9_init_54 fp_X9_37 rfl (jgk_o kd_100) (Nat.lt_of_succ_le (Nat.le_of_ble_eq_true rfl)) rfl rfl rfl ?_
  refine jy_pop kd_100 rfl (os := [(some 101, 0), (some 118, 0), (some 127, 0), (some 129, 0), (none, 0)]) (by decide +kernel) rfl ?_
  exact jy_ret dX9_init_57 (fun H h => h)
set_option maxRecDepth 20000 in
theorem i_X6_132 {E : jE} {b : Nat} {H0 : Heap} {xs : jxs} : jD E m_X6_init 2 [.ref (E.2.2.2 + 132)] b H0 133 3602 ((132, [.null, .null, .null, .null, .null, .null, .null, .null, .int 0]) :: xs) 149 3778 (jraw E b H0 149 (xs)) := by
  refine jD_of (ls := [(0, .ref (E.2.2.2 + 132))]) (by decide) rfl rfl rfl (Nat.le_of_ble_eq_true rfl) rfl ?_
  refine jy_aload_n dX6_init_0 rfl ?_
  refine jy_obj dX6_init_1 ol_X6_3 (by decide) (by decide) ?_
  refine jy_aload_n dX6_init_4 rfl ?_
  refine jy_new (ci := 8) (V := [.null, .int 0]) dX6_init_5 rfl cl_X6_9 ni_8 nd_8 (jgk_r kd_133 (by decide)) (hv_of rfl) ?_
  refine jy_dup dX6_init_8 rfl ?_
  refine jy_bipush (v := nI 8) dX6_init_9 (by decide) ?_
  refine jy_ctor (a := 133) (As := [.int (nI 8)]) (rest := [.ref (E.2.2.2 + 133), .ref (E.2.2.2 + 132)]) (m1 := 135) (z1 := 3612) (xs1 := (132, [.null, .null, .null, .null, .null, .null, .null, .null, .int 0]) :: xs) dX6_init_11 ml_X6_11 mi_X8 (i_X8 (n := 8) (z := 3604) kd_133 (by decide) (by decide +kernel) (by decide) (by decide)) rfl rfl (by decide) (Nat.le_of_ble_eq_true rfl) ?_
  refine jy_putF (ci := 6) (j := 0) (a := 132) (i := 0) (xs1 := (132, [.ref (E.2.2.2 + 133), .null, .null, .null, .null, .null, .null, .null, .int 0]) :: xs) dX6_init_14 ff_X6_14 rfl (jgk_o kd_132) (Nat.lt_of_succ_le (Nat.le_of_ble_eq_true rfl)) rfl rfl rfl ?_
  refine jy_aload_n dX6_init_17 rfl ?_
  refine jy_new (ci := 8) (V := [.null, .int 0]) dX6_init_18 rfl cl_X6_9 ni_8 nd_8 (jgk_r kd_135 (by decide)) (hv_of rfl) ?_
  refine jy_dup dX6_init_21 rfl ?_
  refine jy_bipush (v := nI 8) dX6_init_22 (by decide) ?_
  refine jy_ctor (a := 135) (As := [.int (nI 8)]) (rest := [.ref (E.2.2.2 + 135), .ref (E.2.2.2 + 132)]) (m1 := 137) (z1 := 3622) (xs1 := (132, [.ref (E.2.2.2 + 133), .null, .null, .null, .null, .null, .null, .null, .int 0]) :: xs) dX6_init_24 ml_X6_11 mi_X8 (i_X8 (n := 8) (z := 3614) kd_135 (by decide) (by decide +kernel) (by decide) (by decide)) rfl rfl (by decide) (Nat.le_of_ble_eq_true rfl) ?_
  refine jy_putF (ci := 6) (j := 1) (a := 132) (i := 0) (xs1 := (132, [.ref (E.2.2.2 + 133), .ref (E.2.2.2 + 135), .null, .null, .null, .null, .null, .null, .int 0]) :: xs) dX6_init_27 ff_X6_20 rfl (jgk_o kd_132) (Nat.lt_of_succ_le (Nat.le_of_ble_eq_true rfl)) rfl rfl rfl ?_
  refine jy_aload_n dX6_init_30 rfl ?_
  refine jy_new (ci := 8) (V := [.null, .int 0]) dX6_init_31 rfl cl_X6_9 ni_8 nd_8 (jgk_r kd_137 (by decide)) (hv_of rfl) ?_
  refine jy_dup dX6_init_34 rfl ?_
  refine jy_bipush (v := nI 8) dX6_init_35 (by decide) ?_
  refine jy_ctor (a := 137) (As := [.int (nI 8)]) (rest := [.ref (E.2.2.2 + 137), .ref (E.2.2.2 + 132)]) (m1 := 139) (z1 := 3632) (xs1 := (132, [.ref (E.2.2.2 + 133), .ref (E.2.2.2 + 135), .null, .null, .null, .null, .null, .null, .int 0]) :: xs) dX6_init_37 ml_X6_11 mi_X8 (i_X8 (n := 8) (z := 3624) kd_137 (by decide) (by decide +kernel) (by decide) (by decide)) rfl rfl (by decide) (Nat.le_of_ble_eq_true rfl) ?_
  refine jy_putF (ci := 6) (j := 2) (a := 132) (i := 0) (xs1 := (132, [.ref (E.2.2.2 + 133), .ref (E.2.2.2 + 135), .ref (E.2.2.2 + 137), .null, .null, .null, .null, .null, .int 0]) :: xs) dX6_init_40 ff_X6_23 rfl (jgk_o kd_132) (Nat.lt_of_succ_le (Nat.le_of_ble_eq_true rfl)) rfl rfl rfl ?_
  refine jy_aload_n dX6_init_43 rfl ?_
  refine jy_new (ci := 8) (V := [.null, .int 0]) dX6_init_44 rfl cl_X6_9 ni_8 nd_8 (jgk_r kd_139 (by decide)) (hv_of rfl) ?_
  refine jy_dup dX6_init_47 rfl ?_
  refine jy_bipush (v := nI 8) dX6_init_48 (by decide) ?_
  refine jy_ctor (a := 139) (As := [.int (nI 8)]) (rest := [.ref (E.2.2.2 + 139), .ref (E.2.2.2 + 132)]) (m1 := 141) (z1 := 3642) (xs1 := (132, [.ref (E.2.2.2 + 133), .ref (E.2.2.2 + 135), .ref (E.2.2.2 + 137), .null, .null, .null, .null, .null, .int 0]) :: xs) dX6_init_50 ml_X6_11 mi_X8 (i_X8 (n := 8) (z := 3634) kd_139 (by decide) (by decide +kernel) (by decide) (by decide)) rfl rfl (by decide) (Nat.le_of_ble_eq_true rfl) ?_
  refine jy_putF (ci := 6) (j := 3) (a := 132) (i := 0) (xs1 := (132, [.ref (E.2.2.2 + 133), .ref (E.2.2.2 + 135), .ref (E.2.2.2 + 137), .ref (E.2.2.2 + 139), .null, .null, .null, .null, .int 0]) :: xs) dX6_init_53 ff_X6_26 rfl (jgk_o kd_132) (Nat.lt_of_succ_le (Nat.le_of_ble_eq_true rfl)) rfl rfl rfl ?_
  refine jy_aload_n dX6_init_56 rfl ?_
  refine jy_new (ci := 8) (V := [.null, .int 0]) dX6_init_57 rfl cl_X6_9 ni_8 nd_8 (jgk_r kd_141 (by decide)) (hv_of rfl) ?_
  refine jy_dup dX6_init_60 rfl ?_
  refine jy_bipush (v := nI 32) dX6_init_61 (by decide) ?_
  refine jy_ctor (a := 141) (As := [.int (nI 32)]) (rest := [.ref (E.2.2.2 + 141), .ref (E.2.2.2 + 132)]) (m1 := 143) (z1 := 3676) (xs1 := (132, [.ref (E.2.2.2 + 133), .ref (E.2.2.2 + 135), .ref (E.2.2.2 + 137), .ref (E.2.2.2 + 139), .null, .null, .null, .null, .int 0]) :: xs) dX6_init_63 ml_X6_11 mi_X8 (i_X8 (n := 32) (z := 3644) kd_141 (by decide) (by decide +kernel) (by decide) (by decide)) rfl rfl (by decide) (Nat.le_of_ble_eq_true rfl) ?_
  refine jy_putF (ci := 6) (j := 4) (a := 132) (i := 0) (xs1 := (132, [.ref (E.2.2.2 + 133), .ref (E.2.2.2 + 135), .ref (E.2.2.2 + 137), .ref (E.2.2.2 + 139), .ref (E.2.2.2 + 141), .null, .null, .null, .int 0]) :: xs) dX6_init_66 ff_X6_29 rfl (jgk_o kd_132) (Nat.lt_of_succ_le (Nat.le_of_ble_eq_true rfl)) rfl rfl rfl ?_
  refine jy_aload_n dX6_init_69 rfl ?_
  refine jy_new (ci := 8) (V := [.null, .int 0]) dX6_init_70 rfl cl_X6_9 ni_8 nd_8 (jgk_r kd_143 (by decide)) (hv_of rfl) ?_
  refine jy_dup dX6_init_73 rfl ?_
  refine jy_bipush (v := nI 32) dX6_init_74 (by decide) ?_
  refine jy_ctor (a := 143) (As := [.int (nI 32)]) (rest := [.ref (E.2.2.2 + 143), .ref (E.2.2.2 + 132)]) (m1 := 145) (z1 := 3710) (xs1 := (132, [.ref (E.2.2.2 + 133), .ref (E.2.2.2 + 135), .ref (E.2.2.2 + 137), .ref (E.2.2.2 + 139), .ref (E.2.2.2 + 141), .null, .null, .null, .int 0]) :: xs) dX6_init_76 ml_X6_11 mi_X8 (i_X8 (n := 32) (z := 3678) kd_143 (by decide) (by decide +kernel) (by decide) (by decide)) rfl rfl (by decide) (Nat.le_of_ble_eq_true rfl) ?_
  refine jy_putF (ci := 6) (j := 5) (a := 132) (i := 0) (xs1 := (132, [.ref (E.2.2.2 + 133), .ref (E.2.2.2 + 135), .ref (E.2.2.2 + 137), .ref (E.2.2.2 + 139), .ref (E.2.2.2 + 141), .ref (E.2.2.2 + 143), .null, .null, .int 0]) :: xs) dX6_init_79 ff_X6_32 rfl (jgk_o kd_132) (Nat.lt_of_succ_le (Nat.le_of_ble_eq_true rfl)) rfl rfl rfl ?_
  refine jy_aload_n dX6_init_82 rfl ?_
  refine jy_new (ci := 8) (V := [.null, .int 0]) dX6_init_83 rfl cl_X6_9 ni_8 nd_8 (jgk_r kd_145 (by decide)) (hv_of rfl) ?_
  refine jy_dup dX6_init_86 rfl ?_
  refine jy_bipush (v := nI 32) dX6_init_87 (by decide) ?_
  refine jy_ctor (a := 145) (As := [.int (nI 32)]) (rest := [.ref (E.2.2.2 + 145), .ref (E.2.2.2 + 132)]) (m1 := 147) (z1 := 3744) (xs1 := (132, [.ref (E.2.2.2 + 133), .ref (E.2.2.2 + 135), .ref (E.2.2.2 + 137), .ref (E.2.2.2 + 139), .ref (E.2.2.2 + 141), .ref (E.2.2.2 + 143), .null, .null, .int 0]) :: xs) dX6_init_89 ml_X6_11 mi_X8 (i_X8 (n := 32) (z := 3712) kd_145 (by decide) (by decide +kernel) (by decide) (by decide)) rfl rfl (by decide) (Nat.le_of_ble_eq_true rfl) ?_
  refine jy_putF (ci := 6) (j := 6) (a := 132) (i := 0) (xs1 := (132, [.ref (E.2.2.2 + 133), .ref (E.2.2.2 + 135), .ref (E.2.2.2 + 137), .ref (E.2.2.2 + 139), .ref (E.2.2.2 + 141), .ref (E.2.2.2 + 143), .ref (E.2.2.2 + 145), .null, .int 0]) :: xs) dX6_init_92 ff_X6_35 rfl (jgk_o kd_132) (Nat.lt_of_succ_le (Nat.le_of_ble_eq_true rfl)) rfl rfl rfl ?_
  refine jy_aload_n dX6_init_95 rfl ?_
  refine jy_new (ci := 8) (V := [.null, .int 0]) dX6_init_96 rfl cl_X6_9 ni_8 nd_8 (jgk_r kd_147 (by decide)) (hv_of rfl) ?_
  refine jy_dup dX6_init_99 rfl ?_
  refine jy_bipush (v := nI 32) dX6_init_100 (by decide) ?_
  refine jy_ctor (a := 147) (As := [.int (nI 32)]) (rest := [.ref (E.2.2.2 + 147), .ref (E.2.2.2 + 132)]) (m1 := 149) (z1 := 3778) (xs1 := (132, [.ref (E.2.2.2 + 133), .ref (E.2.2.2 + 135), .ref (E.2.2.2 + 137), .ref (E.2.2.2 + 139), .ref (E.2.2.2 + 141), .ref (E.2.2.2 + 143), .ref (E.2.2.2 + 145), .null, .int 0]) :: xs) dX6_init_102 ml_X6_11 mi_X8 (i_X8 (n := 32) (z := 3746) kd_147 (by decide) (by decide +kernel) (by decide) (by decide)) rfl rfl (by decide) (Nat.le_of_ble_eq_true rfl) ?_
  refine jy_putF (ci := 6) (j := 7) (a := 132) (i := 0) (xs1 := (132, [.ref (E.2.2.2 + 133), .ref (E.2.2.2 + 135), .ref (E.2.2.2 + 137), .ref (E.2.2.2 + 139), .ref (E.2.2.2 + 141), .ref (E.2.2.2 + 143), .ref (E.2.2.2 + 145), .ref (E.2.2.2 + 147), .int 0]) :: xs) dX6_init_105 ff_X6_38 rfl (jgk_o kd_132) (Nat.lt_of_succ_le (Nat.le_of_ble_eq_true rfl)) rfl rfl rfl ?_
  refine jy_aload_n dX6_init_108 rfl ?_
  refine jy_bipush (v := nI 8) dX6_init_109 (by decide) ?_
  refine jy_put (ci := 6) (j := 8) (a := 132) (i := 0) (xs1 := (132, [.ref (E.2.2.2 + 133), .ref (E.2.2.2 + 135), .ref (E.2.2.2 + 137), .ref (E.2.2.2 + 139), .ref (E.2.2.2 + 141), .ref (E.2.2.2 + 143), .ref (E.2.2.2 + 145), .ref (E.2.2.2 + 147), .int (nI 8)]) :: xs) dX6_init_111 fp_X6_41 rfl (jgk_o kd_132) (Nat.lt_of_succ_le (Nat.le_of_ble_eq_true rfl)) rfl rfl rfl ?_
  refine jy_pop kd_132 rfl (os := [(some 133, 0), (some 135, 0), (some 137, 0), (some 139, 0), (some 141, 0), (some 143, 0), (some 145, 0), (some 147, 0), (none, 8)]) (by decide +kernel) rfl ?_
  exact jy_ret dX6_init_114 (fun H h => h)
set_option maxRecDepth 20000 in
theorem i_X2_149 {E : jE} {b : Nat} {H0 : Heap} {xs : jxs} : jD E m_X2_init 2 [.ref (E.2.2.2 + 149)] b H0 150 3783 ((149, [.null, .null, .null, .null, .int 0]) :: xs) 158 3855 (jraw E b H0 158 (xs)) := by
  refine jD_of (ls := [(0, .ref (E.2.2.2 + 149))]) (by decide) rfl rfl rfl (Nat.le_of_ble_eq_true rfl) rfl ?_
  refine jy_aload_n dX2_init_0 rfl ?_
  refine jy_obj dX2_init_1 ol_X2_3 (by decide) (by decide) ?_
  refine jy_aload_n dX2_init_4 rfl ?_
  refine jy_new (ci := 8) (V := [.null, .int 0]) dX2_init_5 rfl cl_X2_9 ni_8 nd_8 (jgk_r kd_150 (by decide)) (hv_of rfl) ?_
  refine jy_dup dX2_init_8 rfl ?_
  refine jy_bipush (v := nI 16) dX2_init_9 (by decide) ?_
  refine jy_ctor (a := 150) (As := [.int (nI 16)]) (rest := [.ref (E.2.2.2 + 150), .ref (E.2.2.2 + 149)]) (m1 := 152) (z1 := 3801) (xs1 := (149, [.null, .null, .null, .null, .int 0]) :: xs) dX2_init_11 ml_X2_11 mi_X8 (i_X8 (n := 16) (z := 3785) kd_150 (by decide) (by decide +kernel) (by decide) (by decide)) rfl rfl (by decide) (Nat.le_of_ble_eq_true rfl) ?_
  refine jy_putF (ci := 2) (j := 0) (a := 149) (i := 0) (xs1 := (149, [.ref (E.2.2.2 + 150), .null, .null, .null, .int 0]) :: xs) dX2_init_14 ff_X2_14 rfl (jgk_o kd_149) (Nat.lt_of_succ_le (Nat.le_of_ble_eq_true rfl)) rfl rfl rfl ?_
  refine jy_aload_n dX2_init_17 rfl ?_
  refine jy_new (ci := 8) (V := [.null, .int 0]) dX2_init_18 rfl cl_X2_9 ni_8 nd_8 (jgk_r kd_152 (by decide)) (hv_of rfl) ?_
  refine jy_dup dX2_init_21 rfl ?_
  refine jy_bipush (v := nI 16) dX2_init_22 (by decide) ?_
  refine jy_ctor (a := 152) (As := [.int (nI 16)]) (rest := [.ref (E.2.2.2 + 152), .ref (E.2.2.2 + 149)]) (m1 := 154) (z1 := 3819) (xs1 := (149, [.ref (E.2.2.2 + 150), .null, .null, .null, .int 0]) :: xs) dX2_init_24 ml_X2_11 mi_X8 (i_X8 (n := 16) (z := 3803) kd_152 (by decide) (by decide +kernel) (by decide) (by decide)) rfl rfl (by decide) (Nat.le_of_ble_eq_true rfl) ?_
  refine jy_putF (ci := 2) (j := 1) (a := 149) (i := 0) (xs1 := (149, [.ref (E.2.2.2 + 150), .ref (E.2.2.2 + 152), .null, .null, .int 0]) :: xs) dX2_init_27 ff_X2_20 rfl (jgk_o kd_149) (Nat.lt_of_succ_le (Nat.le_of_ble_eq_true rfl)) rfl rfl rfl ?_
  refine jy_aload_n dX2_init_30 rfl ?_
  refine jy_new (ci := 8) (V := [.null, .int 0]) dX2_init_31 rfl cl_X2_9 ni_8 nd_8 (jgk_r kd_154 (by decide)) (hv_of rfl) ?_
  refine jy_dup dX2_init_34 rfl ?_
  refine jy_bipush (v := nI 16) dX2_init_35 (by decide) ?_
  refine jy_ctor (a := 154) (As := [.int (nI 16)]) (rest := [.ref (E.2.2.2 + 154), .ref (E.2.2.2 + 149)]) (m1 := 156) (z1 := 3837) (xs1 := (149, [.ref (E.2.2.2 + 150), .ref (E.2.2.2 + 152), .null, .null, .int 0]) :: xs) dX2_init_37 ml_X2_11 mi_X8 (i_X8 (n := 16) (z := 3821) kd_154 (by decide) (by decide +kernel) (by decide) (by decide)) rfl rfl (by decide) (Nat.le_of_ble_eq_true rfl) ?_
  refine jy_putF (ci := 2) (j := 2) (a := 149) (i := 0) (xs1 := (149, [.ref (E.2.2.2 + 150), .ref (E.2.2.2 + 152), .ref (E.2.2.2 + 154), .null, .int 0]) :: xs) dX2_init_40 ff_X2_23 rfl (jgk_o kd_149) (Nat.lt_of_succ_le (Nat.le_of_ble_eq_true rfl)) rfl rfl rfl ?_
  refine jy_aload_n dX2_init_43 rfl ?_
  refine jy_new (ci := 8) (V := [.null, .int 0]) dX2_init_44 rfl cl_X2_9 ni_8 nd_8 (jgk_r kd_156 (by decide)) (hv_of rfl) ?_
  refine jy_dup dX2_init_47 rfl ?_
  refine jy_bipush (v := nI 16) dX2_init_48 (by decide) ?_
  refine jy_ctor (a := 156) (As := [.int (nI 16)]) (rest := [.ref (E.2.2.2 + 156), .ref (E.2.2.2 + 149)]) (m1 := 158) (z1 := 3855) (xs1 := (149, [.ref (E.2.2.2 + 150), .ref (E.2.2.2 + 152), .ref (E.2.2.2 + 154), .null, .int 0]) :: xs) dX2_init_50 ml_X2_11 mi_X8 (i_X8 (n := 16) (z := 3839) kd_156 (by decide) (by decide +kernel) (by decide) (by decide)) rfl rfl (by decide) (Nat.le_of_ble_eq_true rfl) ?_
  refine jy_putF (ci := 2) (j := 3) (a := 149) (i := 0) (xs1 := (149, [.ref (E.2.2.2 + 150), .ref (E.2.2.2 + 152), .ref (E.2.2.2 + 154), .ref (E.2.2.2 + 156), .int 0]) :: xs) dX2_init_53 ff_X2_26 rfl (jgk_o kd_149) (Nat.lt_of_succ_le (Nat.le_of_ble_eq_true rfl)) rfl rfl rfl ?_
  refine jy_aload_n dX2_init_56 rfl ?_
  refine jy_iconst (v := nI 0) dX2_init_57 (by decide) ?_
  refine jy_put (ci := 2) (j := 4) (a := 149) (i := 0) (xs1 := (149, [.ref (E.2.2.2 + 150), .ref (E.2.2.2 + 152), .ref (E.2.2.2 + 154), .ref (E.2.2.2 + 156), .int (nI 0)]) :: xs) dX2_init_58 fp_X2_29 rfl (jgk_o kd_149) (Nat.lt_of_succ_le (Nat.le_of_ble_eq_true rfl)) rfl rfl rfl ?_
  refine jy_pop kd_149 rfl (os := [(some 150, 0), (some 152, 0), (some 154, 0), (some 156, 0), (none, 0)]) (by decide +kernel) rfl ?_
  exact jy_ret dX2_init_61 (fun H h => h)
set_option maxRecDepth 20000 in
theorem i_X9_131 {E : jE} {b : Nat} {H0 : Heap} {xs : jxs} : jD E m_X9_init 3 [.ref (E.2.2.2 + 131)] b H0 132 3593 ((131, [.null, .null, .null, .null, .int 0]) :: xs) 162 3875 (jraw E b H0 162 (xs)) := by
  refine jD_of (ls := [(0, .ref (E.2.2.2 + 131))]) (by decide) rfl rfl rfl (Nat.le_of_ble_eq_true rfl) rfl ?_
  refine jy_aload_n dX9_init_0 rfl ?_
  refine jy_obj dX9_init_1 ol_X9_3 (by decide) (by decide) ?_
  refine jy_aload_n dX9_init_4 rfl ?_
  refine jy_new (ci := 6) (V := [.null, .null, .null, .null, .null, .null, .null, .null, .int 0]) dX9_init_5 rfl cl_X9_9 ni_6 nd_6 (jgk_o kd_132) (hv_of rfl) ?_
  refine jy_dup dX9_init_8 rfl ?_
  refine jy_ctor (a := 132) (As := []) (rest := [.ref (E.2.2.2 + 132), .ref (E.2.2.2 + 131)]) (m1 := 149) (z1 := 3778) (xs1 := (131, [.null, .null, .null, .null, .int 0]) :: xs) dX9_init_9 ml_X9_11 mi_X6 (i_X6_132) rfl rfl (by decide) (Nat.le_of_ble_eq_true rfl) ?_
  refine jy_putF (ci := 9) (j := 0) (a := 131) (i := 0) (xs1 := (131, [.ref (E.2.2.2 + 132), .null, .null, .null, .int 0]) :: xs) dX9_init_12 ff_X9_12 rfl (jgk_o kd_131) (Nat.lt_of_succ_le (Nat.le_of_ble_eq_true rfl)) rfl rfl rfl ?_
  refine jy_aload_n dX9_init_15 rfl ?_
  refine jy_new (ci := 2) (V := [.null, .null, .null, .null, .int 0]) dX9_init_16 rfl cl_X9_18 ni_2 nd_2 (jgk_o kd_149) (hv_of rfl) ?_
  refine jy_dup dX9_init_19 rfl ?_
  refine jy_ctor (a := 149) (As := []) (rest := [.ref (E.2.2.2 + 149), .ref (E.2.2.2 + 131)]) (m1 := 158) (z1 := 3855) (xs1 := (131, [.ref (E.2.2.2 + 132), .null, .null, .null, .int 0]) :: xs) dX9_init_20 ml_X9_20 mi_X2 (i_X2_149) rfl rfl (by decide) (Nat.le_of_ble_eq_true rfl) ?_
  refine jy_putF (ci := 9) (j := 1) (a := 131) (i := 0) (xs1 := (131, [.ref (E.2.2.2 + 132), .ref (E.2.2.2 + 149), .null, .null, .int 0]) :: xs) dX9_init_23 ff_X9_21 rfl (jgk_o kd_131) (Nat.lt_of_succ_le (Nat.le_of_ble_eq_true rfl)) rfl rfl rfl ?_
  refine jy_aload_n dX9_init_26 rfl ?_
  refine jy_new (ci := 8) (V := [.null, .int 0]) dX9_init_27 rfl cl_X9_25 ni_8 nd_8 (jgk_r kd_158 (by decide)) (hv_of rfl) ?_
  refine jy_dup dX9_init_30 rfl ?_
  refine jy_bipush (v := nI 8) dX9_init_31 (by decide) ?_
  refine jy_ctor (a := 158) (As := [.int (nI 8)]) (rest := [.ref (E.2.2.2 + 158), .ref (E.2.2.2 + 131)]) (m1 := 160) (z1 := 3865) (xs1 := (131, [.ref (E.2.2.2 + 132), .ref (E.2.2.2 + 149), .null, .null, .int 0]) :: xs) dX9_init_33 ml_X9_27 mi_X8 (i_X8 (n := 8) (z := 3857) kd_158 (by decide) (by decide +kernel) (by decide) (by decide)) rfl rfl (by decide) (Nat.le_of_ble_eq_true rfl) ?_
  refine jy_putF (ci := 9) (j := 2) (a := 131) (i := 0) (xs1 := (131, [.ref (E.2.2.2 + 132), .ref (E.2.2.2 + 149), .ref (E.2.2.2 + 158), .null, .int 0]) :: xs) dX9_init_36 ff_X9_30 rfl (jgk_o kd_131) (Nat.lt_of_succ_le (Nat.le_of_ble_eq_true rfl)) rfl rfl rfl ?_
  refine jy_aload_n dX9_init_39 rfl ?_
  refine jy_new (ci := 8) (V := [.null, .int 0]) dX9_init_40 rfl cl_X9_25 ni_8 nd_8 (jgk_r kd_160 (by decide)) (hv_of rfl) ?_
  refine jy_dup dX9_init_43 rfl ?_
  refine jy_bipush (v := nI 8) dX9_init_44 (by decide) ?_
  refine jy_ctor (a := 160) (As := [.int (nI 8)]) (rest := [.ref (E.2.2.2 + 160), .ref (E.2.2.2 + 131)]) (m1 := 162) (z1 := 3875) (xs1 := (131, [.ref (E.2.2.2 + 132), .ref (E.2.2.2 + 149), .ref (E.2.2.2 + 158), .null, .int 0]) :: xs) dX9_init_46 ml_X9_27 mi_X8 (i_X8 (n := 8) (z := 3867) kd_160 (by decide) (by decide +kernel) (by decide) (by decide)) rfl rfl (by decide) (Nat.le_of_ble_eq_true rfl) ?_
  refine jy_putF (ci := 9) (j := 3) (a := 131) (i := 0) (xs1 := (131, [.ref (E.2.2.2 + 132), .ref (E.2.2.2 + 149), .ref (E.2.2.2 + 158), .ref (E.2.2.2 + 160), .int 0]) :: xs) dX9_init_49 ff_X9_34 rfl (jgk_o kd_131) (Nat.lt_of_succ_le (Nat.le_of_ble_eq_true rfl)) rfl rfl rfl ?_
  refine jy_aload_n dX9_init_52 rfl ?_
  refine jy_iconst (v := nI 0) dX9_init_53 (by decide) ?_
  refine jy_put (ci := 9) (j := 4) (a := 131) (i := 0) (xs1 := (131, [.ref (E.2.2.2 + 132), .ref (E.2.2.2 + 149), .ref (E.2.2.2 + 158), .ref (E.2.2.2 + 160), .int (nI 0)]) :: xs) dX9_init_54 fp_X9_37 rfl (jgk_o kd_131) (Nat.lt_of_succ_le (Nat.le_of_ble_eq_true rfl)) rfl rfl rfl ?_
  refine jy_pop kd_131 rfl (os := [(some 132, 0), (some 149, 0), (some 158, 0), (some 160, 0), (none, 0)]) (by decide +kernel) rfl ?_
  exact jy_ret dX9_init_57 (fun H h => h)
