/-! methods, and the words of fields and calls -/
theorem jMv_mk {N : jm} {n : Nat} (ps : List Nat) (h : [Cond.code N.2.1 N.2.2.1 N.2.2.2.1 N.2.2.2.2.1, Cond.initialized N.2.1.cls, Cond.instanceMethod N.2.1, Cond.selects N.2.1.cls N.2.1 N.2.1] = ps.filterMap (fun i => lw_tbl[i]?)) (g : [Cond.code N.2.1 N.2.2.1 N.2.2.2.1 N.2.2.2.2.1, Cond.initialized N.2.1.cls, Cond.instanceMethod N.2.1, Cond.selects N.2.1.cls N.2.1 N.2.1].all goodWord = true) (hd : N.2.1.cls ≠ "java/lang/invoke/MethodHandle" ∧ N.2.1.cls ≠ "java/lang/invoke/VarHandle" ∧ (parseMethodDescriptor N.2.1.desc).map (fun d => d.parameters.length) = some n) (hL : N.2.2.2.1 ≤ 21) : jMv N n := by
  have z := jts ps h g
  exact ⟨⟨z _ (by simp), z _ (by simp), hd, hL⟩, z _ (by simp), z _ (by simp)⟩
theorem jMs_mk {N : jm} {n : Nat} (ps : List Nat) (h : [Cond.code N.2.1 N.2.2.1 N.2.2.2.1 N.2.2.2.2.1, Cond.initialized N.2.1.cls, Cond.static N.2.1] = ps.filterMap (fun i => lw_tbl[i]?)) (g : [Cond.code N.2.1 N.2.2.1 N.2.2.2.1 N.2.2.2.2.1, Cond.initialized N.2.1.cls, Cond.static N.2.1].all goodWord = true) (hd : N.2.1.cls ≠ "java/lang/invoke/MethodHandle" ∧ N.2.1.cls ≠ "java/lang/invoke/VarHandle" ∧ (parseMethodDescriptor N.2.1.desc).map (fun d => d.parameters.length) = some n) (hL : N.2.2.2.1 ≤ 21) : jMs N n := by
  have z := jts ps h g
  exact ⟨⟨z _ (by simp), z _ (by simp), hd, hL⟩, z _ (by simp)⟩
abbrev m_X0_init : jm := (RX0, yX0_init, cX0_init, 1, none, fun _ _ => True)
abbrev m_X0_insert : jm := (RX0, yX0_insert, cX0_insert, 5, none, fun _ _ => True)
theorem mv_X0_insert : jMv m_X0_insert 3 := jMv_mk [947, 118, 945, 946] (by decide +kernel) (by decide +kernel) (by decide +kernel) (by decide)
abbrev m_X8_init : jm := (RX8, yX8_init, cX8_init, 2, none, fun _ _ => True)
abbrev m_X1_init : jm := (RX1, yX1_init, cX1_init, 2, none, fun _ _ => True)
abbrev m_X8_at : jm := (RX8, yX8_at, cX8_at, 2, (some .int), fun _ _ => True)
theorem mv_X8_at : jMv m_X8_at 1 := jMv_mk [605, 109, 603, 604] (by decide +kernel) (by decide +kernel) (by decide +kernel) (by decide)
abbrev m_X2_livingFrom : jm := (RX2, yX2_livingFrom, cX2_livingFrom, 4, (some .int), fun _ _ => True)
theorem mv_X2_livingFrom : jMv m_X2_livingFrom 2 := jMv_mk [891, 115, 889, 890] (by decide +kernel) (by decide +kernel) (by decide +kernel) (by decide)
abbrev m_X8_change : jm := (RX8, yX8_change, cX8_change, 3, none, fun _ _ => True)
theorem mv_X8_change : jMv m_X8_change 2 := jMv_mk [805, 109, 803, 804] (by decide +kernel) (by decide +kernel) (by decide +kernel) (by decide)
abbrev m_X8_add : jm := (RX8, yX8_add, cX8_add, 2, none, fun _ _ => True)
theorem mv_X8_add : jMv m_X8_add 1 := jMv_mk [516, 109, 514, 515] (by decide +kernel) (by decide +kernel) (by decide +kernel) (by decide)
abbrev m_X2_happen : jm := (RX2, yX2_happen, cX2_happen, 6, (some .int), fun _ _ => True)
theorem mv_X2_happen : jMv m_X2_happen 3 := jMv_mk [887, 115, 885, 886] (by decide +kernel) (by decide +kernel) (by decide +kernel) (by decide)
abbrev m_X8_shorten : jm := (RX8, yX8_shorten, cX8_shorten, 2, none, fun _ _ => True)
theorem mv_X8_shorten : jMv m_X8_shorten 1 := jMv_mk [498, 109, 496, 497] (by decide +kernel) (by decide +kernel) (by decide +kernel) (by decide)
abbrev m_X9_rootAt : jm := (RX9, yX9_rootAt, cX9_rootAt, 3, (some .int), fun _ _ => True)
theorem mv_X9_rootAt : jMv m_X9_rootAt 1 := jMv_mk [906, 113, 904, 905] (by decide +kernel) (by decide +kernel) (by decide +kernel) (by decide)
abbrev m_X6_isLeaf : jm := (RX6, yX6_isLeaf, cX6_isLeaf, 2, (some .boolean), fun _ _ => True)
theorem mv_X6_isLeaf : jMv m_X6_isLeaf 1 := jMv_mk [911, 114, 909, 910] (by decide +kernel) (by decide +kernel) (by decide +kernel) (by decide)
abbrev m_X6_endSlot : jm := (RX6, yX6_endSlot, cX6_endSlot, 2, (some .int), fun _ _ => True)
theorem mv_X6_endSlot : jMv m_X6_endSlot 1 := jMv_mk [920, 114, 918, 919] (by decide +kernel) (by decide +kernel) (by decide +kernel) (by decide)
abbrev m_X6_firstSlot : jm := (RX6, yX6_firstSlot, cX6_firstSlot, 2, (some .int), fun _ _ => True)
theorem mv_X6_firstSlot : jMv m_X6_firstSlot 1 := jMv_mk [924, 114, 922, 923] (by decide +kernel) (by decide +kernel) (by decide +kernel) (by decide)
abbrev m_X6_livesAt : jm := (RX6, yX6_livesAt, cX6_livesAt, 4, (some .boolean), fun _ _ => True)
theorem mv_X6_livesAt : jMv m_X6_livesAt 2 := jMv_mk [928, 114, 926, 927] (by decide +kernel) (by decide +kernel) (by decide +kernel) (by decide)
abbrev m_X6_slotToward : jm := (RX6, yX6_slotToward, cX6_slotToward, 7, (some .int), fun _ _ => True)
theorem mv_X6_slotToward : jMv m_X6_slotToward 3 := jMv_mk [916, 114, 914, 915] (by decide +kernel) (by decide +kernel) (by decide +kernel) (by decide)
abbrev m_X9_trace : jm := (RX9, yX9_trace, cX9_trace, 6, none, fun _ _ => True)
theorem mv_X9_trace : jMv m_X9_trace 3 := jMv_mk [902, 113, 900, 901] (by decide +kernel) (by decide +kernel) (by decide +kernel) (by decide)
abbrev m_X1_endLiving : jm := (RX1, yX1_endLiving, cX1_endLiving, 5, (some .int), fun _ _ => True)
theorem mv_X1_endLiving : jMv m_X1_endLiving 2 := jMv_mk [898, 117, 897, 30] (by decide +kernel) (by decide +kernel) (by decide +kernel) (by decide)
abbrev m_X6_append : jm := (RX6, yX6_append, cX6_append, 7, none, fun _ _ => True)
theorem mv_X6_append : jMv m_X6_append 4 := jMv_mk [935, 114, 933, 934] (by decide +kernel) (by decide +kernel) (by decide +kernel) (by decide)
abbrev m_X1_gather : jm := (RX1, yX1_gather, cX1_gather, 5, none, fun _ _ => True)
theorem mv_X1_gather : jMv m_X1_gather 2 := jMv_mk [940, 117, 939, 31] (by decide +kernel) (by decide +kernel) (by decide +kernel) (by decide)
abbrev m_X1_slotOf : jm := (RX1, yX1_slotOf, cX1_slotOf, 6, (some .int), fun _ _ => True)
theorem mv_X1_slotOf : jMv m_X1_slotOf 3 := jMv_mk [959, 117, 958, 34] (by decide +kernel) (by decide +kernel) (by decide +kernel) (by decide)
abbrev m_X6_weak : jm := (RX6, yX6_weak, cX6_weak, 1, (some .int), fun _ _ => True)
theorem mv_X6_weak : jMv m_X6_weak 0 := jMv_mk [963, 114, 961, 962] (by decide +kernel) (by decide +kernel) (by decide +kernel) (by decide)
abbrev m_X6_slotAfter : jm := (RX6, yX6_slotAfter, cX6_slotAfter, 7, (some .int), fun _ _ => True)
theorem mv_X6_slotAfter : jMv m_X6_slotAfter 3 := jMv_mk [967, 114, 965, 966] (by decide +kernel) (by decide +kernel) (by decide +kernel) (by decide)
abbrev m_X1_leaveAbove : jm := (RX1, yX1_leaveAbove, cX1_leaveAbove, 7, none, fun _ _ => True)
theorem mv_X1_leaveAbove : jMv m_X1_leaveAbove 3 := jMv_mk [955, 117, 954, 33] (by decide +kernel) (by decide +kernel) (by decide +kernel) (by decide)
abbrev m_X6_open : jm := (RX6, yX6_open, cX6_open, 4, (some .int), fun _ _ => True)
theorem mv_X6_open : jMv m_X6_open 2 := jMv_mk [512, 114, 510, 511] (by decide +kernel) (by decide +kernel) (by decide +kernel) (by decide)
abbrev m_X1_makePages : jm := (RX1, yX1_makePages, cX1_makePages, 7, none, fun _ _ => True)
theorem mv_X1_makePages : jMv m_X1_makePages 2 := jMv_mk [972, 117, 971, 35] (by decide +kernel) (by decide +kernel) (by decide +kernel) (by decide)
abbrev m_X9_addRoot : jm := (RX9, yX9_addRoot, cX9_addRoot, 3, none, fun _ _ => True)
theorem mv_X9_addRoot : jMv m_X9_addRoot 2 := jMv_mk [536, 113, 534, 535] (by decide +kernel) (by decide +kernel) (by decide +kernel) (by decide)
abbrev m_X1_crown : jm := (RX1, yX1_crown, cX1_crown, 3, none, fun _ _ => True)
theorem mv_X1_crown : jMv m_X1_crown 1 := jMv_mk [977, 117, 976, 36] (by decide +kernel) (by decide +kernel) (by decide +kernel) (by decide)
abbrev m_X6_livingIn : jm := (RX6, yX6_livingIn, cX6_livingIn, 6, (some .int), fun _ _ => True)
theorem mv_X6_livingIn : jMv m_X6_livingIn 2 := jMv_mk [986, 114, 984, 985] (by decide +kernel) (by decide +kernel) (by decide +kernel) (by decide)
abbrev m_X1_handUp : jm := (RX1, yX1_handUp, cX1_handUp, 6, (some .boolean), fun _ _ => True)
theorem mv_X1_handUp : jMv m_X1_handUp 2 := jMv_mk [982, 117, 981, 37] (by decide +kernel) (by decide +kernel) (by decide +kernel) (by decide)
abbrev m_X1_replaceUp : jm := (RX1, yX1_replaceUp, cX1_replaceUp, 4, none, fun _ _ => True)
theorem mv_X1_replaceUp : jMv m_X1_replaceUp 1 := jMv_mk [951, 117, 950, 32] (by decide +kernel) (by decide +kernel) (by decide +kernel) (by decide)
abbrev m_X1_bring : jm := (RX1, yX1_bring, cX1_bring, 5, (some .boolean), fun _ _ => True)
theorem mv_X1_bring : jMv m_X1_bring 2 := jMv_mk [883, 117, 881, 882] (by decide +kernel) (by decide +kernel) (by decide +kernel) (by decide)
abbrev m_X2_now : jm := (RX2, yX2_now, cX2_now, 1, (some .int), fun _ _ => True)
theorem mv_X2_now : jMv m_X2_now 0 := jMv_mk [866, 115, 864, 865] (by decide +kernel) (by decide +kernel) (by decide +kernel) (by decide)
abbrev m_X1_drop : jm := (RX1, yX1_drop, cX1_drop, 5, (some .boolean), fun _ _ => True)
theorem mv_X1_drop : jMv m_X1_drop 1 := jMv_mk [990, 117, 988, 989] (by decide +kernel) (by decide +kernel) (by decide +kernel) (by decide)
abbrev m_X2_init : jm := (RX2, yX2_init, cX2_init, 1, none, fun _ _ => True)
abbrev m_X8_fill : jm := (RX8, yX8_fill, cX8_fill, 4, none, fun _ _ => True)
theorem mv_X8_fill : jMv m_X8_fill 2 := jMv_mk [506, 109, 504, 505] (by decide +kernel) (by decide +kernel) (by decide +kernel) (by decide)
abbrev m_X2_reset : jm := (RX2, yX2_reset, cX2_reset, 1, none, fun _ _ => True)
theorem mv_X2_reset : jMv m_X2_reset 0 := jMv_mk [502, 115, 500, 501] (by decide +kernel) (by decide +kernel) (by decide +kernel) (by decide)
abbrev m_X8_copyFrom : jm := (RX8, yX8_copyFrom, cX8_copyFrom, 2, none, fun _ _ => True)
theorem mv_X8_copyFrom : jMv m_X8_copyFrom 1 := jMv_mk [1298, 109, 1296, 1297] (by decide +kernel) (by decide +kernel) (by decide +kernel) (by decide)
abbrev m_X2_copyFrom : jm := (RX2, yX2_copyFrom, cX2_copyFrom, 2, none, fun _ _ => True)
theorem mv_X2_copyFrom : jMv m_X2_copyFrom 1 := jMv_mk [1303, 115, 1301, 1302] (by decide +kernel) (by decide +kernel) (by decide +kernel) (by decide)
abbrev m_X2_livesAt : jm := (RX2, yX2_livesAt, cX2_livesAt, 4, (some .boolean), fun _ _ => True)
theorem mv_X2_livesAt : jMv m_X2_livesAt 2 := jMv_mk [1043, 115, 1041, 1042] (by decide +kernel) (by decide +kernel) (by decide +kernel) (by decide)
abbrev m_X2_isVersion : jm := (RX2, yX2_isVersion, cX2_isVersion, 3, (some .boolean), fun _ _ => True)
theorem mv_X2_isVersion : jMv m_X2_isVersion 2 := jMv_mk [1122, 115, 1120, 1121] (by decide +kernel) (by decide +kernel) (by decide +kernel) (by decide)
abbrev m_X2_versionsOf : jm := (RX2, yX2_versionsOf, cX2_versionsOf, 4, (some .int), fun _ _ => True)
theorem mv_X2_versionsOf : jMv m_X2_versionsOf 1 := jMv_mk [1118, 115, 1116, 1117] (by decide +kernel) (by decide +kernel) (by decide +kernel) (by decide)
abbrev m_X2_versionFrom : jm := (RX2, yX2_versionFrom, cX2_versionFrom, 5, (some .int), fun _ _ => True)
theorem mv_X2_versionFrom : jMv m_X2_versionFrom 2 := jMv_mk [1130, 115, 1128, 1129] (by decide +kernel) (by decide +kernel) (by decide +kernel) (by decide)
abbrev m_X2_lengthOf : jm := (RX2, yX2_lengthOf, cX2_lengthOf, 3, (some .int), fun _ _ => True)
theorem mv_X2_lengthOf : jMv m_X2_lengthOf 1 := jMv_mk [1220, 115, 1218, 1219] (by decide +kernel) (by decide +kernel) (by decide +kernel) (by decide)
abbrev m_X3_init : jm := (RX3, yX3_init, cX3_init, 2, none, fun _ _ => True)
abbrev m_X3_fillTable : jm := (RX3, yX3_fillTable, cX3_fillTable, 4, none, fun _ _ => True)
theorem mv_X3_fillTable : jMv m_X3_fillTable 2 := jMv_mk [1063, 119, 1062, 39] (by decide +kernel) (by decide +kernel) (by decide +kernel) (by decide)
abbrev m_X3_livingIn : jm := (RX3, yX3_livingIn, cX3_livingIn, 7, (some .int), fun _ _ => True)
theorem mv_X3_livingIn : jMv m_X3_livingIn 3 := jMv_mk [1038, 119, 1036, 1037] (by decide +kernel) (by decide +kernel) (by decide +kernel) (by decide)
abbrev m_X3_totalIn : jm := (RX3, yX3_totalIn, cX3_totalIn, 7, (some .int), fun _ _ => True)
theorem mv_X3_totalIn : jMv m_X3_totalIn 3 := jMv_mk [1051, 119, 1049, 1050] (by decide +kernel) (by decide +kernel) (by decide +kernel) (by decide)
abbrev m_X3_keyByRank : jm := (RX3, yX3_keyByRank, cX3_keyByRank, 5, (some .int), fun _ _ => True)
theorem mv_X3_keyByRank : jMv m_X3_keyByRank 2 := jMv_mk [1059, 119, 1057, 1058] (by decide +kernel) (by decide +kernel) (by decide +kernel) (by decide)
abbrev m_X3_fromKeyUp : jm := (RX3, yX3_fromKeyUp, cX3_fromKeyUp, 6, (some .int), fun _ _ => True)
theorem mv_X3_fromKeyUp : jMv m_X3_fromKeyUp 2 := jMv_mk [1073, 119, 1071, 1072] (by decide +kernel) (by decide +kernel) (by decide +kernel) (by decide)
abbrev m_X3_fromKeyDown : jm := (RX3, yX3_fromKeyDown, cX3_fromKeyDown, 6, (some .int), fun _ _ => True)
theorem mv_X3_fromKeyDown : jMv m_X3_fromKeyDown 2 := jMv_mk [1081, 119, 1079, 1080] (by decide +kernel) (by decide +kernel) (by decide +kernel) (by decide)
abbrev m_X3_differences : jm := (RX3, yX3_differences, cX3_differences, 10, (some .int), fun _ _ => True)
theorem mv_X3_differences : jMv m_X3_differences 4 := jMv_mk [1089, 119, 1087, 1088] (by decide +kernel) (by decide +kernel) (by decide +kernel) (by decide)
abbrev m_X3_livingWithin : jm := (RX3, yX3_livingWithin, cX3_livingWithin, 7, (some .int), fun _ _ => True)
theorem mv_X3_livingWithin : jMv m_X3_livingWithin 4 := jMv_mk [1101, 119, 1099, 1100] (by decide +kernel) (by decide +kernel) (by decide +kernel) (by decide)
abbrev m_X3_timesOf : jm := (RX3, yX3_timesOf, cX3_timesOf, 7, (some .int), fun _ _ => True)
theorem mv_X3_timesOf : jMv m_X3_timesOf 3 := jMv_mk [1109, 119, 1107, 1108] (by decide +kernel) (by decide +kernel) (by decide +kernel) (by decide)
abbrev m_X3_mostLiving : jm := (RX3, yX3_mostLiving, cX3_mostLiving, 9, (some .int), fun _ _ => True)
theorem mv_X3_mostLiving : jMv m_X3_mostLiving 3 := jMv_mk [1141, 119, 1139, 1140] (by decide +kernel) (by decide +kernel) (by decide +kernel) (by decide)
abbrev m_X3_longestVersion : jm := (RX3, yX3_longestVersion, cX3_longestVersion, 7, (some .int), fun _ _ => True)
theorem mv_X3_longestVersion : jMv m_X3_longestVersion 2 := jMv_mk [1215, 119, 1213, 1214] (by decide +kernel) (by decide +kernel) (by decide +kernel) (by decide)
abbrev m_X3_mostVersions : jm := (RX3, yX3_mostVersions, cX3_mostVersions, 6, (some .int), fun _ _ => True)
theorem mv_X3_mostVersions : jMv m_X3_mostVersions 3 := jMv_mk [1228, 119, 1226, 1227] (by decide +kernel) (by decide +kernel) (by decide +kernel) (by decide)
abbrev m_X3_widestGap : jm := (RX3, yX3_widestGap, cX3_widestGap, 7, (some .int), fun _ _ => True)
theorem mv_X3_widestGap : jMv m_X3_widestGap 2 := jMv_mk [1236, 119, 1234, 1235] (by decide +kernel) (by decide +kernel) (by decide +kernel) (by decide)
abbrev m_X4_init : jm := (RX4, yX4_init, cX4_init, 2, none, fun _ _ => True)
abbrev m_X4_isBlank : jm := (RX4, yX4_isBlank, cX4_isBlank, 1, (some .boolean), fun _ _ => True)
theorem ms_X4_isBlank : jMs m_X4_isBlank 1 := jMs_mk [608, 111, 607] (by decide +kernel) (by decide +kernel) (by decide +kernel) (by decide)
abbrev m_X4_pastBlanks : jm := (RX4, yX4_pastBlanks, cX4_pastBlanks, 3, (some .int), fun _ _ => True)
theorem mv_X4_pastBlanks : jMv m_X4_pastBlanks 1 := jMv_mk [601, 111, 600, 1] (by decide +kernel) (by decide +kernel) (by decide +kernel) (by decide)
abbrev m_X4_keep : jm := (RX4, yX4_keep, cX4_keep, 4, none, fun _ _ => True)
theorem mv_X4_keep : jMv m_X4_keep 3 := jMv_mk [616, 111, 615, 3] (by decide +kernel) (by decide +kernel) (by decide +kernel) (by decide)
abbrev m_X4_isLetter : jm := (RX4, yX4_isLetter, cX4_isLetter, 1, (some .boolean), fun _ _ => True)
theorem ms_X4_isLetter : jMs m_X4_isLetter 1 := jMs_mk [620, 111, 619] (by decide +kernel) (by decide +kernel) (by decide +kernel) (by decide)
abbrev m_X4_spells : jm := (RX4, yX4_spells, cX4_spells, 5, (some .boolean), fun _ _ => True)
theorem mv_X4_spells : jMv m_X4_spells 3 := jMv_mk [633, 111, 632, 6] (by decide +kernel) (by decide +kernel) (by decide +kernel) (by decide)
abbrev m_X4_kindOfVar : jm := (RX4, yX4_kindOfVar, cX4_kindOfVar, 3, (some .int), fun _ _ => True)
theorem mv_X4_kindOfVar : jMv m_X4_kindOfVar 2 := jMv_mk [689, 111, 688, 7] (by decide +kernel) (by decide +kernel) (by decide +kernel) (by decide)
abbrev m_X4_kindOfWord : jm := (RX4, yX4_kindOfWord, cX4_kindOfWord, 3, (some .int), fun _ _ => True)
theorem mv_X4_kindOfWord : jMv m_X4_kindOfWord 2 := jMv_mk [628, 111, 627, 5] (by decide +kernel) (by decide +kernel) (by decide +kernel) (by decide)
abbrev m_X4_lexWord : jm := (RX4, yX4_lexWord, cX4_lexWord, 3, (some .int), fun _ _ => True)
theorem mv_X4_lexWord : jMv m_X4_lexWord 1 := jMv_mk [624, 111, 623, 4] (by decide +kernel) (by decide +kernel) (by decide +kernel) (by decide)
abbrev m_X4_isDigit : jm := (RX4, yX4_isDigit, cX4_isDigit, 1, (some .boolean), fun _ _ => True)
theorem ms_X4_isDigit : jMs m_X4_isDigit 1 := jMs_mk [698, 111, 697] (by decide +kernel) (by decide +kernel) (by decide +kernel) (by decide)
abbrev m_X4_lexInt : jm := (RX4, yX4_lexInt, cX4_lexInt, 4, (some .int), fun _ _ => True)
theorem mv_X4_lexInt : jMv m_X4_lexInt 1 := jMv_mk [702, 111, 701, 8] (by decide +kernel) (by decide +kernel) (by decide +kernel) (by decide)
abbrev m_X4_lexOne : jm := (RX4, yX4_lexOne, cX4_lexOne, 3, (some .int), fun _ _ => True)
theorem mv_X4_lexOne : jMv m_X4_lexOne 1 := jMv_mk [612, 111, 611, 2] (by decide +kernel) (by decide +kernel) (by decide +kernel) (by decide)
abbrev m_X4_lexAll : jm := (RX4, yX4_lexAll, cX4_lexAll, 4, none, fun _ _ => True)
theorem mv_X4_lexAll : jMv m_X4_lexAll 0 := jMv_mk [596, 111, 594, 595] (by decide +kernel) (by decide +kernel) (by decide +kernel) (by decide)
abbrev m_X5_init : jm := (RX5, yX5_init, cX5_init, 2, none, fun _ _ => True)
abbrev m_X5_levels : jm := (RX5, yX5_levels, cX5_levels, 2, (some .int), fun _ _ => True)
theorem mv_X5_levels : jMv m_X5_levels 1 := jMv_mk [1154, 120, 1152, 1153] (by decide +kernel) (by decide +kernel) (by decide +kernel) (by decide)
abbrev m_X5_leafOf : jm := (RX5, yX5_leafOf, cX5_leafOf, 3, (some .int), fun _ _ => True)
theorem mv_X5_leafOf : jMv m_X5_leafOf 2 := jMv_mk [1163, 120, 1161, 1162] (by decide +kernel) (by decide +kernel) (by decide +kernel) (by decide)
abbrev m_X5_pageOnWay : jm := (RX5, yX5_pageOnWay, cX5_pageOnWay, 4, (some .int), fun _ _ => True)
theorem mv_X5_pageOnWay : jMv m_X5_pageOnWay 3 := jMv_mk [1207, 120, 1205, 1206] (by decide +kernel) (by decide +kernel) (by decide +kernel) (by decide)
abbrev m_X5_comeBelow : jm := (RX5, yX5_comeBelow, cX5_comeBelow, 11, none, fun _ _ => True)
theorem mv_X5_comeBelow : jMv m_X5_comeBelow 4 := jMv_mk [1184, 120, 1183, 42] (by decide +kernel) (by decide +kernel) (by decide +kernel) (by decide)
abbrev m_X5_comeTo : jm := (RX5, yX5_comeTo, cX5_comeTo, 5, none, fun _ _ => True)
theorem mv_X5_comeTo : jMv m_X5_comeTo 3 := jMv_mk [1176, 120, 1175, 41] (by decide +kernel) (by decide +kernel) (by decide +kernel) (by decide)
abbrev m_X5_pagesFor : jm := (RX5, yX5_pagesFor, cX5_pagesFor, 4, (some .int), fun _ _ => True)
theorem mv_X5_pagesFor : jMv m_X5_pagesFor 3 := jMv_mk [1172, 120, 1170, 1171] (by decide +kernel) (by decide +kernel) (by decide +kernel) (by decide)
abbrev m_X5_weakPages : jm := (RX5, yX5_weakPages, cX5_weakPages, 4, (some .int), fun _ _ => True)
theorem mv_X5_weakPages : jMv m_X5_weakPages 1 := jMv_mk [1197, 120, 1195, 1196] (by decide +kernel) (by decide +kernel) (by decide +kernel) (by decide)
abbrev m_X5_heldAt : jm := (RX5, yX5_heldAt, cX5_heldAt, 8, (some .int), fun _ _ => True)
theorem mv_X5_heldAt : jMv m_X5_heldAt 2 := jMv_mk [1244, 120, 1242, 1243] (by decide +kernel) (by decide +kernel) (by decide +kernel) (by decide)
abbrev m_X6_init : jm := (RX6, yX6_init, cX6_init, 1, none, fun _ _ => True)
abbrev m_X6_reset : jm := (RX6, yX6_reset, cX6_reset, 2, none, fun _ _ => True)
theorem mv_X6_reset : jMv m_X6_reset 1 := jMv_mk [494, 114, 492, 493] (by decide +kernel) (by decide +kernel) (by decide +kernel) (by decide)
abbrev m_X6_copyFrom : jm := (RX6, yX6_copyFrom, cX6_copyFrom, 2, none, fun _ _ => True)
theorem mv_X6_copyFrom : jMv m_X6_copyFrom 1 := jMv_mk [1294, 114, 1292, 1293] (by decide +kernel) (by decide +kernel) (by decide +kernel) (by decide)
abbrev m_X6_isPage : jm := (RX6, yX6_isPage, cX6_isPage, 2, (some .boolean), fun _ _ => True)
theorem mv_X6_isPage : jMv m_X6_isPage 1 := jMv_mk [1252, 114, 1250, 1251] (by decide +kernel) (by decide +kernel) (by decide +kernel) (by decide)
abbrev m_X6_openIn : jm := (RX6, yX6_openIn, cX6_openIn, 5, (some .int), fun _ _ => True)
theorem mv_X6_openIn : jMv m_X6_openIn 1 := jMv_mk [1256, 114, 1254, 1255] (by decide +kernel) (by decide +kernel) (by decide +kernel) (by decide)
abbrev m_X6_allEntries : jm := (RX6, yX6_allEntries, cX6_allEntries, 3, (some .int), fun _ _ => True)
theorem mv_X6_allEntries : jMv m_X6_allEntries 0 := jMv_mk [1269, 114, 1267, 1268] (by decide +kernel) (by decide +kernel) (by decide +kernel) (by decide)
abbrev m_X6_endedPages : jm := (RX6, yX6_endedPages, cX6_endedPages, 3, (some .int), fun _ _ => True)
theorem mv_X6_endedPages : jMv m_X6_endedPages 0 := jMv_mk [1273, 114, 1271, 1272] (by decide +kernel) (by decide +kernel) (by decide +kernel) (by decide)
abbrev m_X6_madeAt : jm := (RX6, yX6_madeAt, cX6_madeAt, 4, (some .int), fun _ _ => True)
theorem mv_X6_madeAt : jMv m_X6_madeAt 1 := jMv_mk [1322, 114, 1320, 1321] (by decide +kernel) (by decide +kernel) (by decide +kernel) (by decide)
abbrev m_X6_copies : jm := (RX6, yX6_copies, cX6_copies, 5, (some .int), fun _ _ => True)
theorem mv_X6_copies : jMv m_X6_copies 0 := jMv_mk [1277, 114, 1275, 1276] (by decide +kernel) (by decide +kernel) (by decide +kernel) (by decide)
abbrev m_X7_init : jm := (RX7, yX7_init, cX7_init, 2, none, fun _ _ => True)
abbrev m_X7_ahead : jm := (RX7, yX7_ahead, cX7_ahead, 1, (some .int), fun _ _ => True)
theorem mv_X7_ahead : jMv m_X7_ahead 0 := jMv_mk [772, 112, 771, 10] (by decide +kernel) (by decide +kernel) (by decide +kernel) (by decide)
abbrev m_X7_fail : jm := (RX7, yX7_fail, cX7_fail, 2, none, fun _ _ => True)
theorem mv_X7_fail : jMv m_X7_fail 1 := jMv_mk [781, 112, 780, 12] (by decide +kernel) (by decide +kernel) (by decide +kernel) (by decide)
abbrev m_X7_take : jm := (RX7, yX7_take, cX7_take, 1, none, fun _ _ => True)
theorem mv_X7_take : jMv m_X7_take 0 := jMv_mk [777, 112, 776, 11] (by decide +kernel) (by decide +kernel) (by decide +kernel) (by decide)
abbrev m_X7_takeKind : jm := (RX7, yX7_takeKind, cX7_takeKind, 2, none, fun _ _ => True)
theorem mv_X7_takeKind : jMv m_X7_takeKind 1 := jMv_mk [789, 112, 788, 14] (by decide +kernel) (by decide +kernel) (by decide +kernel) (by decide)
abbrev m_X7_takeNumber : jm := (RX7, yX7_takeNumber, cX7_takeNumber, 4, (some .int), fun _ _ => True)
theorem mv_X7_takeNumber : jMv m_X7_takeNumber 2 := jMv_mk [785, 112, 784, 13] (by decide +kernel) (by decide +kernel) (by decide +kernel) (by decide)
abbrev m_X7_parsePage : jm := (RX7, yX7_parsePage, cX7_parsePage, 1, none, fun _ _ => True)
theorem mv_X7_parsePage : jMv m_X7_parsePage 0 := jMv_mk [768, 112, 767, 9] (by decide +kernel) (by decide +kernel) (by decide +kernel) (by decide)
abbrev m_X7_atEnd : jm := (RX7, yX7_atEnd, cX7_atEnd, 1, (some .boolean), fun _ _ => True)
theorem mv_X7_atEnd : jMv m_X7_atEnd 0 := jMv_mk [793, 112, 792, 15] (by decide +kernel) (by decide +kernel) (by decide +kernel) (by decide)
abbrev m_X7_markAct : jm := (RX7, yX7_markAct, cX7_markAct, 1, none, fun _ _ => True)
theorem mv_X7_markAct : jMv m_X7_markAct 0 := jMv_mk [801, 112, 800, 17] (by decide +kernel) (by decide +kernel) (by decide +kernel) (by decide)
abbrev m_X7_isUnit : jm := (RX7, yX7_isUnit, cX7_isUnit, 1, (some .boolean), fun _ _ => True)
theorem ms_X7_isUnit : jMs m_X7_isUnit 1 := jMs_mk [812, 112, 811] (by decide +kernel) (by decide +kernel) (by decide +kernel) (by decide)
abbrev m_X7_isOperator : jm := (RX7, yX7_isOperator, cX7_isOperator, 1, (some .boolean), fun _ _ => True)
theorem ms_X7_isOperator : jMs m_X7_isOperator 1 := jMs_mk [815, 112, 814] (by decide +kernel) (by decide +kernel) (by decide +kernel) (by decide)
abbrev m_X7_parseExpression : jm := (RX7, yX7_parseExpression, cX7_parseExpression, 5, none, fun _ _ => True)
theorem mv_X7_parseExpression : jMv m_X7_parseExpression 0 := jMv_mk [809, 112, 808, 18] (by decide +kernel) (by decide +kernel) (by decide +kernel) (by decide)
abbrev m_X7_parseDo : jm := (RX7, yX7_parseDo, cX7_parseDo, 1, none, fun _ _ => True)
theorem mv_X7_parseDo : jMv m_X7_parseDo 0 := jMv_mk [819, 112, 818, 19] (by decide +kernel) (by decide +kernel) (by decide +kernel) (by decide)
abbrev m_X7_parseEnd : jm := (RX7, yX7_parseEnd, cX7_parseEnd, 2, none, fun _ _ => True)
theorem mv_X7_parseEnd : jMv m_X7_parseEnd 0 := jMv_mk [824, 112, 823, 20] (by decide +kernel) (by decide +kernel) (by decide +kernel) (by decide)
abbrev m_X7_parseTell : jm := (RX7, yX7_parseTell, cX7_parseTell, 1, none, fun _ _ => True)
theorem mv_X7_parseTell : jMv m_X7_parseTell 0 := jMv_mk [797, 112, 796, 16] (by decide +kernel) (by decide +kernel) (by decide +kernel) (by decide)
abbrev m_X7_parseAll : jm := (RX7, yX7_parseAll, cX7_parseAll, 2, none, fun _ _ => True)
theorem mv_X7_parseAll : jMv m_X7_parseAll 0 := jMv_mk [762, 112, 760, 761] (by decide +kernel) (by decide +kernel) (by decide +kernel) (by decide)
abbrev m_X9_init : jm := (RX9, yX9_init, cX9_init, 1, none, fun _ _ => True)
abbrev m_X9_reset : jm := (RX9, yX9_reset, cX9_reset, 2, none, fun _ _ => True)
theorem mv_X9_reset : jMv m_X9_reset 1 := jMv_mk [490, 113, 488, 489] (by decide +kernel) (by decide +kernel) (by decide +kernel) (by decide)
abbrev m_X9_copyFrom : jm := (RX9, yX9_copyFrom, cX9_copyFrom, 2, none, fun _ _ => True)
theorem mv_X9_copyFrom : jMv m_X9_copyFrom 1 := jMv_mk [1290, 113, 1288, 1289] (by decide +kernel) (by decide +kernel) (by decide +kernel) (by decide)
abbrev m_X10_init : jm := (RX10, yX10_init, cX10_init, 4, none, fun _ _ => True)
abbrev m_X10_start : jm := (RX10, yX10_start, cX10_start, 1, none, fun _ _ => True)
theorem mv_X10_start : jMv m_X10_start 0 := jMv_mk [840, 116, 838, 839] (by decide +kernel) (by decide +kernel) (by decide +kernel) (by decide)
abbrev m_X10_variable : jm := (RX10, yX10_variable, cX10_variable, 2, (some .int), fun _ _ => True)
theorem mv_X10_variable : jMv m_X10_variable 1 := jMv_mk [862, 116, 861, 27] (by decide +kernel) (by decide +kernel) (by decide +kernel) (by decide)
abbrev m_X10_total : jm := (RX10, yX10_total, cX10_total, 6, (some .int), fun _ _ => True)
theorem mv_X10_total : jMv m_X10_total 1 := jMv_mk [850, 116, 849, 24] (by decide +kernel) (by decide +kernel) (by decide +kernel) (by decide)
abbrev m_X10_unit : jm := (RX10, yX10_unit, cX10_unit, 4, (some .int), fun _ _ => True)
theorem mv_X10_unit : jMv m_X10_unit 1 := jMv_mk [858, 116, 857, 26] (by decide +kernel) (by decide +kernel) (by decide +kernel) (by decide)
abbrev m_X10_product : jm := (RX10, yX10_product, cX10_product, 6, (some .int), fun _ _ => True)
theorem mv_X10_product : jMv m_X10_product 1 := jMv_mk [854, 116, 853, 25] (by decide +kernel) (by decide +kernel) (by decide +kernel) (by decide)
abbrev m_X10_beginDo : jm := (RX10, yX10_beginDo, cX10_beginDo, 1, none, fun _ _ => True)
theorem mv_X10_beginDo : jMv m_X10_beginDo 0 := jMv_mk [873, 116, 872, 28] (by decide +kernel) (by decide +kernel) (by decide +kernel) (by decide)
abbrev m_X10_endRound : jm := (RX10, yX10_endRound, cX10_endRound, 3, none, fun _ _ => True)
theorem mv_X10_endRound : jMv m_X10_endRound 0 := jMv_mk [878, 116, 877, 29] (by decide +kernel) (by decide +kernel) (by decide +kernel) (by decide)
abbrev m_X10_goOn : jm := (RX10, yX10_goOn, cX10_goOn, 2, (some .boolean), fun _ _ => True)
theorem mv_X10_goOn : jMv m_X10_goOn 0 := jMv_mk [846, 116, 844, 845] (by decide +kernel) (by decide +kernel) (by decide +kernel) (by decide)
abbrev m_X11_init : jm := (RX11, yX11_init, cX11_init, 2, none, fun _ _ => True)
abbrev m_X11_feedFour : jm := (RX11, yX11_feedFour, cX11_feedFour, 3, none, fun _ _ => True)
theorem mv_X11_feedFour : jMv m_X11_feedFour 1 := jMv_mk [582, 108, 581, 0] (by decide +kernel) (by decide +kernel) (by decide +kernel) (by decide)
abbrev m_X11_feed : jm := (RX11, yX11_feed, cX11_feed, 6, (some .int), fun _ _ => True)
theorem mv_X11_feed : jMv m_X11_feed 5 := jMv_mk [578, 108, 576, 577] (by decide +kernel) (by decide +kernel) (by decide +kernel) (by decide)
abbrev m_X11_back : jm := (RX11, yX11_back, cX11_back, 2, (some .int), fun _ _ => True)
theorem mv_X11_back : jMv m_X11_back 1 := jMv_mk [587, 108, 585, 586] (by decide +kernel) (by decide +kernel) (by decide +kernel) (by decide)
abbrev m_X11_isSlot : jm := (RX11, yX11_isSlot, cX11_isSlot, 2, (some .boolean), fun _ _ => True)
theorem mv_X11_isSlot : jMv m_X11_isSlot 1 := jMv_mk [832, 108, 831, 22] (by decide +kernel) (by decide +kernel) (by decide +kernel) (by decide)
abbrev m_X11_emptySlots : jm := (RX11, yX11_emptySlots, cX11_emptySlots, 2, none, fun _ _ => True)
theorem mv_X11_emptySlots : jMv m_X11_emptySlots 0 := jMv_mk [828, 108, 827, 21] (by decide +kernel) (by decide +kernel) (by decide +kernel) (by decide)
abbrev m_X11_tellAll : jm := (RX11, yX11_tellAll, cX11_tellAll, 3, none, fun _ _ => True)
theorem mv_X11_tellAll : jMv m_X11_tellAll 0 := jMv_mk [836, 108, 835, 23] (by decide +kernel) (by decide +kernel) (by decide +kernel) (by decide)
abbrev m_X11_read : jm := (RX11, yX11_read, cX11_read, 1, (some .int), fun _ _ => True)
theorem mv_X11_read : jMv m_X11_read 0 := jMv_mk [592, 108, 590, 591] (by decide +kernel) (by decide +kernel) (by decide +kernel) (by decide)
abbrev m_X11_place : jm := (RX11, yX11_place, cX11_place, 1, (some .int), fun _ _ => True)
theorem mv_X11_place : jMv m_X11_place 0 := jMv_mk [997, 108, 995, 996] (by decide +kernel) (by decide +kernel) (by decide +kernel) (by decide)
abbrev m_X11_isKey : jm := (RX11, yX11_isKey, cX11_isKey, 1, (some .boolean), fun _ _ => True)
theorem ms_X11_isKey : jMs m_X11_isKey 1 := jMs_mk [1004, 108, 1003] (by decide +kernel) (by decide +kernel) (by decide +kernel) (by decide)
abbrev m_X11_put : jm := (RX11, yX11_put, cX11_put, 3, (some .int), fun _ _ => True)
theorem mv_X11_put : jMv m_X11_put 2 := jMv_mk [1001, 108, 999, 1000] (by decide +kernel) (by decide +kernel) (by decide +kernel) (by decide)
abbrev m_X11_cut : jm := (RX11, yX11_cut, cX11_cut, 2, (some .int), fun _ _ => True)
theorem mv_X11_cut : jMv m_X11_cut 1 := jMv_mk [1009, 108, 1007, 1008] (by decide +kernel) (by decide +kernel) (by decide +kernel) (by decide)
abbrev m_X11_isTime : jm := (RX11, yX11_isTime, cX11_isTime, 2, (some .boolean), fun _ _ => True)
theorem mv_X11_isTime : jMv m_X11_isTime 1 := jMv_mk [1017, 108, 1016, 38] (by decide +kernel) (by decide +kernel) (by decide +kernel) (by decide)
abbrev m_X11_has : jm := (RX11, yX11_has, cX11_has, 3, (some .int), fun _ _ => True)
theorem mv_X11_has : jMv m_X11_has 2 := jMv_mk [1013, 108, 1011, 1012] (by decide +kernel) (by decide +kernel) (by decide +kernel) (by decide)
abbrev m_X11_value : jm := (RX11, yX11_value, cX11_value, 4, (some .int), fun _ _ => True)
theorem mv_X11_value : jMv m_X11_value 2 := jMv_mk [1022, 108, 1020, 1021] (by decide +kernel) (by decide +kernel) (by decide +kernel) (by decide)
abbrev m_X11_since : jm := (RX11, yX11_since, cX11_since, 4, (some .int), fun _ _ => True)
theorem mv_X11_since : jMv m_X11_since 2 := jMv_mk [1027, 108, 1025, 1026] (by decide +kernel) (by decide +kernel) (by decide +kernel) (by decide)
abbrev m_X11_isRange : jm := (RX11, yX11_isRange, cX11_isRange, 2, (some .boolean), fun _ _ => True)
theorem ms_X11_isRange : jMs m_X11_isRange 2 := jMs_mk [1034, 108, 1033] (by decide +kernel) (by decide +kernel) (by decide +kernel) (by decide)
abbrev m_X11_many : jm := (RX11, yX11_many, cX11_many, 4, (some .int), fun _ _ => True)
theorem mv_X11_many : jMv m_X11_many 3 := jMv_mk [1031, 108, 1029, 1030] (by decide +kernel) (by decide +kernel) (by decide +kernel) (by decide)
abbrev m_X11_sum : jm := (RX11, yX11_sum, cX11_sum, 4, (some .int), fun _ _ => True)
theorem mv_X11_sum : jMv m_X11_sum 3 := jMv_mk [1047, 108, 1045, 1046] (by decide +kernel) (by decide +kernel) (by decide +kernel) (by decide)
abbrev m_X11_nth : jm := (RX11, yX11_nth, cX11_nth, 3, (some .int), fun _ _ => True)
theorem mv_X11_nth : jMv m_X11_nth 2 := jMv_mk [1055, 108, 1053, 1054] (by decide +kernel) (by decide +kernel) (by decide +kernel) (by decide)
abbrev m_X11_next : jm := (RX11, yX11_next, cX11_next, 3, (some .int), fun _ _ => True)
theorem mv_X11_next : jMv m_X11_next 2 := jMv_mk [1069, 108, 1067, 1068] (by decide +kernel) (by decide +kernel) (by decide +kernel) (by decide)
abbrev m_X11_prior : jm := (RX11, yX11_prior, cX11_prior, 3, (some .int), fun _ _ => True)
theorem mv_X11_prior : jMv m_X11_prior 2 := jMv_mk [1077, 108, 1075, 1076] (by decide +kernel) (by decide +kernel) (by decide +kernel) (by decide)
abbrev m_X11_differ : jm := (RX11, yX11_differ, cX11_differ, 5, (some .int), fun _ _ => True)
theorem mv_X11_differ : jMv m_X11_differ 4 := jMv_mk [1085, 108, 1083, 1084] (by decide +kernel) (by decide +kernel) (by decide +kernel) (by decide)
abbrev m_X11_isSpan : jm := (RX11, yX11_isSpan, cX11_isSpan, 3, (some .boolean), fun _ _ => True)
theorem mv_X11_isSpan : jMv m_X11_isSpan 2 := jMv_mk [1097, 108, 1096, 40] (by decide +kernel) (by decide +kernel) (by decide +kernel) (by decide)
abbrev m_X11_ever : jm := (RX11, yX11_ever, cX11_ever, 5, (some .int), fun _ _ => True)
theorem mv_X11_ever : jMv m_X11_ever 4 := jMv_mk [1093, 108, 1091, 1092] (by decide +kernel) (by decide +kernel) (by decide +kernel) (by decide)
abbrev m_X11_stay : jm := (RX11, yX11_stay, cX11_stay, 4, (some .int), fun _ _ => True)
theorem mv_X11_stay : jMv m_X11_stay 3 := jMv_mk [1105, 108, 1103, 1104] (by decide +kernel) (by decide +kernel) (by decide +kernel) (by decide)
abbrev m_X11_versions : jm := (RX11, yX11_versions, cX11_versions, 2, (some .int), fun _ _ => True)
theorem mv_X11_versions : jMv m_X11_versions 1 := jMv_mk [1114, 108, 1112, 1113] (by decide +kernel) (by decide +kernel) (by decide +kernel) (by decide)
abbrev m_X11_version : jm := (RX11, yX11_version, cX11_version, 5, (some .int), fun _ _ => True)
theorem mv_X11_version : jMv m_X11_version 3 := jMv_mk [1126, 108, 1124, 1125] (by decide +kernel) (by decide +kernel) (by decide +kernel) (by decide)
abbrev m_X11_isEither : jm := (RX11, yX11_isEither, cX11_isEither, 1, (some .boolean), fun _ _ => True)
theorem ms_X11_isEither : jMs m_X11_isEither 1 := jMs_mk [1137, 108, 1136] (by decide +kernel) (by decide +kernel) (by decide +kernel) (by decide)
abbrev m_X11_peak : jm := (RX11, yX11_peak, cX11_peak, 4, (some .int), fun _ _ => True)
theorem mv_X11_peak : jMv m_X11_peak 3 := jMv_mk [1134, 108, 1132, 1133] (by decide +kernel) (by decide +kernel) (by decide +kernel) (by decide)
abbrev m_X11_root : jm := (RX11, yX11_root, cX11_root, 2, (some .int), fun _ _ => True)
theorem mv_X11_root : jMv m_X11_root 1 := jMv_mk [1145, 108, 1143, 1144] (by decide +kernel) (by decide +kernel) (by decide +kernel) (by decide)
abbrev m_X11_deep : jm := (RX11, yX11_deep, cX11_deep, 2, (some .int), fun _ _ => True)
theorem mv_X11_deep : jMv m_X11_deep 1 := jMv_mk [1150, 108, 1148, 1149] (by decide +kernel) (by decide +kernel) (by decide +kernel) (by decide)
abbrev m_X11_leaf : jm := (RX11, yX11_leaf, cX11_leaf, 3, (some .int), fun _ _ => True)
theorem mv_X11_leaf : jMv m_X11_leaf 2 := jMv_mk [1159, 108, 1157, 1158] (by decide +kernel) (by decide +kernel) (by decide +kernel) (by decide)
abbrev m_X11_reads : jm := (RX11, yX11_reads, cX11_reads, 4, (some .int), fun _ _ => True)
theorem mv_X11_reads : jMv m_X11_reads 3 := jMv_mk [1168, 108, 1166, 1167] (by decide +kernel) (by decide +kernel) (by decide +kernel) (by decide)
abbrev m_X11_thin : jm := (RX11, yX11_thin, cX11_thin, 2, (some .int), fun _ _ => True)
theorem mv_X11_thin : jMv m_X11_thin 1 := jMv_mk [1193, 108, 1191, 1192] (by decide +kernel) (by decide +kernel) (by decide +kernel) (by decide)
abbrev m_X11_way : jm := (RX11, yX11_way, cX11_way, 4, (some .int), fun _ _ => True)
theorem mv_X11_way : jMv m_X11_way 3 := jMv_mk [1203, 108, 1201, 1202] (by decide +kernel) (by decide +kernel) (by decide +kernel) (by decide)
abbrev m_X11_longest : jm := (RX11, yX11_longest, cX11_longest, 3, (some .int), fun _ _ => True)
theorem mv_X11_longest : jMv m_X11_longest 2 := jMv_mk [1211, 108, 1209, 1210] (by decide +kernel) (by decide +kernel) (by decide +kernel) (by decide)
abbrev m_X11_busiest : jm := (RX11, yX11_busiest, cX11_busiest, 4, (some .int), fun _ _ => True)
theorem mv_X11_busiest : jMv m_X11_busiest 3 := jMv_mk [1224, 108, 1222, 1223] (by decide +kernel) (by decide +kernel) (by decide +kernel) (by decide)
abbrev m_X11_gap : jm := (RX11, yX11_gap, cX11_gap, 3, (some .int), fun _ _ => True)
theorem mv_X11_gap : jMv m_X11_gap 2 := jMv_mk [1232, 108, 1230, 1231] (by decide +kernel) (by decide +kernel) (by decide +kernel) (by decide)
abbrev m_X11_held : jm := (RX11, yX11_held, cX11_held, 3, (some .int), fun _ _ => True)
theorem mv_X11_held : jMv m_X11_held 2 := jMv_mk [1240, 108, 1238, 1239] (by decide +kernel) (by decide +kernel) (by decide +kernel) (by decide)
abbrev m_X11_page : jm := (RX11, yX11_page, cX11_page, 4, (some .int), fun _ _ => True)
theorem mv_X11_page : jMv m_X11_page 2 := jMv_mk [1248, 108, 1246, 1247] (by decide +kernel) (by decide +kernel) (by decide +kernel) (by decide)
abbrev m_X11_entry : jm := (RX11, yX11_entry, cX11_entry, 6, (some .int), fun _ _ => True)
theorem mv_X11_entry : jMv m_X11_entry 3 := jMv_mk [1260, 108, 1258, 1259] (by decide +kernel) (by decide +kernel) (by decide +kernel) (by decide)
abbrev m_X11_entriesByTime : jm := (RX11, yX11_entriesByTime, cX11_entriesByTime, 2, (some .int), fun _ _ => True)
theorem mv_X11_entriesByTime : jMv m_X11_entriesByTime 0 := jMv_mk [1282, 108, 1281, 43] (by decide +kernel) (by decide +kernel) (by decide +kernel) (by decide)
abbrev m_X11_room : jm := (RX11, yX11_room, cX11_room, 2, (some .int), fun _ _ => True)
theorem mv_X11_room : jMv m_X11_room 1 := jMv_mk [1265, 108, 1263, 1264] (by decide +kernel) (by decide +kernel) (by decide +kernel) (by decide)
abbrev m_X11_hold : jm := (RX11, yX11_hold, cX11_hold, 2, (some .boolean), fun _ _ => True)
theorem mv_X11_hold : jMv m_X11_hold 1 := jMv_mk [1286, 108, 1284, 1285] (by decide +kernel) (by decide +kernel) (by decide +kernel) (by decide)
abbrev m_X11_restore : jm := (RX11, yX11_restore, cX11_restore, 2, (some .boolean), fun _ _ => True)
theorem mv_X11_restore : jMv m_X11_restore 1 := jMv_mk [1309, 108, 1307, 1308] (by decide +kernel) (by decide +kernel) (by decide +kernel) (by decide)
abbrev m_X11_filledSlots : jm := (RX11, yX11_filledSlots, cX11_filledSlots, 3, (some .int), fun _ _ => True)
theorem mv_X11_filledSlots : jMv m_X11_filledSlots 0 := jMv_mk [1318, 108, 1317, 44] (by decide +kernel) (by decide +kernel) (by decide +kernel) (by decide)
abbrev m_X11_count : jm := (RX11, yX11_count, cX11_count, 3, (some .int), fun _ _ => True)
theorem mv_X11_count : jMv m_X11_count 1 := jMv_mk [1313, 108, 1311, 1312] (by decide +kernel) (by decide +kernel) (by decide +kernel) (by decide)
abbrev m_X12_appends : jm := (RX12, yX12_appends, cX12_appends, 3, (some .long), fun _ _ => True)
theorem ms_X12_appends : jMs m_X12_appends 2 := jMs_mk [1336, 123, 1335] (by decide +kernel) (by decide +kernel) (by decide +kernel) (by decide)
abbrev m_X12_letters : jm := (RX12, yX12_letters, cX12_letters, 7, (some .long), fun _ _ => True)
theorem ms_X12_letters : jMs m_X12_letters 7 := jMs_mk [1333, 123, 1332] (by decide +kernel) (by decide +kernel) (by decide +kernel) (by decide)
abbrev m_X12_makes : jm := (RX12, yX12_makes, cX12_makes, 3, (some .int), fun _ _ => True)
theorem mv_X12_makes : jMv m_X12_makes 1 := jMv_mk [1346, 123, 1345, 46] (by decide +kernel) (by decide +kernel) (by decide +kernel) (by decide)
abbrev m_X12_becomesRoot : jm := (RX12, yX12_becomesRoot, cX12_becomesRoot, 2, none, fun _ _ => True)
theorem mv_X12_becomesRoot : jMv m_X12_becomesRoot 1 := jMv_mk [1350, 123, 1349, 47] (by decide +kernel) (by decide +kernel) (by decide +kernel) (by decide)
abbrev m_X12_begins : jm := (RX12, yX12_begins, cX12_begins, 3, none, fun _ _ => True)
theorem mv_X12_begins : jMv m_X12_begins 1 := jMv_mk [1341, 123, 1340, 45] (by decide +kernel) (by decide +kernel) (by decide +kernel) (by decide)
abbrev m_X12_init : jm := (RX12, yX12_init, cX12_init, 1, none, fun _ _ => True)
abbrev m_X12_lays : jm := (RX12, yX12_lays, cX12_lays, 3, none, fun _ _ => True)
theorem mv_X12_lays : jMv m_X12_lays 1 := jMv_mk [1504, 123, 1503, 48] (by decide +kernel) (by decide +kernel) (by decide +kernel) (by decide)
abbrev m_X12_feed : jm := (RX12, yX12_feed, cX12_feed, 6, (some .int), fun _ _ => True)
theorem mv_X12_feed : jMv m_X12_feed 5 := jMv_mk [1500, 123, 1498, 1499] (by decide +kernel) (by decide +kernel) (by decide +kernel) (by decide)
abbrev m_X12_back : jm := (RX12, yX12_back, cX12_back, 2, (some .int), fun _ _ => True)
theorem mv_X12_back : jMv m_X12_back 1 := jMv_mk [1508, 123, 1506, 1507] (by decide +kernel) (by decide +kernel) (by decide +kernel) (by decide)
abbrev m_X12_byteAt : jm := (RX12, yX12_byteAt, cX12_byteAt, 2, (some .int), fun _ _ => True)
theorem mv_X12_byteAt : jMv m_X12_byteAt 1 := jMv_mk [1520, 123, 1519, 50] (by decide +kernel) (by decide +kernel) (by decide +kernel) (by decide)
abbrev m_X12_isDigit : jm := (RX12, yX12_isDigit, cX12_isDigit, 1, (some .boolean), fun _ _ => True)
theorem ms_X12_isDigit : jMs m_X12_isDigit 1 := jMs_mk [1530, 123, 1529] (by decide +kernel) (by decide +kernel) (by decide +kernel) (by decide)
abbrev m_X12_isLetter : jm := (RX12, yX12_isLetter, cX12_isLetter, 1, (some .boolean), fun _ _ => True)
theorem ms_X12_isLetter : jMs m_X12_isLetter 1 := jMs_mk [1527, 123, 1526] (by decide +kernel) (by decide +kernel) (by decide +kernel) (by decide)
abbrev m_X12_token : jm := (RX12, yX12_token, cX12_token, 6, none, fun _ _ => True)
theorem mv_X12_token : jMv m_X12_token 4 := jMv_mk [1524, 123, 1523, 51] (by decide +kernel) (by decide +kernel) (by decide +kernel) (by decide)
abbrev m_X12_sign : jm := (RX12, yX12_sign, cX12_sign, 5, (some .int), fun _ _ => True)
theorem mv_X12_sign : jMv m_X12_sign 3 := jMv_mk [1534, 123, 1533, 52] (by decide +kernel) (by decide +kernel) (by decide +kernel) (by decide)
abbrev m_X12_cutsUp : jm := (RX12, yX12_cutsUp, cX12_cutsUp, 8, none, fun _ _ => True)
theorem mv_X12_cutsUp : jMv m_X12_cutsUp 0 := jMv_mk [1516, 123, 1515, 49] (by decide +kernel) (by decide +kernel) (by decide +kernel) (by decide)
abbrev m_X12_is : jm := (RX12, yX12_is, cX12_is, 2, (some .boolean), fun _ _ => True)
theorem mv_X12_is : jMv m_X12_is 1 := jMv_mk [1538, 123, 1537, 53] (by decide +kernel) (by decide +kernel) (by decide +kernel) (by decide)
abbrev m_X12_fail : jm := (RX12, yX12_fail, cX12_fail, 2, none, fun _ _ => True)
theorem mv_X12_fail : jMv m_X12_fail 1 := jMv_mk [1546, 123, 1545, 55] (by decide +kernel) (by decide +kernel) (by decide +kernel) (by decide)
abbrev m_X12_wrong : jm := (RX12, yX12_wrong, cX12_wrong, 4, none, fun _ _ => True)
theorem mv_X12_wrong : jMv m_X12_wrong 2 := jMv_mk [1554, 123, 1553, 57] (by decide +kernel) (by decide +kernel) (by decide +kernel) (by decide)
abbrev m_X12_goesOn : jm := (RX12, yX12_goesOn, cX12_goesOn, 1, none, fun _ _ => True)
theorem mv_X12_goesOn : jMv m_X12_goesOn 0 := jMv_mk [1542, 123, 1541, 54] (by decide +kernel) (by decide +kernel) (by decide +kernel) (by decide)
abbrev m_X12_must : jm := (RX12, yX12_must, cX12_must, 2, none, fun _ _ => True)
theorem mv_X12_must : jMv m_X12_must 1 := jMv_mk [1558, 123, 1557, 58] (by decide +kernel) (by decide +kernel) (by decide +kernel) (by decide)
abbrev m_X12_bounded : jm := (RX12, yX12_bounded, cX12_bounded, 4, (some .int), fun _ _ => True)
theorem mv_X12_bounded : jMv m_X12_bounded 2 := jMv_mk [1550, 123, 1549, 56] (by decide +kernel) (by decide +kernel) (by decide +kernel) (by decide)
abbrev m_X12_emit : jm := (RX12, yX12_emit, cX12_emit, 3, none, fun _ _ => True)
theorem mv_X12_emit : jMv m_X12_emit 2 := jMv_mk [1574, 123, 1573, 62] (by decide +kernel) (by decide +kernel) (by decide +kernel) (by decide)
abbrev m_X12_unit : jm := (RX12, yX12_unit, cX12_unit, 1, none, fun _ _ => True)
theorem mv_X12_unit : jMv m_X12_unit 0 := jMv_mk [1570, 123, 1569, 61] (by decide +kernel) (by decide +kernel) (by decide +kernel) (by decide)
abbrev m_X12_comesOut : jm := (RX12, yX12_comesOut, cX12_comesOut, 3, none, fun _ _ => True)
theorem mv_X12_comesOut : jMv m_X12_comesOut 1 := jMv_mk [1578, 123, 1577, 63] (by decide +kernel) (by decide +kernel) (by decide +kernel) (by decide)
abbrev m_X12_expression : jm := (RX12, yX12_expression, cX12_expression, 3, none, fun _ _ => True)
theorem mv_X12_expression : jMv m_X12_expression 0 := jMv_mk [1566, 123, 1565, 60] (by decide +kernel) (by decide +kernel) (by decide +kernel) (by decide)
abbrev m_X12_tellOne : jm := (RX12, yX12_tellOne, cX12_tellOne, 2, none, fun _ _ => True)
theorem mv_X12_tellOne : jMv m_X12_tellOne 0 := jMv_mk [1562, 123, 1561, 59] (by decide +kernel) (by decide +kernel) (by decide +kernel) (by decide)
abbrev m_X12_termOf : jm := (RX12, yX12_termOf, cX12_termOf, 8, (some .int), fun _ _ => True)
theorem mv_X12_termOf : jMv m_X12_termOf 2 := jMv_mk [1586, 123, 1585, 65] (by decide +kernel) (by decide +kernel) (by decide +kernel) (by decide)
abbrev m_X12_keyOf : jm := (RX12, yX12_keyOf, cX12_keyOf, 2, (some .int), fun _ _ => True)
theorem ms_X12_keyOf : jMs m_X12_keyOf 1 := jMs_mk [1589, 123, 1588] (by decide +kernel) (by decide +kernel) (by decide +kernel) (by decide)
abbrev m_X12_versionEnds : jm := (RX12, yX12_versionEnds, cX12_versionEnds, 3, none, fun _ _ => True)
theorem mv_X12_versionEnds : jMv m_X12_versionEnds 1 := jMv_mk [1597, 123, 1596, 67] (by decide +kernel) (by decide +kernel) (by decide +kernel) (by decide)
abbrev m_X12_versionComes : jm := (RX12, yX12_versionComes, cX12_versionComes, 4, none, fun _ _ => True)
theorem mv_X12_versionComes : jMv m_X12_versionComes 2 := jMv_mk [1601, 123, 1600, 68] (by decide +kernel) (by decide +kernel) (by decide +kernel) (by decide)
abbrev m_X12_rootNow : jm := (RX12, yX12_rootNow, cX12_rootNow, 1, (some .int), fun _ _ => True)
theorem mv_X12_rootNow : jMv m_X12_rootNow 0 := jMv_mk [1609, 123, 1608, 70] (by decide +kernel) (by decide +kernel) (by decide +kernel) (by decide)
abbrev m_X12_isLeaf : jm := (RX12, yX12_isLeaf, cX12_isLeaf, 2, (some .boolean), fun _ _ => True)
theorem mv_X12_isLeaf : jMv m_X12_isLeaf 1 := jMv_mk [1613, 123, 1612, 71] (by decide +kernel) (by decide +kernel) (by decide +kernel) (by decide)
abbrev m_X12_entriesOf : jm := (RX12, yX12_entriesOf, cX12_entriesOf, 2, (some .int), fun _ _ => True)
theorem mv_X12_entriesOf : jMv m_X12_entriesOf 1 := jMv_mk [1621, 123, 1620, 73] (by decide +kernel) (by decide +kernel) (by decide +kernel) (by decide)
abbrev m_X12_entryAt : jm := (RX12, yX12_entryAt, cX12_entryAt, 2, (some .int), fun _ _ => True)
theorem ms_X12_entryAt : jMs m_X12_entryAt 2 := jMs_mk [1624, 123, 1623] (by decide +kernel) (by decide +kernel) (by decide +kernel) (by decide)
abbrev m_X12_isLiving : jm := (RX12, yX12_isLiving, cX12_isLiving, 2, (some .boolean), fun _ _ => True)
theorem mv_X12_isLiving : jMv m_X12_isLiving 1 := jMv_mk [1628, 123, 1627, 74] (by decide +kernel) (by decide +kernel) (by decide +kernel) (by decide)
abbrev m_X12_childOf : jm := (RX12, yX12_childOf, cX12_childOf, 6, (some .int), fun _ _ => True)
theorem mv_X12_childOf : jMv m_X12_childOf 2 := jMv_mk [1617, 123, 1616, 72] (by decide +kernel) (by decide +kernel) (by decide +kernel) (by decide)
abbrev m_X12_goesDown : jm := (RX12, yX12_goesDown, cX12_goesDown, 3, none, fun _ _ => True)
theorem mv_X12_goesDown : jMv m_X12_goesDown 1 := jMv_mk [1605, 123, 1604, 69] (by decide +kernel) (by decide +kernel) (by decide +kernel) (by decide)
abbrev m_X12_entryEnds : jm := (RX12, yX12_entryEnds, cX12_entryEnds, 4, none, fun _ _ => True)
theorem mv_X12_entryEnds : jMv m_X12_entryEnds 2 := jMv_mk [1632, 123, 1631, 75] (by decide +kernel) (by decide +kernel) (by decide +kernel) (by decide)
abbrev m_X12_comes : jm := (RX12, yX12_comes, cX12_comes, 6, none, fun _ _ => True)
theorem mv_X12_comes : jMv m_X12_comes 4 := jMv_mk [1636, 123, 1635, 76] (by decide +kernel) (by decide +kernel) (by decide +kernel) (by decide)
abbrev m_X12_joins : jm := (RX12, yX12_joins, cX12_joins, 5, none, fun _ _ => True)
theorem mv_X12_joins : jMv m_X12_joins 3 := jMv_mk [1644, 123, 1643, 78] (by decide +kernel) (by decide +kernel) (by decide +kernel) (by decide)
abbrev m_X12_joinsAll : jm := (RX12, yX12_joinsAll, cX12_joinsAll, 4, none, fun _ _ => True)
theorem mv_X12_joinsAll : jMv m_X12_joinsAll 1 := jMv_mk [1640, 123, 1639, 77] (by decide +kernel) (by decide +kernel) (by decide +kernel) (by decide)
abbrev m_X12_weak : jm := (RX12, yX12_weak, cX12_weak, 1, (some .int), fun _ _ => True)
theorem mv_X12_weak : jMv m_X12_weak 0 := jMv_mk [1656, 123, 1655, 81] (by decide +kernel) (by decide +kernel) (by decide +kernel) (by decide)
abbrev m_X12_entryFor : jm := (RX12, yX12_entryFor, cX12_entryFor, 4, (some .int), fun _ _ => True)
theorem mv_X12_entryFor : jMv m_X12_entryFor 2 := jMv_mk [1664, 123, 1663, 83] (by decide +kernel) (by decide +kernel) (by decide +kernel) (by decide)
abbrev m_X12_siblingOf : jm := (RX12, yX12_siblingOf, cX12_siblingOf, 8, (some .int), fun _ _ => True)
theorem mv_X12_siblingOf : jMv m_X12_siblingOf 2 := jMv_mk [1660, 123, 1659, 82] (by decide +kernel) (by decide +kernel) (by decide +kernel) (by decide)
abbrev m_X12_ends : jm := (RX12, yX12_ends, cX12_ends, 2, none, fun _ _ => True)
theorem mv_X12_ends : jMv m_X12_ends 1 := jMv_mk [1668, 123, 1667, 84] (by decide +kernel) (by decide +kernel) (by decide +kernel) (by decide)
abbrev m_X12_newPage : jm := (RX12, yX12_newPage, cX12_newPage, 6, (some .int), fun _ _ => True)
theorem mv_X12_newPage : jMv m_X12_newPage 3 := jMv_mk [1672, 123, 1671, 85] (by decide +kernel) (by decide +kernel) (by decide +kernel) (by decide)
abbrev m_X12_endsAbove : jm := (RX12, yX12_endsAbove, cX12_endsAbove, 4, (some .int), fun _ _ => True)
theorem mv_X12_endsAbove : jMv m_X12_endsAbove 2 := jMv_mk [1676, 123, 1675, 86] (by decide +kernel) (by decide +kernel) (by decide +kernel) (by decide)
abbrev m_X12_livingIn : jm := (RX12, yX12_livingIn, cX12_livingIn, 4, (some .int), fun _ _ => True)
theorem mv_X12_livingIn : jMv m_X12_livingIn 1 := jMv_mk [1680, 123, 1679, 87] (by decide +kernel) (by decide +kernel) (by decide +kernel) (by decide)
abbrev m_X12_replacesOne : jm := (RX12, yX12_replacesOne, cX12_replacesOne, 13, (some .int), fun _ _ => True)
theorem mv_X12_replacesOne : jMv m_X12_replacesOne 1 := jMv_mk [1652, 123, 1651, 80] (by decide +kernel) (by decide +kernel) (by decide +kernel) (by decide)
abbrev m_X12_replaces : jm := (RX12, yX12_replaces, cX12_replaces, 3, none, fun _ _ => True)
theorem mv_X12_replaces : jMv m_X12_replaces 1 := jMv_mk [1648, 123, 1647, 79] (by decide +kernel) (by decide +kernel) (by decide +kernel) (by decide)
abbrev m_X12_puts : jm := (RX12, yX12_puts, cX12_puts, 4, (some .boolean), fun _ _ => True)
theorem mv_X12_puts : jMv m_X12_puts 2 := jMv_mk [1593, 123, 1592, 66] (by decide +kernel) (by decide +kernel) (by decide +kernel) (by decide)
abbrev m_X12_cuts : jm := (RX12, yX12_cuts, cX12_cuts, 3, (some .boolean), fun _ _ => True)
theorem mv_X12_cuts : jMv m_X12_cuts 1 := jMv_mk [1684, 123, 1683, 88] (by decide +kernel) (by decide +kernel) (by decide +kernel) (by decide)
abbrev m_X12_runs : jm := (RX12, yX12_runs, cX12_runs, 8, none, fun _ _ => True)
theorem mv_X12_runs : jMv m_X12_runs 0 := jMv_mk [1582, 123, 1581, 64] (by decide +kernel) (by decide +kernel) (by decide +kernel) (by decide)
abbrev m_X12_read : jm := (RX12, yX12_read, cX12_read, 3, (some .int), fun _ _ => True)
theorem mv_X12_read : jMv m_X12_read 0 := jMv_mk [1512, 123, 1510, 1511] (by decide +kernel) (by decide +kernel) (by decide +kernel) (by decide)
abbrev m_X12_place : jm := (RX12, yX12_place, cX12_place, 1, (some .int), fun _ _ => True)
theorem mv_X12_place : jMv m_X12_place 0 := jMv_mk [1688, 123, 1686, 1687] (by decide +kernel) (by decide +kernel) (by decide +kernel) (by decide)
abbrev m_X12_in : jm := (RX12, yX12_in, cX12_in, 3, (some .boolean), fun _ _ => True)
theorem ms_X12_in : jMs m_X12_in 3 := jMs_mk [1698, 123, 1697] (by decide +kernel) (by decide +kernel) (by decide +kernel) (by decide)
abbrev m_X12_isKey : jm := (RX12, yX12_isKey, cX12_isKey, 1, (some .boolean), fun _ _ => True)
theorem ms_X12_isKey : jMs m_X12_isKey 1 := jMs_mk [1695, 123, 1694] (by decide +kernel) (by decide +kernel) (by decide +kernel) (by decide)
abbrev m_X12_isTime : jm := (RX12, yX12_isTime, cX12_isTime, 2, (some .boolean), fun _ _ => True)
theorem mv_X12_isTime : jMv m_X12_isTime 1 := jMv_mk [1710, 123, 1709, 89] (by decide +kernel) (by decide +kernel) (by decide +kernel) (by decide)
abbrev m_X12_isRange : jm := (RX12, yX12_isRange, cX12_isRange, 3, (some .boolean), fun _ _ => True)
theorem mv_X12_isRange : jMv m_X12_isRange 2 := jMv_mk [1734, 123, 1733, 92] (by decide +kernel) (by decide +kernel) (by decide +kernel) (by decide)
abbrev m_X12_put : jm := (RX12, yX12_put, cX12_put, 3, (some .int), fun _ _ => True)
theorem mv_X12_put : jMv m_X12_put 2 := jMv_mk [1692, 123, 1690, 1691] (by decide +kernel) (by decide +kernel) (by decide +kernel) (by decide)
abbrev m_X12_cut : jm := (RX12, yX12_cut, cX12_cut, 2, (some .int), fun _ _ => True)
theorem mv_X12_cut : jMv m_X12_cut 1 := jMv_mk [1702, 123, 1700, 1701] (by decide +kernel) (by decide +kernel) (by decide +kernel) (by decide)
abbrev m_X12_livesThen : jm := (RX12, yX12_livesThen, cX12_livesThen, 4, (some .boolean), fun _ _ => True)
theorem mv_X12_livesThen : jMv m_X12_livesThen 3 := jMv_mk [1718, 123, 1717, 91] (by decide +kernel) (by decide +kernel) (by decide +kernel) (by decide)
abbrev m_X12_versionAt : jm := (RX12, yX12_versionAt, cX12_versionAt, 4, (some .int), fun _ _ => True)
theorem mv_X12_versionAt : jMv m_X12_versionAt 2 := jMv_mk [1714, 123, 1713, 90] (by decide +kernel) (by decide +kernel) (by decide +kernel) (by decide)
abbrev m_X12_fillsThen : jm := (RX12, yX12_fillsThen, cX12_fillsThen, 3, none, fun _ _ => True)
theorem mv_X12_fillsThen : jMv m_X12_fillsThen 1 := jMv_mk [1738, 123, 1737, 93] (by decide +kernel) (by decide +kernel) (by decide +kernel) (by decide)
abbrev m_X12_has : jm := (RX12, yX12_has, cX12_has, 3, (some .int), fun _ _ => True)
theorem mv_X12_has : jMv m_X12_has 2 := jMv_mk [1706, 123, 1704, 1705] (by decide +kernel) (by decide +kernel) (by decide +kernel) (by decide)
abbrev m_X12_value : jm := (RX12, yX12_value, cX12_value, 4, (some .int), fun _ _ => True)
theorem mv_X12_value : jMv m_X12_value 2 := jMv_mk [1722, 123, 1720, 1721] (by decide +kernel) (by decide +kernel) (by decide +kernel) (by decide)
abbrev m_X12_since : jm := (RX12, yX12_since, cX12_since, 4, (some .int), fun _ _ => True)
theorem mv_X12_since : jMv m_X12_since 2 := jMv_mk [1726, 123, 1724, 1725] (by decide +kernel) (by decide +kernel) (by decide +kernel) (by decide)
abbrev m_X12_many : jm := (RX12, yX12_many, cX12_many, 6, (some .int), fun _ _ => True)
theorem mv_X12_many : jMv m_X12_many 3 := jMv_mk [1730, 123, 1728, 1729] (by decide +kernel) (by decide +kernel) (by decide +kernel) (by decide)
abbrev m_X12_sum : jm := (RX12, yX12_sum, cX12_sum, 6, (some .int), fun _ _ => True)
theorem mv_X12_sum : jMv m_X12_sum 3 := jMv_mk [1742, 123, 1740, 1741] (by decide +kernel) (by decide +kernel) (by decide +kernel) (by decide)
abbrev m_X12_nth : jm := (RX12, yX12_nth, cX12_nth, 5, (some .int), fun _ _ => True)
theorem mv_X12_nth : jMv m_X12_nth 2 := jMv_mk [1746, 123, 1744, 1745] (by decide +kernel) (by decide +kernel) (by decide +kernel) (by decide)
abbrev m_X12_next : jm := (RX12, yX12_next, cX12_next, 4, (some .int), fun _ _ => True)
theorem mv_X12_next : jMv m_X12_next 2 := jMv_mk [1750, 123, 1748, 1749] (by decide +kernel) (by decide +kernel) (by decide +kernel) (by decide)
abbrev m_X12_prior : jm := (RX12, yX12_prior, cX12_prior, 4, (some .int), fun _ _ => True)
theorem mv_X12_prior : jMv m_X12_prior 2 := jMv_mk [1754, 123, 1752, 1753] (by decide +kernel) (by decide +kernel) (by decide +kernel) (by decide)
abbrev m_X12_differ : jm := (RX12, yX12_differ, cX12_differ, 9, (some .int), fun _ _ => True)
theorem mv_X12_differ : jMv m_X12_differ 4 := jMv_mk [1758, 123, 1756, 1757] (by decide +kernel) (by decide +kernel) (by decide +kernel) (by decide)
abbrev m_X12_areTimes : jm := (RX12, yX12_areTimes, cX12_areTimes, 3, (some .boolean), fun _ _ => True)
theorem mv_X12_areTimes : jMv m_X12_areTimes 2 := jMv_mk [1766, 123, 1765, 94] (by decide +kernel) (by decide +kernel) (by decide +kernel) (by decide)
abbrev m_X12_ever : jm := (RX12, yX12_ever, cX12_ever, 7, (some .int), fun _ _ => True)
theorem mv_X12_ever : jMv m_X12_ever 4 := jMv_mk [1762, 123, 1760, 1761] (by decide +kernel) (by decide +kernel) (by decide +kernel) (by decide)
abbrev m_X12_stay : jm := (RX12, yX12_stay, cX12_stay, 8, (some .int), fun _ _ => True)
theorem mv_X12_stay : jMv m_X12_stay 3 := jMv_mk [1770, 123, 1768, 1769] (by decide +kernel) (by decide +kernel) (by decide +kernel) (by decide)
abbrev m_X12_versionsOf : jm := (RX12, yX12_versionsOf, cX12_versionsOf, 4, (some .int), fun _ _ => True)
theorem mv_X12_versionsOf : jMv m_X12_versionsOf 1 := jMv_mk [1778, 123, 1777, 95] (by decide +kernel) (by decide +kernel) (by decide +kernel) (by decide)
abbrev m_X12_versions : jm := (RX12, yX12_versions, cX12_versions, 2, (some .int), fun _ _ => True)
theorem mv_X12_versions : jMv m_X12_versions 1 := jMv_mk [1774, 123, 1772, 1773] (by decide +kernel) (by decide +kernel) (by decide +kernel) (by decide)
abbrev m_X12_version : jm := (RX12, yX12_version, cX12_version, 6, (some .int), fun _ _ => True)
theorem mv_X12_version : jMv m_X12_version 3 := jMv_mk [1782, 123, 1780, 1781] (by decide +kernel) (by decide +kernel) (by decide +kernel) (by decide)
abbrev m_X12_longest : jm := (RX12, yX12_longest, cX12_longest, 8, (some .int), fun _ _ => True)
theorem mv_X12_longest : jMv m_X12_longest 2 := jMv_mk [1786, 123, 1784, 1785] (by decide +kernel) (by decide +kernel) (by decide +kernel) (by decide)
abbrev m_X12_busiest : jm := (RX12, yX12_busiest, cX12_busiest, 6, (some .int), fun _ _ => True)
theorem mv_X12_busiest : jMv m_X12_busiest 3 := jMv_mk [1790, 123, 1788, 1789] (by decide +kernel) (by decide +kernel) (by decide +kernel) (by decide)
abbrev m_X12_peak : jm := (RX12, yX12_peak, cX12_peak, 8, (some .int), fun _ _ => True)
theorem mv_X12_peak : jMv m_X12_peak 3 := jMv_mk [1794, 123, 1792, 1793] (by decide +kernel) (by decide +kernel) (by decide +kernel) (by decide)
abbrev m_X12_gap : jm := (RX12, yX12_gap, cX12_gap, 7, (some .int), fun _ _ => True)
theorem mv_X12_gap : jMv m_X12_gap 2 := jMv_mk [1798, 123, 1796, 1797] (by decide +kernel) (by decide +kernel) (by decide +kernel) (by decide)
abbrev m_X12_rootAt : jm := (RX12, yX12_rootAt, cX12_rootAt, 3, (some .int), fun _ _ => True)
theorem mv_X12_rootAt : jMv m_X12_rootAt 1 := jMv_mk [1806, 123, 1805, 96] (by decide +kernel) (by decide +kernel) (by decide +kernel) (by decide)
abbrev m_X12_entryThen : jm := (RX12, yX12_entryThen, cX12_entryThen, 3, (some .boolean), fun _ _ => True)
theorem mv_X12_entryThen : jMv m_X12_entryThen 2 := jMv_mk [1822, 123, 1821, 99] (by decide +kernel) (by decide +kernel) (by decide +kernel) (by decide)
abbrev m_X12_childThen : jm := (RX12, yX12_childThen, cX12_childThen, 7, (some .int), fun _ _ => True)
theorem mv_X12_childThen : jMv m_X12_childThen 3 := jMv_mk [1818, 123, 1817, 98] (by decide +kernel) (by decide +kernel) (by decide +kernel) (by decide)
abbrev m_X12_goesDownThen : jm := (RX12, yX12_goesDownThen, cX12_goesDownThen, 4, none, fun _ _ => True)
theorem mv_X12_goesDownThen : jMv m_X12_goesDownThen 2 := jMv_mk [1814, 123, 1813, 97] (by decide +kernel) (by decide +kernel) (by decide +kernel) (by decide)
abbrev m_X12_root : jm := (RX12, yX12_root, cX12_root, 2, (some .int), fun _ _ => True)
theorem mv_X12_root : jMv m_X12_root 1 := jMv_mk [1802, 123, 1800, 1801] (by decide +kernel) (by decide +kernel) (by decide +kernel) (by decide)
abbrev m_X12_deep : jm := (RX12, yX12_deep, cX12_deep, 2, (some .int), fun _ _ => True)
theorem mv_X12_deep : jMv m_X12_deep 1 := jMv_mk [1810, 123, 1808, 1809] (by decide +kernel) (by decide +kernel) (by decide +kernel) (by decide)
abbrev m_X12_leaf : jm := (RX12, yX12_leaf, cX12_leaf, 3, (some .int), fun _ _ => True)
theorem mv_X12_leaf : jMv m_X12_leaf 2 := jMv_mk [1826, 123, 1824, 1825] (by decide +kernel) (by decide +kernel) (by decide +kernel) (by decide)
abbrev m_X12_way : jm := (RX12, yX12_way, cX12_way, 4, (some .int), fun _ _ => True)
theorem mv_X12_way : jMv m_X12_way 3 := jMv_mk [1830, 123, 1828, 1829] (by decide +kernel) (by decide +kernel) (by decide +kernel) (by decide)
abbrev m_X12_spanTo : jm := (RX12, yX12_spanTo, cX12_spanTo, 7, (some .int), fun _ _ => True)
theorem mv_X12_spanTo : jMv m_X12_spanTo 3 := jMv_mk [1850, 123, 1849, 103] (by decide +kernel) (by decide +kernel) (by decide +kernel) (by decide)
abbrev m_X12_isLeast : jm := (RX12, yX12_isLeast, cX12_isLeast, 5, (some .boolean), fun _ _ => True)
theorem mv_X12_isLeast : jMv m_X12_isLeast 3 := jMv_mk [1846, 123, 1845, 102] (by decide +kernel) (by decide +kernel) (by decide +kernel) (by decide)
abbrev m_X12_isAsked : jm := (RX12, yX12_isAsked, cX12_isAsked, 7, (some .boolean), fun _ _ => True)
theorem mv_X12_isAsked : jMv m_X12_isAsked 5 := jMv_mk [1842, 123, 1841, 101] (by decide +kernel) (by decide +kernel) (by decide +kernel) (by decide)
abbrev m_X12_goesThrough : jm := (RX12, yX12_goesThrough, cX12_goesThrough, 9, none, fun _ _ => True)
theorem mv_X12_goesThrough : jMv m_X12_goesThrough 4 := jMv_mk [1838, 123, 1837, 100] (by decide +kernel) (by decide +kernel) (by decide +kernel) (by decide)
abbrev m_X12_reads : jm := (RX12, yX12_reads, cX12_reads, 4, (some .int), fun _ _ => True)
theorem mv_X12_reads : jMv m_X12_reads 3 := jMv_mk [1834, 123, 1832, 1833] (by decide +kernel) (by decide +kernel) (by decide +kernel) (by decide)
abbrev m_X12_livingThen : jm := (RX12, yX12_livingThen, cX12_livingThen, 5, (some .int), fun _ _ => True)
theorem mv_X12_livingThen : jMv m_X12_livingThen 2 := jMv_mk [1858, 123, 1857, 104] (by decide +kernel) (by decide +kernel) (by decide +kernel) (by decide)
abbrev m_X12_thin : jm := (RX12, yX12_thin, cX12_thin, 4, (some .int), fun _ _ => True)
theorem mv_X12_thin : jMv m_X12_thin 1 := jMv_mk [1854, 123, 1852, 1853] (by decide +kernel) (by decide +kernel) (by decide +kernel) (by decide)
abbrev m_X12_held : jm := (RX12, yX12_held, cX12_held, 7, (some .int), fun _ _ => True)
theorem mv_X12_held : jMv m_X12_held 2 := jMv_mk [1862, 123, 1860, 1861] (by decide +kernel) (by decide +kernel) (by decide +kernel) (by decide)
abbrev m_X12_page : jm := (RX12, yX12_page, cX12_page, 3, (some .int), fun _ _ => True)
theorem mv_X12_page : jMv m_X12_page 2 := jMv_mk [1866, 123, 1864, 1865] (by decide +kernel) (by decide +kernel) (by decide +kernel) (by decide)
abbrev m_X12_entry : jm := (RX12, yX12_entry, cX12_entry, 4, (some .int), fun _ _ => True)
theorem mv_X12_entry : jMv m_X12_entry 3 := jMv_mk [1870, 123, 1868, 1869] (by decide +kernel) (by decide +kernel) (by decide +kernel) (by decide)
abbrev m_X12_copiesIn : jm := (RX12, yX12_copiesIn, cX12_copiesIn, 4, (some .int), fun _ _ => True)
theorem mv_X12_copiesIn : jMv m_X12_copiesIn 1 := jMv_mk [1878, 123, 1877, 105] (by decide +kernel) (by decide +kernel) (by decide +kernel) (by decide)
abbrev m_X12_room : jm := (RX12, yX12_room, cX12_room, 6, (some .int), fun _ _ => True)
theorem mv_X12_room : jMv m_X12_room 1 := jMv_mk [1874, 123, 1872, 1873] (by decide +kernel) (by decide +kernel) (by decide +kernel) (by decide)
abbrev m_X12_hold : jm := (RX12, yX12_hold, cX12_hold, 3, (some .boolean), fun _ _ => True)
theorem mv_X12_hold : jMv m_X12_hold 1 := jMv_mk [1882, 123, 1880, 1881] (by decide +kernel) (by decide +kernel) (by decide +kernel) (by decide)
abbrev m_X12_restore : jm := (RX12, yX12_restore, cX12_restore, 3, (some .boolean), fun _ _ => True)
theorem mv_X12_restore : jMv m_X12_restore 1 := jMv_mk [1886, 123, 1884, 1885] (by decide +kernel) (by decide +kernel) (by decide +kernel) (by decide)
abbrev m_X12_keyFrom : jm := (RX12, yX12_keyFrom, cX12_keyFrom, 4, (some .int), fun _ _ => True)
theorem mv_X12_keyFrom : jMv m_X12_keyFrom 2 := jMv_mk [1894, 123, 1893, 106] (by decide +kernel) (by decide +kernel) (by decide +kernel) (by decide)
abbrev m_X12_count : jm := (RX12, yX12_count, cX12_count, 4, (some .int), fun _ _ => True)
theorem mv_X12_count : jMv m_X12_count 1 := jMv_mk [1890, 123, 1888, 1889] (by decide +kernel) (by decide +kernel) (by decide +kernel) (by decide)
theorem fl_X0_9 : jFl RX0 9 0 0 := ⟨RX0, TX0, 4, rfl, by decide, jt (n := 408) (by decide +kernel) rfl⟩
theorem fl_X0_13 : jFl RX0 13 0 1 := ⟨RX0, TX0, 4, rfl, by decide, jt (n := 410) (by decide +kernel) rfl⟩
theorem fl_X0_16 : jFl RX0 16 0 2 := ⟨RX0, TX0, 4, rfl, by decide, jt (n := 412) (by decide +kernel) rfl⟩
theorem fl_X0_19 : jFl RX0 19 0 3 := ⟨RX0, TX0, 4, rfl, by decide, jt (n := 414) (by decide +kernel) rfl⟩
theorem fp_X0_19 : jFp RX0 19 0 3 := ⟨RX0, TX0, 4, rfl, by decide, jt (n := 414) (by decide +kernel) rfl, rfl⟩
theorem fl_X1_9 : jFl RX1 9 1 0 := ⟨RX1, TX1, 7, rfl, by decide, jt (n := 425) (by decide +kernel) rfl⟩
theorem fl_X1_15 : jFl RX1 15 9 0 := ⟨RX9, TX9, 5, rfl, by decide, jt (n := 330) (by decide +kernel) rfl⟩
theorem fl_X1_21 : jFl RX1 21 1 1 := ⟨RX1, TX1, 7, rfl, by decide, jt (n := 426) (by decide +kernel) rfl⟩
theorem fl_X1_27 : jFl RX1 27 1 2 := ⟨RX1, TX1, 7, rfl, by decide, jt (n := 427) (by decide +kernel) rfl⟩
theorem fl_X1_34 : jFl RX1 34 1 3 := ⟨RX1, TX1, 7, rfl, by decide, jt (n := 428) (by decide +kernel) rfl⟩
theorem fl_X1_38 : jFl RX1 38 6 0 := ⟨RX6, TX6, 9, rfl, by decide, jt (n := 246) (by decide +kernel) rfl⟩
theorem fl_X1_43 : jFl RX1 43 8 1 := ⟨RX8, TX8, 2, rfl, by decide, jt (n := 149) (by decide +kernel) rfl⟩
theorem fp_X1_43 : jFp RX1 43 8 1 := ⟨RX8, TX8, 2, rfl, by decide, jt (n := 149) (by decide +kernel) rfl, rfl⟩
theorem fl_X1_47 : jFl RX1 47 9 1 := ⟨RX9, TX9, 5, rfl, by decide, jt (n := 337) (by decide +kernel) rfl⟩
theorem fl_X1_61 : jFl RX1 61 6 1 := ⟨RX6, TX6, 9, rfl, by decide, jt (n := 251) (by decide +kernel) rfl⟩
theorem fl_X1_68 : jFl RX1 68 6 8 := ⟨RX6, TX6, 9, rfl, by decide, jt (n := 275) (by decide +kernel) rfl⟩
theorem fp_X1_68 : jFp RX1 68 6 8 := ⟨RX6, TX6, 9, rfl, by decide, jt (n := 275) (by decide +kernel) rfl, rfl⟩
theorem fl_X1_75 : jFl RX1 75 0 3 := ⟨RX0, TX0, 4, rfl, by decide, jt (n := 415) (by decide +kernel) rfl⟩
theorem fp_X1_75 : jFp RX1 75 0 3 := ⟨RX0, TX0, 4, rfl, by decide, jt (n := 415) (by decide +kernel) rfl, rfl⟩
theorem fl_X1_107 : jFl RX1 107 6 4 := ⟨RX6, TX6, 9, rfl, by decide, jt (n := 260) (by decide +kernel) rfl⟩
theorem fl_X1_110 : jFl RX1 110 6 7 := ⟨RX6, TX6, 9, rfl, by decide, jt (n := 272) (by decide +kernel) rfl⟩
theorem fl_X1_126 : jFl RX1 126 6 5 := ⟨RX6, TX6, 9, rfl, by decide, jt (n := 264) (by decide +kernel) rfl⟩
theorem fl_X1_129 : jFl RX1 129 6 6 := ⟨RX6, TX6, 9, rfl, by decide, jt (n := 269) (by decide +kernel) rfl⟩
theorem fl_X1_135 : jFl RX1 135 6 3 := ⟨RX6, TX6, 9, rfl, by decide, jt (n := 257) (by decide +kernel) rfl⟩
theorem fl_X1_150 : jFl RX1 150 1 5 := ⟨RX1, TX1, 7, rfl, by decide, jt (n := 430) (by decide +kernel) rfl⟩
theorem fp_X1_150 : jFp RX1 150 1 5 := ⟨RX1, TX1, 7, rfl, by decide, jt (n := 430) (by decide +kernel) rfl, rfl⟩
theorem fl_X1_164 : jFl RX1 164 1 4 := ⟨RX1, TX1, 7, rfl, by decide, jt (n := 429) (by decide +kernel) rfl⟩
theorem fp_X1_164 : jFp RX1 164 1 4 := ⟨RX1, TX1, 7, rfl, by decide, jt (n := 429) (by decide +kernel) rfl, rfl⟩
theorem fl_X1_167 : jFl RX1 167 1 6 := ⟨RX1, TX1, 7, rfl, by decide, jt (n := 431) (by decide +kernel) rfl⟩
theorem fp_X1_167 : jFp RX1 167 1 6 := ⟨RX1, TX1, 7, rfl, by decide, jt (n := 431) (by decide +kernel) rfl, rfl⟩
theorem fl_X1_170 : jFl RX1 170 0 0 := ⟨RX0, TX0, 4, rfl, by decide, jt (n := 409) (by decide +kernel) rfl⟩
theorem fl_X1_173 : jFl RX1 173 0 1 := ⟨RX0, TX0, 4, rfl, by decide, jt (n := 411) (by decide +kernel) rfl⟩
theorem fl_X1_175 : jFl RX1 175 0 2 := ⟨RX0, TX0, 4, rfl, by decide, jt (n := 413) (by decide +kernel) rfl⟩
theorem fl_X10_9 : jFl RX10 9 10 0 := ⟨RX10, TX10, 9, rfl, by decide, jt (n := 363) (by decide +kernel) rfl⟩
theorem fl_X10_15 : jFl RX10 15 10 1 := ⟨RX10, TX10, 9, rfl, by decide, jt (n := 364) (by decide +kernel) rfl⟩
theorem fl_X10_19 : jFl RX10 19 10 2 := ⟨RX10, TX10, 9, rfl, by decide, jt (n := 365) (by decide +kernel) rfl⟩
theorem fl_X10_28 : jFl RX10 28 10 3 := ⟨RX10, TX10, 9, rfl, by decide, jt (n := 366) (by decide +kernel) rfl⟩
theorem fl_X10_32 : jFl RX10 32 4 1 := ⟨RX4, TX4, 4, rfl, by decide, jt (n := 174) (by decide +kernel) rfl⟩
theorem fl_X10_41 : jFl RX10 41 10 4 := ⟨RX10, TX10, 9, rfl, by decide, jt (n := 367) (by decide +kernel) rfl⟩
theorem fp_X10_41 : jFp RX10 41 10 4 := ⟨RX10, TX10, 9, rfl, by decide, jt (n := 367) (by decide +kernel) rfl, rfl⟩
theorem fl_X10_44 : jFl RX10 44 10 5 := ⟨RX10, TX10, 9, rfl, by decide, jt (n := 368) (by decide +kernel) rfl⟩
theorem fp_X10_44 : jFp RX10 44 10 5 := ⟨RX10, TX10, 9, rfl, by decide, jt (n := 368) (by decide +kernel) rfl, rfl⟩
theorem fl_X10_50 : jFl RX10 50 10 6 := ⟨RX10, TX10, 9, rfl, by decide, jt (n := 369) (by decide +kernel) rfl⟩
theorem fp_X10_50 : jFp RX10 50 10 6 := ⟨RX10, TX10, 9, rfl, by decide, jt (n := 369) (by decide +kernel) rfl, rfl⟩
theorem fl_X10_62 : jFl RX10 62 10 7 := ⟨RX10, TX10, 9, rfl, by decide, jt (n := 371) (by decide +kernel) rfl⟩
theorem fp_X10_62 : jFp RX10 62 10 7 := ⟨RX10, TX10, 9, rfl, by decide, jt (n := 371) (by decide +kernel) rfl, rfl⟩
theorem fl_X10_65 : jFl RX10 65 10 8 := ⟨RX10, TX10, 9, rfl, by decide, jt (n := 373) (by decide +kernel) rfl⟩
theorem fp_X10_65 : jFp RX10 65 10 8 := ⟨RX10, TX10, 9, rfl, by decide, jt (n := 373) (by decide +kernel) rfl, rfl⟩
theorem fl_X10_74 : jFl RX10 74 7 3 := ⟨RX7, TX7, 9, rfl, by decide, jt (n := 203) (by decide +kernel) rfl⟩
theorem fl_X10_82 : jFl RX10 82 7 2 := ⟨RX7, TX7, 9, rfl, by decide, jt (n := 201) (by decide +kernel) rfl⟩
theorem fl_X10_85 : jFl RX10 85 8 1 := ⟨RX8, TX8, 2, rfl, by decide, jt (n := 156) (by decide +kernel) rfl⟩
theorem fp_X10_85 : jFp RX10 85 8 1 := ⟨RX8, TX8, 2, rfl, by decide, jt (n := 156) (by decide +kernel) rfl, rfl⟩
theorem fl_X10_88 : jFl RX10 88 4 2 := ⟨RX4, TX4, 4, rfl, by decide, jt (n := 177) (by decide +kernel) rfl⟩
theorem fl_X10_104 : jFl RX10 104 9 1 := ⟨RX9, TX9, 5, rfl, by decide, jt (n := 338) (by decide +kernel) rfl⟩
theorem fl_X10_116 : jFl RX10 116 2 4 := ⟨RX2, TX2, 5, rfl, by decide, jt (n := 315) (by decide +kernel) rfl⟩
theorem fp_X10_116 : jFp RX10 116 2 4 := ⟨RX2, TX2, 5, rfl, by decide, jt (n := 315) (by decide +kernel) rfl, rfl⟩
theorem fl_X10_119 : jFl RX10 119 9 0 := ⟨RX9, TX9, 5, rfl, by decide, jt (n := 333) (by decide +kernel) rfl⟩
theorem fl_X10_123 : jFl RX10 123 6 0 := ⟨RX6, TX6, 9, rfl, by decide, jt (n := 248) (by decide +kernel) rfl⟩
theorem fl_X11_12 : jFl RX11 12 11 0 := ⟨RX11, TX11, 12, rfl, by decide, jt (n := 538) (by decide +kernel) rfl⟩
theorem fl_X11_23 : jFl RX11 23 11 1 := ⟨RX11, TX11, 12, rfl, by decide, jt (n := 539) (by decide +kernel) rfl⟩
theorem fl_X11_32 : jFl RX11 32 11 2 := ⟨RX11, TX11, 12, rfl, by decide, jt (n := 540) (by decide +kernel) rfl⟩
theorem fl_X11_39 : jFl RX11 39 11 4 := ⟨RX11, TX11, 12, rfl, by decide, jt (n := 542) (by decide +kernel) rfl⟩
theorem fl_X11_48 : jFl RX11 48 11 3 := ⟨RX11, TX11, 12, rfl, by decide, jt (n := 541) (by decide +kernel) rfl⟩
theorem fl_X11_57 : jFl RX11 57 11 5 := ⟨RX11, TX11, 12, rfl, by decide, jt (n := 543) (by decide +kernel) rfl⟩
theorem fl_X11_63 : jFl RX11 63 9 1 := ⟨RX9, TX9, 5, rfl, by decide, jt (n := 336) (by decide +kernel) rfl⟩
theorem fl_X11_70 : jFl RX11 70 11 6 := ⟨RX11, TX11, 12, rfl, by decide, jt (n := 544) (by decide +kernel) rfl⟩
theorem fl_X11_77 : jFl RX11 77 11 7 := ⟨RX11, TX11, 12, rfl, by decide, jt (n := 545) (by decide +kernel) rfl⟩
theorem fl_X11_81 : jFl RX11 81 11 8 := ⟨RX11, TX11, 12, rfl, by decide, jt (n := 546) (by decide +kernel) rfl⟩
theorem fl_X11_85 : jFl RX11 85 11 9 := ⟨RX11, TX11, 12, rfl, by decide, jt (n := 547) (by decide +kernel) rfl⟩
theorem fp_X11_85 : jFp RX11 85 11 9 := ⟨RX11, TX11, 12, rfl, by decide, jt (n := 547) (by decide +kernel) rfl, rfl⟩
theorem fl_X11_89 : jFl RX11 89 11 10 := ⟨RX11, TX11, 12, rfl, by decide, jt (n := 548) (by decide +kernel) rfl⟩
theorem fp_X11_89 : jFp RX11 89 11 10 := ⟨RX11, TX11, 12, rfl, by decide, jt (n := 548) (by decide +kernel) rfl, rfl⟩
theorem fl_X11_92 : jFl RX11 92 11 11 := ⟨RX11, TX11, 12, rfl, by decide, jt (n := 549) (by decide +kernel) rfl⟩
theorem fp_X11_92 : jFp RX11 92 11 11 := ⟨RX11, TX11, 12, rfl, by decide, jt (n := 549) (by decide +kernel) rfl, rfl⟩
theorem fl_X11_98 : jFl RX11 98 8 1 := ⟨RX8, TX8, 2, rfl, by decide, jt (n := 148) (by decide +kernel) rfl⟩
theorem fp_X11_98 : jFp RX11 98 8 1 := ⟨RX8, TX8, 2, rfl, by decide, jt (n := 148) (by decide +kernel) rfl, rfl⟩
theorem fl_X11_113 : jFl RX11 113 7 7 := ⟨RX7, TX7, 9, rfl, by decide, jt (n := 209) (by decide +kernel) rfl⟩
theorem fp_X11_113 : jFp RX11 113 7 7 := ⟨RX7, TX7, 9, rfl, by decide, jt (n := 209) (by decide +kernel) rfl, rfl⟩
theorem fl_X11_114 : jFl RX11 114 7 6 := ⟨RX7, TX7, 9, rfl, by decide, jt (n := 207) (by decide +kernel) rfl⟩
theorem fp_X11_114 : jFp RX11 114 7 6 := ⟨RX7, TX7, 9, rfl, by decide, jt (n := 207) (by decide +kernel) rfl, rfl⟩
theorem fl_X11_117 : jFl RX11 117 7 8 := ⟨RX7, TX7, 9, rfl, by decide, jt (n := 211) (by decide +kernel) rfl⟩
theorem fp_X11_117 : jFp RX11 117 7 8 := ⟨RX7, TX7, 9, rfl, by decide, jt (n := 211) (by decide +kernel) rfl, rfl⟩
theorem fl_X11_150 : jFl RX11 150 2 2 := ⟨RX2, TX2, 5, rfl, by decide, jt (n := 311) (by decide +kernel) rfl⟩
theorem fl_X11_195 : jFl RX11 195 2 3 := ⟨RX2, TX2, 5, rfl, by decide, jt (n := 313) (by decide +kernel) rfl⟩
theorem fl_X11_234 : jFl RX11 234 9 0 := ⟨RX9, TX9, 5, rfl, by decide, jt (n := 334) (by decide +kernel) rfl⟩
theorem fl_X11_243 : jFl RX11 243 6 0 := ⟨RX6, TX6, 9, rfl, by decide, jt (n := 249) (by decide +kernel) rfl⟩
theorem fl_X11_246 : jFl RX11 246 6 1 := ⟨RX6, TX6, 9, rfl, by decide, jt (n := 253) (by decide +kernel) rfl⟩
theorem fl_X11_252 : jFl RX11 252 6 2 := ⟨RX6, TX6, 9, rfl, by decide, jt (n := 255) (by decide +kernel) rfl⟩
theorem fl_X11_255 : jFl RX11 255 6 3 := ⟨RX6, TX6, 9, rfl, by decide, jt (n := 258) (by decide +kernel) rfl⟩
theorem fl_X11_261 : jFl RX11 261 6 4 := ⟨RX6, TX6, 9, rfl, by decide, jt (n := 262) (by decide +kernel) rfl⟩
theorem fl_X11_264 : jFl RX11 264 6 6 := ⟨RX6, TX6, 9, rfl, by decide, jt (n := 270) (by decide +kernel) rfl⟩
theorem fl_X11_267 : jFl RX11 267 6 7 := ⟨RX6, TX6, 9, rfl, by decide, jt (n := 273) (by decide +kernel) rfl⟩
theorem fl_X11_268 : jFl RX11 268 6 5 := ⟨RX6, TX6, 9, rfl, by decide, jt (n := 267) (by decide +kernel) rfl⟩
theorem fl_X11_275 : jFl RX11 275 9 3 := ⟨RX9, TX9, 5, rfl, by decide, jt (n := 341) (by decide +kernel) rfl⟩
theorem fl_X11_290 : jFl RX11 290 9 4 := ⟨RX9, TX9, 5, rfl, by decide, jt (n := 343) (by decide +kernel) rfl⟩
theorem fp_X11_290 : jFp RX11 290 9 4 := ⟨RX9, TX9, 5, rfl, by decide, jt (n := 343) (by decide +kernel) rfl, rfl⟩
theorem fl_X11_294 : jFl RX11 294 2 4 := ⟨RX2, TX2, 5, rfl, by decide, jt (n := 316) (by decide +kernel) rfl⟩
theorem fp_X11_294 : jFp RX11 294 2 4 := ⟨RX2, TX2, 5, rfl, by decide, jt (n := 316) (by decide +kernel) rfl, rfl⟩
theorem fl_X11_297 : jFl RX11 297 6 8 := ⟨RX6, TX6, 9, rfl, by decide, jt (n := 277) (by decide +kernel) rfl⟩
theorem fp_X11_297 : jFp RX11 297 6 8 := ⟨RX6, TX6, 9, rfl, by decide, jt (n := 277) (by decide +kernel) rfl, rfl⟩
theorem fl_X11_317 : jFl RX11 317 10 6 := ⟨RX10, TX10, 9, rfl, by decide, jt (n := 370) (by decide +kernel) rfl⟩
theorem fp_X11_317 : jFp RX11 317 10 6 := ⟨RX10, TX10, 9, rfl, by decide, jt (n := 370) (by decide +kernel) rfl, rfl⟩
theorem fl_X11_320 : jFl RX11 320 10 7 := ⟨RX10, TX10, 9, rfl, by decide, jt (n := 372) (by decide +kernel) rfl⟩
theorem fp_X11_320 : jFp RX11 320 10 7 := ⟨RX10, TX10, 9, rfl, by decide, jt (n := 372) (by decide +kernel) rfl, rfl⟩
theorem fl_X11_323 : jFl RX11 323 10 8 := ⟨RX10, TX10, 9, rfl, by decide, jt (n := 374) (by decide +kernel) rfl⟩
theorem fp_X11_323 : jFp RX11 323 10 8 := ⟨RX10, TX10, 9, rfl, by decide, jt (n := 374) (by decide +kernel) rfl, rfl⟩
theorem fl_X12_13 : jFl RX12 13 12 1 := ⟨RX12, TX12, 48, rfl, by decide, jt (n := 1351) (by decide +kernel) rfl⟩
theorem fl_X12_17 : jFl RX12 17 12 3 := ⟨RX12, TX12, 48, rfl, by decide, jt (n := 1353) (by decide +kernel) rfl⟩
theorem fl_X12_20 : jFl RX12 20 12 5 := ⟨RX12, TX12, 48, rfl, by decide, jt (n := 1355) (by decide +kernel) rfl⟩
theorem fl_X12_24 : jFl RX12 24 12 6 := ⟨RX12, TX12, 48, rfl, by decide, jt (n := 1356) (by decide +kernel) rfl⟩
theorem fl_X12_27 : jFl RX12 27 12 7 := ⟨RX12, TX12, 48, rfl, by decide, jt (n := 1357) (by decide +kernel) rfl⟩
theorem fl_X12_30 : jFl RX12 30 12 8 := ⟨RX12, TX12, 48, rfl, by decide, jt (n := 1358) (by decide +kernel) rfl⟩
theorem fl_X12_34 : jFl RX12 34 12 9 := ⟨RX12, TX12, 48, rfl, by decide, jt (n := 1359) (by decide +kernel) rfl⟩
theorem fl_X12_37 : jFl RX12 37 12 17 := ⟨RX12, TX12, 48, rfl, by decide, jt (n := 1367) (by decide +kernel) rfl⟩
theorem fp_X12_37 : jFp RX12 37 12 17 := ⟨RX12, TX12, 48, rfl, by decide, jt (n := 1367) (by decide +kernel) rfl, rfl⟩
theorem fl_X12_40 : jFl RX12 40 12 19 := ⟨RX12, TX12, 48, rfl, by decide, jt (n := 1369) (by decide +kernel) rfl⟩
theorem fl_X12_43 : jFl RX12 43 12 20 := ⟨RX12, TX12, 48, rfl, by decide, jt (n := 1370) (by decide +kernel) rfl⟩
theorem fl_X12_46 : jFl RX12 46 12 21 := ⟨RX12, TX12, 48, rfl, by decide, jt (n := 1371) (by decide +kernel) rfl⟩
theorem fl_X12_49 : jFl RX12 49 12 22 := ⟨RX12, TX12, 48, rfl, by decide, jt (n := 1372) (by decide +kernel) rfl⟩
theorem fl_X12_52 : jFl RX12 52 12 23 := ⟨RX12, TX12, 48, rfl, by decide, jt (n := 1373) (by decide +kernel) rfl⟩
theorem fl_X12_55 : jFl RX12 55 12 25 := ⟨RX12, TX12, 48, rfl, by decide, jt (n := 1375) (by decide +kernel) rfl⟩
theorem fl_X12_58 : jFl RX12 58 12 27 := ⟨RX12, TX12, 48, rfl, by decide, jt (n := 1377) (by decide +kernel) rfl⟩
theorem fl_X12_61 : jFl RX12 61 12 28 := ⟨RX12, TX12, 48, rfl, by decide, jt (n := 1378) (by decide +kernel) rfl⟩
theorem fl_X12_64 : jFl RX12 64 12 29 := ⟨RX12, TX12, 48, rfl, by decide, jt (n := 1379) (by decide +kernel) rfl⟩
theorem fl_X12_67 : jFl RX12 67 12 31 := ⟨RX12, TX12, 48, rfl, by decide, jt (n := 1381) (by decide +kernel) rfl⟩
theorem fl_X12_70 : jFl RX12 70 12 32 := ⟨RX12, TX12, 48, rfl, by decide, jt (n := 1382) (by decide +kernel) rfl⟩
theorem fl_X12_73 : jFl RX12 73 12 33 := ⟨RX12, TX12, 48, rfl, by decide, jt (n := 1383) (by decide +kernel) rfl⟩
theorem fl_X12_77 : jFl RX12 77 12 34 := ⟨RX12, TX12, 48, rfl, by decide, jt (n := 1384) (by decide +kernel) rfl⟩
theorem fl_X12_80 : jFl RX12 80 12 35 := ⟨RX12, TX12, 48, rfl, by decide, jt (n := 1385) (by decide +kernel) rfl⟩
theorem fl_X12_83 : jFl RX12 83 12 38 := ⟨RX12, TX12, 48, rfl, by decide, jt (n := 1388) (by decide +kernel) rfl⟩
theorem fl_X12_86 : jFl RX12 86 12 39 := ⟨RX12, TX12, 48, rfl, by decide, jt (n := 1389) (by decide +kernel) rfl⟩
theorem fl_X12_89 : jFl RX12 89 12 40 := ⟨RX12, TX12, 48, rfl, by decide, jt (n := 1390) (by decide +kernel) rfl⟩
theorem fl_X12_92 : jFl RX12 92 12 41 := ⟨RX12, TX12, 48, rfl, by decide, jt (n := 1391) (by decide +kernel) rfl⟩
theorem fl_X12_95 : jFl RX12 95 12 42 := ⟨RX12, TX12, 48, rfl, by decide, jt (n := 1392) (by decide +kernel) rfl⟩
theorem fl_X12_98 : jFl RX12 98 12 43 := ⟨RX12, TX12, 48, rfl, by decide, jt (n := 1393) (by decide +kernel) rfl⟩
theorem fl_X12_101 : jFl RX12 101 12 44 := ⟨RX12, TX12, 48, rfl, by decide, jt (n := 1394) (by decide +kernel) rfl⟩
theorem fl_X12_104 : jFl RX12 104 12 46 := ⟨RX12, TX12, 48, rfl, by decide, jt (n := 1396) (by decide +kernel) rfl⟩
theorem fl_X12_109 : jFl RX12 109 12 47 := ⟨RX12, TX12, 48, rfl, by decide, jt (n := 1397) (by decide +kernel) rfl⟩
theorem fl_X12_120 : jFl RX12 120 12 2 := ⟨RX12, TX12, 48, rfl, by decide, jt (n := 1352) (by decide +kernel) rfl⟩
theorem fp_X12_120 : jFp RX12 120 12 2 := ⟨RX12, TX12, 48, rfl, by decide, jt (n := 1352) (by decide +kernel) rfl, rfl⟩
theorem fl_X12_126 : jFl RX12 126 12 4 := ⟨RX12, TX12, 48, rfl, by decide, jt (n := 1354) (by decide +kernel) rfl⟩
theorem fp_X12_126 : jFp RX12 126 12 4 := ⟨RX12, TX12, 48, rfl, by decide, jt (n := 1354) (by decide +kernel) rfl, rfl⟩
theorem fl_X12_135 : jFl RX12 135 12 10 := ⟨RX12, TX12, 48, rfl, by decide, jt (n := 1360) (by decide +kernel) rfl⟩
theorem fp_X12_135 : jFp RX12 135 12 10 := ⟨RX12, TX12, 48, rfl, by decide, jt (n := 1360) (by decide +kernel) rfl, rfl⟩
theorem fl_X12_157 : jFl RX12 157 12 13 := ⟨RX12, TX12, 48, rfl, by decide, jt (n := 1363) (by decide +kernel) rfl⟩
theorem fp_X12_157 : jFp RX12 157 12 13 := ⟨RX12, TX12, 48, rfl, by decide, jt (n := 1363) (by decide +kernel) rfl, rfl⟩
theorem fl_X12_160 : jFl RX12 160 12 11 := ⟨RX12, TX12, 48, rfl, by decide, jt (n := 1361) (by decide +kernel) rfl⟩
theorem fp_X12_160 : jFp RX12 160 12 11 := ⟨RX12, TX12, 48, rfl, by decide, jt (n := 1361) (by decide +kernel) rfl, rfl⟩
theorem fl_X12_163 : jFl RX12 163 12 14 := ⟨RX12, TX12, 48, rfl, by decide, jt (n := 1364) (by decide +kernel) rfl⟩
theorem fp_X12_163 : jFp RX12 163 12 14 := ⟨RX12, TX12, 48, rfl, by decide, jt (n := 1364) (by decide +kernel) rfl, rfl⟩
theorem fl_X12_166 : jFl RX12 166 12 15 := ⟨RX12, TX12, 48, rfl, by decide, jt (n := 1365) (by decide +kernel) rfl⟩
theorem fp_X12_166 : jFp RX12 166 12 15 := ⟨RX12, TX12, 48, rfl, by decide, jt (n := 1365) (by decide +kernel) rfl, rfl⟩
theorem fl_X12_169 : jFl RX12 169 12 16 := ⟨RX12, TX12, 48, rfl, by decide, jt (n := 1366) (by decide +kernel) rfl⟩
theorem fp_X12_169 : jFp RX12 169 12 16 := ⟨RX12, TX12, 48, rfl, by decide, jt (n := 1366) (by decide +kernel) rfl, rfl⟩
theorem fl_X12_184 : jFl RX12 184 12 12 := ⟨RX12, TX12, 48, rfl, by decide, jt (n := 1362) (by decide +kernel) rfl⟩
theorem fp_X12_184 : jFp RX12 184 12 12 := ⟨RX12, TX12, 48, rfl, by decide, jt (n := 1362) (by decide +kernel) rfl, rfl⟩
theorem fl_X12_187 : jFl RX12 187 12 18 := ⟨RX12, TX12, 48, rfl, by decide, jt (n := 1368) (by decide +kernel) rfl⟩
theorem fp_X12_187 : jFp RX12 187 12 18 := ⟨RX12, TX12, 48, rfl, by decide, jt (n := 1368) (by decide +kernel) rfl, rfl⟩
theorem fl_X12_190 : jFl RX12 190 12 24 := ⟨RX12, TX12, 48, rfl, by decide, jt (n := 1374) (by decide +kernel) rfl⟩
theorem fp_X12_190 : jFp RX12 190 12 24 := ⟨RX12, TX12, 48, rfl, by decide, jt (n := 1374) (by decide +kernel) rfl, rfl⟩
theorem fl_X12_193 : jFl RX12 193 12 26 := ⟨RX12, TX12, 48, rfl, by decide, jt (n := 1376) (by decide +kernel) rfl⟩
theorem fp_X12_193 : jFp RX12 193 12 26 := ⟨RX12, TX12, 48, rfl, by decide, jt (n := 1376) (by decide +kernel) rfl, rfl⟩
theorem fl_X12_216 : jFl RX12 216 12 30 := ⟨RX12, TX12, 48, rfl, by decide, jt (n := 1380) (by decide +kernel) rfl⟩
theorem fp_X12_216 : jFp RX12 216 12 30 := ⟨RX12, TX12, 48, rfl, by decide, jt (n := 1380) (by decide +kernel) rfl, rfl⟩
theorem fl_X12_262 : jFl RX12 262 12 36 := ⟨RX12, TX12, 48, rfl, by decide, jt (n := 1386) (by decide +kernel) rfl⟩
theorem fp_X12_262 : jFp RX12 262 12 36 := ⟨RX12, TX12, 48, rfl, by decide, jt (n := 1386) (by decide +kernel) rfl, rfl⟩
theorem fl_X12_271 : jFl RX12 271 12 37 := ⟨RX12, TX12, 48, rfl, by decide, jt (n := 1387) (by decide +kernel) rfl⟩
theorem fp_X12_271 : jFp RX12 271 12 37 := ⟨RX12, TX12, 48, rfl, by decide, jt (n := 1387) (by decide +kernel) rfl, rfl⟩
theorem fl_X12_370 : jFl RX12 370 12 45 := ⟨RX12, TX12, 48, rfl, by decide, jt (n := 1395) (by decide +kernel) rfl⟩
theorem fp_X12_370 : jFp RX12 370 12 45 := ⟨RX12, TX12, 48, rfl, by decide, jt (n := 1395) (by decide +kernel) rfl, rfl⟩
theorem fl_X2_14 : jFl RX2 14 2 0 := ⟨RX2, TX2, 5, rfl, by decide, jt (n := 305) (by decide +kernel) rfl⟩
theorem fl_X2_20 : jFl RX2 20 2 1 := ⟨RX2, TX2, 5, rfl, by decide, jt (n := 307) (by decide +kernel) rfl⟩
theorem fl_X2_23 : jFl RX2 23 2 2 := ⟨RX2, TX2, 5, rfl, by decide, jt (n := 309) (by decide +kernel) rfl⟩
theorem fl_X2_26 : jFl RX2 26 2 3 := ⟨RX2, TX2, 5, rfl, by decide, jt (n := 312) (by decide +kernel) rfl⟩
theorem fl_X2_29 : jFl RX2 29 2 4 := ⟨RX2, TX2, 5, rfl, by decide, jt (n := 314) (by decide +kernel) rfl⟩
theorem fp_X2_29 : jFp RX2 29 2 4 := ⟨RX2, TX2, 5, rfl, by decide, jt (n := 314) (by decide +kernel) rfl, rfl⟩
theorem fl_X2_41 : jFl RX2 41 8 1 := ⟨RX8, TX8, 2, rfl, by decide, jt (n := 153) (by decide +kernel) rfl⟩
theorem fp_X2_41 : jFp RX2 41 8 1 := ⟨RX8, TX8, 2, rfl, by decide, jt (n := 153) (by decide +kernel) rfl, rfl⟩
theorem fl_X3_9 : jFl RX3 9 3 0 := ⟨RX3, TX3, 3, rfl, by decide, jt (n := 455) (by decide +kernel) rfl⟩
theorem fl_X3_20 : jFl RX3 20 3 1 := ⟨RX3, TX3, 3, rfl, by decide, jt (n := 456) (by decide +kernel) rfl⟩
theorem fl_X3_24 : jFl RX3 24 3 2 := ⟨RX3, TX3, 3, rfl, by decide, jt (n := 457) (by decide +kernel) rfl⟩
theorem fl_X3_31 : jFl RX3 31 2 0 := ⟨RX2, TX2, 5, rfl, by decide, jt (n := 306) (by decide +kernel) rfl⟩
theorem fl_X3_40 : jFl RX3 40 2 1 := ⟨RX2, TX2, 5, rfl, by decide, jt (n := 308) (by decide +kernel) rfl⟩
theorem fl_X3_50 : jFl RX3 50 2 2 := ⟨RX2, TX2, 5, rfl, by decide, jt (n := 310) (by decide +kernel) rfl⟩
theorem fl_X3_61 : jFl RX3 61 8 1 := ⟨RX8, TX8, 2, rfl, by decide, jt (n := 157) (by decide +kernel) rfl⟩
theorem fp_X3_61 : jFp RX3 61 8 1 := ⟨RX8, TX8, 2, rfl, by decide, jt (n := 157) (by decide +kernel) rfl, rfl⟩
theorem fl_X4_9 : jFl RX4 9 4 0 := ⟨RX4, TX4, 4, rfl, by decide, jt (n := 172) (by decide +kernel) rfl⟩
theorem fl_X4_20 : jFl RX4 20 4 1 := ⟨RX4, TX4, 4, rfl, by decide, jt (n := 173) (by decide +kernel) rfl⟩
theorem fl_X4_23 : jFl RX4 23 4 2 := ⟨RX4, TX4, 4, rfl, by decide, jt (n := 176) (by decide +kernel) rfl⟩
theorem fl_X4_26 : jFl RX4 26 4 3 := ⟨RX4, TX4, 4, rfl, by decide, jt (n := 179) (by decide +kernel) rfl⟩
theorem fl_X4_42 : jFl RX4 42 8 1 := ⟨RX8, TX8, 2, rfl, by decide, jt (n := 152) (by decide +kernel) rfl⟩
theorem fp_X4_42 : jFp RX4 42 8 1 := ⟨RX8, TX8, 2, rfl, by decide, jt (n := 152) (by decide +kernel) rfl, rfl⟩
theorem fl_X5_9 : jFl RX5 9 5 0 := ⟨RX5, TX5, 4, rfl, by decide, jt (n := 473) (by decide +kernel) rfl⟩
theorem fl_X5_15 : jFl RX5 15 9 0 := ⟨RX9, TX9, 5, rfl, by decide, jt (n := 331) (by decide +kernel) rfl⟩
theorem fl_X5_21 : jFl RX5 21 5 1 := ⟨RX5, TX5, 4, rfl, by decide, jt (n := 474) (by decide +kernel) rfl⟩
theorem fl_X5_27 : jFl RX5 27 5 2 := ⟨RX5, TX5, 4, rfl, by decide, jt (n := 475) (by decide +kernel) rfl⟩
theorem fl_X5_31 : jFl RX5 31 5 3 := ⟨RX5, TX5, 4, rfl, by decide, jt (n := 476) (by decide +kernel) rfl⟩
theorem fl_X5_38 : jFl RX5 38 8 1 := ⟨RX8, TX8, 2, rfl, by decide, jt (n := 150) (by decide +kernel) rfl⟩
theorem fp_X5_38 : jFp RX5 38 8 1 := ⟨RX8, TX8, 2, rfl, by decide, jt (n := 150) (by decide +kernel) rfl, rfl⟩
theorem fl_X5_60 : jFl RX5 60 6 0 := ⟨RX6, TX6, 9, rfl, by decide, jt (n := 247) (by decide +kernel) rfl⟩
theorem fl_X5_63 : jFl RX5 63 6 8 := ⟨RX6, TX6, 9, rfl, by decide, jt (n := 276) (by decide +kernel) rfl⟩
theorem fp_X5_63 : jFp RX5 63 6 8 := ⟨RX6, TX6, 9, rfl, by decide, jt (n := 276) (by decide +kernel) rfl, rfl⟩
theorem fl_X5_66 : jFl RX5 66 6 1 := ⟨RX6, TX6, 9, rfl, by decide, jt (n := 252) (by decide +kernel) rfl⟩
theorem fl_X5_96 : jFl RX5 96 6 4 := ⟨RX6, TX6, 9, rfl, by decide, jt (n := 261) (by decide +kernel) rfl⟩
theorem fl_X5_106 : jFl RX5 106 6 5 := ⟨RX6, TX6, 9, rfl, by decide, jt (n := 266) (by decide +kernel) rfl⟩
theorem fl_X6_14 : jFl RX6 14 6 0 := ⟨RX6, TX6, 9, rfl, by decide, jt (n := 245) (by decide +kernel) rfl⟩
theorem fl_X6_20 : jFl RX6 20 6 1 := ⟨RX6, TX6, 9, rfl, by decide, jt (n := 250) (by decide +kernel) rfl⟩
theorem fl_X6_23 : jFl RX6 23 6 2 := ⟨RX6, TX6, 9, rfl, by decide, jt (n := 254) (by decide +kernel) rfl⟩
theorem fl_X6_26 : jFl RX6 26 6 3 := ⟨RX6, TX6, 9, rfl, by decide, jt (n := 256) (by decide +kernel) rfl⟩
theorem fl_X6_29 : jFl RX6 29 6 4 := ⟨RX6, TX6, 9, rfl, by decide, jt (n := 259) (by decide +kernel) rfl⟩
theorem fl_X6_32 : jFl RX6 32 6 5 := ⟨RX6, TX6, 9, rfl, by decide, jt (n := 263) (by decide +kernel) rfl⟩
theorem fl_X6_35 : jFl RX6 35 6 6 := ⟨RX6, TX6, 9, rfl, by decide, jt (n := 268) (by decide +kernel) rfl⟩
theorem fl_X6_38 : jFl RX6 38 6 7 := ⟨RX6, TX6, 9, rfl, by decide, jt (n := 271) (by decide +kernel) rfl⟩
theorem fl_X6_41 : jFl RX6 41 6 8 := ⟨RX6, TX6, 9, rfl, by decide, jt (n := 274) (by decide +kernel) rfl⟩
theorem fp_X6_41 : jFp RX6 41 6 8 := ⟨RX6, TX6, 9, rfl, by decide, jt (n := 274) (by decide +kernel) rfl, rfl⟩
theorem fl_X6_52 : jFl RX6 52 8 1 := ⟨RX8, TX8, 2, rfl, by decide, jt (n := 155) (by decide +kernel) rfl⟩
theorem fp_X6_52 : jFp RX6 52 8 1 := ⟨RX8, TX8, 2, rfl, by decide, jt (n := 155) (by decide +kernel) rfl, rfl⟩
theorem fl_X7_9 : jFl RX7 9 7 0 := ⟨RX7, TX7, 9, rfl, by decide, jt (n := 198) (by decide +kernel) rfl⟩
theorem fl_X7_20 : jFl RX7 20 7 1 := ⟨RX7, TX7, 9, rfl, by decide, jt (n := 199) (by decide +kernel) rfl⟩
theorem fl_X7_24 : jFl RX7 24 7 2 := ⟨RX7, TX7, 9, rfl, by decide, jt (n := 200) (by decide +kernel) rfl⟩
theorem fl_X7_27 : jFl RX7 27 7 3 := ⟨RX7, TX7, 9, rfl, by decide, jt (n := 202) (by decide +kernel) rfl⟩
theorem fl_X7_30 : jFl RX7 30 7 4 := ⟨RX7, TX7, 9, rfl, by decide, jt (n := 204) (by decide +kernel) rfl⟩
theorem fp_X7_30 : jFp RX7 30 7 4 := ⟨RX7, TX7, 9, rfl, by decide, jt (n := 204) (by decide +kernel) rfl, rfl⟩
theorem fl_X7_34 : jFl RX7 34 7 6 := ⟨RX7, TX7, 9, rfl, by decide, jt (n := 206) (by decide +kernel) rfl⟩
theorem fp_X7_34 : jFp RX7 34 7 6 := ⟨RX7, TX7, 9, rfl, by decide, jt (n := 206) (by decide +kernel) rfl, rfl⟩
theorem fl_X7_37 : jFl RX7 37 7 7 := ⟨RX7, TX7, 9, rfl, by decide, jt (n := 208) (by decide +kernel) rfl⟩
theorem fp_X7_37 : jFp RX7 37 7 7 := ⟨RX7, TX7, 9, rfl, by decide, jt (n := 208) (by decide +kernel) rfl, rfl⟩
theorem fl_X7_40 : jFl RX7 40 7 5 := ⟨RX7, TX7, 9, rfl, by decide, jt (n := 205) (by decide +kernel) rfl⟩
theorem fp_X7_40 : jFp RX7 40 7 5 := ⟨RX7, TX7, 9, rfl, by decide, jt (n := 205) (by decide +kernel) rfl, rfl⟩
theorem fl_X7_43 : jFl RX7 43 7 8 := ⟨RX7, TX7, 9, rfl, by decide, jt (n := 210) (by decide +kernel) rfl⟩
theorem fp_X7_43 : jFp RX7 43 7 8 := ⟨RX7, TX7, 9, rfl, by decide, jt (n := 210) (by decide +kernel) rfl, rfl⟩
theorem fl_X7_49 : jFl RX7 49 4 1 := ⟨RX4, TX4, 4, rfl, by decide, jt (n := 175) (by decide +kernel) rfl⟩
theorem fl_X7_54 : jFl RX7 54 8 1 := ⟨RX8, TX8, 2, rfl, by decide, jt (n := 151) (by decide +kernel) rfl⟩
theorem fp_X7_54 : jFp RX7 54 8 1 := ⟨RX8, TX8, 2, rfl, by decide, jt (n := 151) (by decide +kernel) rfl, rfl⟩
theorem fl_X7_71 : jFl RX7 71 4 3 := ⟨RX4, TX4, 4, rfl, by decide, jt (n := 180) (by decide +kernel) rfl⟩
theorem fl_X7_112 : jFl RX7 112 4 2 := ⟨RX4, TX4, 4, rfl, by decide, jt (n := 178) (by decide +kernel) rfl⟩
theorem fl_X8_13 : jFl RX8 13 8 0 := ⟨RX8, TX8, 2, rfl, by decide, jt (n := 146) (by decide +kernel) rfl⟩
theorem fp_X8_13 : jFp RX8 13 8 0 := ⟨RX8, TX8, 2, rfl, by decide, jt (n := 146) (by decide +kernel) rfl, rfl⟩
theorem fl_X8_19 : jFl RX8 19 8 1 := ⟨RX8, TX8, 2, rfl, by decide, jt (n := 147) (by decide +kernel) rfl⟩
theorem fp_X8_19 : jFp RX8 19 8 1 := ⟨RX8, TX8, 2, rfl, by decide, jt (n := 147) (by decide +kernel) rfl, rfl⟩
theorem fl_X9_12 : jFl RX9 12 9 0 := ⟨RX9, TX9, 5, rfl, by decide, jt (n := 332) (by decide +kernel) rfl⟩
theorem fl_X9_21 : jFl RX9 21 9 1 := ⟨RX9, TX9, 5, rfl, by decide, jt (n := 335) (by decide +kernel) rfl⟩
theorem fl_X9_30 : jFl RX9 30 9 2 := ⟨RX9, TX9, 5, rfl, by decide, jt (n := 339) (by decide +kernel) rfl⟩
theorem fl_X9_34 : jFl RX9 34 9 3 := ⟨RX9, TX9, 5, rfl, by decide, jt (n := 340) (by decide +kernel) rfl⟩
theorem fl_X9_37 : jFl RX9 37 9 4 := ⟨RX9, TX9, 5, rfl, by decide, jt (n := 342) (by decide +kernel) rfl⟩
theorem fp_X9_37 : jFp RX9 37 9 4 := ⟨RX9, TX9, 5, rfl, by decide, jt (n := 342) (by decide +kernel) rfl, rfl⟩
theorem fl_X9_70 : jFl RX9 70 8 1 := ⟨RX8, TX8, 2, rfl, by decide, jt (n := 154) (by decide +kernel) rfl⟩
theorem fp_X9_70 : jFp RX9 70 8 1 := ⟨RX8, TX8, 2, rfl, by decide, jt (n := 154) (by decide +kernel) rfl, rfl⟩
theorem fl_X9_85 : jFl RX9 85 6 5 := ⟨RX6, TX6, 9, rfl, by decide, jt (n := 265) (by decide +kernel) rfl⟩
theorem ml_L_9 : Cond.methodLink RLaw 9 yX11_init ∈ jtbl := jt (n := 131) (by decide +kernel) rfl
theorem ml_L_12 : Cond.methodLink RLaw 12 yX12_init ∈ jtbl := jt (n := 1325) (by decide +kernel) rfl
theorem ml_L_13 : Cond.methodLink RLaw 13 yX11_feed ∈ jtbl := jt (n := 575) (by decide +kernel) rfl
theorem ml_L_17 : Cond.methodLink RLaw 17 yX12_feed ∈ jtbl := jt (n := 1497) (by decide +kernel) rfl
theorem ml_L_18 : Cond.methodLink RLaw 18 yX11_back ∈ jtbl := jt (n := 584) (by decide +kernel) rfl
theorem ml_L_22 : Cond.methodLink RLaw 22 yX12_back ∈ jtbl := jt (n := 1505) (by decide +kernel) rfl
theorem ml_L_23 : Cond.methodLink RLaw 23 yX11_read ∈ jtbl := jt (n := 589) (by decide +kernel) rfl
theorem ml_L_27 : Cond.methodLink RLaw 27 yX12_read ∈ jtbl := jt (n := 1509) (by decide +kernel) rfl
theorem ml_L_28 : Cond.methodLink RLaw 28 yX11_place ∈ jtbl := jt (n := 994) (by decide +kernel) rfl
theorem ml_L_31 : Cond.methodLink RLaw 31 yX12_place ∈ jtbl := jt (n := 1685) (by decide +kernel) rfl
theorem ml_L_32 : Cond.methodLink RLaw 32 yX11_put ∈ jtbl := jt (n := 998) (by decide +kernel) rfl
theorem ml_L_36 : Cond.methodLink RLaw 36 yX12_put ∈ jtbl := jt (n := 1689) (by decide +kernel) rfl
theorem ml_L_37 : Cond.methodLink RLaw 37 yX11_cut ∈ jtbl := jt (n := 1006) (by decide +kernel) rfl
theorem ml_L_40 : Cond.methodLink RLaw 40 yX12_cut ∈ jtbl := jt (n := 1699) (by decide +kernel) rfl
theorem ml_L_41 : Cond.methodLink RLaw 41 yX11_has ∈ jtbl := jt (n := 1010) (by decide +kernel) rfl
theorem ml_L_44 : Cond.methodLink RLaw 44 yX12_has ∈ jtbl := jt (n := 1703) (by decide +kernel) rfl
theorem ml_L_45 : Cond.methodLink RLaw 45 yX11_value ∈ jtbl := jt (n := 1019) (by decide +kernel) rfl
theorem ml_L_48 : Cond.methodLink RLaw 48 yX12_value ∈ jtbl := jt (n := 1719) (by decide +kernel) rfl
theorem ml_L_49 : Cond.methodLink RLaw 49 yX11_since ∈ jtbl := jt (n := 1024) (by decide +kernel) rfl
theorem ml_L_52 : Cond.methodLink RLaw 52 yX12_since ∈ jtbl := jt (n := 1723) (by decide +kernel) rfl
theorem ml_L_53 : Cond.methodLink RLaw 53 yX11_many ∈ jtbl := jt (n := 1028) (by decide +kernel) rfl
theorem ml_L_57 : Cond.methodLink RLaw 57 yX12_many ∈ jtbl := jt (n := 1727) (by decide +kernel) rfl
theorem ml_L_58 : Cond.methodLink RLaw 58 yX11_sum ∈ jtbl := jt (n := 1044) (by decide +kernel) rfl
theorem ml_L_61 : Cond.methodLink RLaw 61 yX12_sum ∈ jtbl := jt (n := 1739) (by decide +kernel) rfl
theorem ml_L_62 : Cond.methodLink RLaw 62 yX11_nth ∈ jtbl := jt (n := 1052) (by decide +kernel) rfl
theorem ml_L_65 : Cond.methodLink RLaw 65 yX12_nth ∈ jtbl := jt (n := 1743) (by decide +kernel) rfl
theorem ml_L_66 : Cond.methodLink RLaw 66 yX11_next ∈ jtbl := jt (n := 1066) (by decide +kernel) rfl
theorem ml_L_69 : Cond.methodLink RLaw 69 yX12_next ∈ jtbl := jt (n := 1747) (by decide +kernel) rfl
theorem ml_L_70 : Cond.methodLink RLaw 70 yX11_prior ∈ jtbl := jt (n := 1074) (by decide +kernel) rfl
theorem ml_L_73 : Cond.methodLink RLaw 73 yX12_prior ∈ jtbl := jt (n := 1751) (by decide +kernel) rfl
theorem ml_L_74 : Cond.methodLink RLaw 74 yX11_differ ∈ jtbl := jt (n := 1082) (by decide +kernel) rfl
theorem ml_L_78 : Cond.methodLink RLaw 78 yX12_differ ∈ jtbl := jt (n := 1755) (by decide +kernel) rfl
theorem ml_L_79 : Cond.methodLink RLaw 79 yX11_ever ∈ jtbl := jt (n := 1090) (by decide +kernel) rfl
theorem ml_L_82 : Cond.methodLink RLaw 82 yX12_ever ∈ jtbl := jt (n := 1759) (by decide +kernel) rfl
theorem ml_L_83 : Cond.methodLink RLaw 83 yX11_stay ∈ jtbl := jt (n := 1102) (by decide +kernel) rfl
theorem ml_L_86 : Cond.methodLink RLaw 86 yX12_stay ∈ jtbl := jt (n := 1767) (by decide +kernel) rfl
theorem ml_L_87 : Cond.methodLink RLaw 87 yX11_versions ∈ jtbl := jt (n := 1111) (by decide +kernel) rfl
theorem ml_L_90 : Cond.methodLink RLaw 90 yX12_versions ∈ jtbl := jt (n := 1771) (by decide +kernel) rfl
theorem ml_L_91 : Cond.methodLink RLaw 91 yX11_version ∈ jtbl := jt (n := 1123) (by decide +kernel) rfl
theorem ml_L_94 : Cond.methodLink RLaw 94 yX12_version ∈ jtbl := jt (n := 1779) (by decide +kernel) rfl
theorem ml_L_95 : Cond.methodLink RLaw 95 yX11_peak ∈ jtbl := jt (n := 1131) (by decide +kernel) rfl
theorem ml_L_98 : Cond.methodLink RLaw 98 yX12_peak ∈ jtbl := jt (n := 1791) (by decide +kernel) rfl
theorem ml_L_99 : Cond.methodLink RLaw 99 yX11_root ∈ jtbl := jt (n := 1142) (by decide +kernel) rfl
theorem ml_L_102 : Cond.methodLink RLaw 102 yX12_root ∈ jtbl := jt (n := 1799) (by decide +kernel) rfl
theorem ml_L_103 : Cond.methodLink RLaw 103 yX11_deep ∈ jtbl := jt (n := 1147) (by decide +kernel) rfl
theorem ml_L_106 : Cond.methodLink RLaw 106 yX12_deep ∈ jtbl := jt (n := 1807) (by decide +kernel) rfl
theorem ml_L_107 : Cond.methodLink RLaw 107 yX11_leaf ∈ jtbl := jt (n := 1156) (by decide +kernel) rfl
theorem ml_L_110 : Cond.methodLink RLaw 110 yX12_leaf ∈ jtbl := jt (n := 1823) (by decide +kernel) rfl
theorem ml_L_111 : Cond.methodLink RLaw 111 yX11_reads ∈ jtbl := jt (n := 1165) (by decide +kernel) rfl
theorem ml_L_114 : Cond.methodLink RLaw 114 yX12_reads ∈ jtbl := jt (n := 1831) (by decide +kernel) rfl
theorem ml_L_115 : Cond.methodLink RLaw 115 yX11_thin ∈ jtbl := jt (n := 1190) (by decide +kernel) rfl
theorem ml_L_118 : Cond.methodLink RLaw 118 yX12_thin ∈ jtbl := jt (n := 1851) (by decide +kernel) rfl
theorem ml_L_119 : Cond.methodLink RLaw 119 yX11_way ∈ jtbl := jt (n := 1200) (by decide +kernel) rfl
theorem ml_L_122 : Cond.methodLink RLaw 122 yX12_way ∈ jtbl := jt (n := 1827) (by decide +kernel) rfl
theorem ml_L_123 : Cond.methodLink RLaw 123 yX11_longest ∈ jtbl := jt (n := 1208) (by decide +kernel) rfl
theorem ml_L_126 : Cond.methodLink RLaw 126 yX12_longest ∈ jtbl := jt (n := 1783) (by decide +kernel) rfl
theorem ml_L_127 : Cond.methodLink RLaw 127 yX11_busiest ∈ jtbl := jt (n := 1221) (by decide +kernel) rfl
theorem ml_L_130 : Cond.methodLink RLaw 130 yX12_busiest ∈ jtbl := jt (n := 1787) (by decide +kernel) rfl
theorem ml_L_131 : Cond.methodLink RLaw 131 yX11_gap ∈ jtbl := jt (n := 1229) (by decide +kernel) rfl
theorem ml_L_134 : Cond.methodLink RLaw 134 yX12_gap ∈ jtbl := jt (n := 1795) (by decide +kernel) rfl
theorem ml_L_135 : Cond.methodLink RLaw 135 yX11_held ∈ jtbl := jt (n := 1237) (by decide +kernel) rfl
theorem ml_L_138 : Cond.methodLink RLaw 138 yX12_held ∈ jtbl := jt (n := 1859) (by decide +kernel) rfl
theorem ml_L_139 : Cond.methodLink RLaw 139 yX11_page ∈ jtbl := jt (n := 1245) (by decide +kernel) rfl
theorem ml_L_142 : Cond.methodLink RLaw 142 yX12_page ∈ jtbl := jt (n := 1863) (by decide +kernel) rfl
theorem ml_L_143 : Cond.methodLink RLaw 143 yX11_entry ∈ jtbl := jt (n := 1257) (by decide +kernel) rfl
theorem ml_L_146 : Cond.methodLink RLaw 146 yX12_entry ∈ jtbl := jt (n := 1867) (by decide +kernel) rfl
theorem ml_L_147 : Cond.methodLink RLaw 147 yX11_room ∈ jtbl := jt (n := 1262) (by decide +kernel) rfl
theorem ml_L_150 : Cond.methodLink RLaw 150 yX12_room ∈ jtbl := jt (n := 1871) (by decide +kernel) rfl
theorem ml_L_151 : Cond.methodLink RLaw 151 yX11_hold ∈ jtbl := jt (n := 1283) (by decide +kernel) rfl
theorem ml_L_155 : Cond.methodLink RLaw 155 yX12_hold ∈ jtbl := jt (n := 1879) (by decide +kernel) rfl
theorem ml_L_156 : Cond.methodLink RLaw 156 yX11_restore ∈ jtbl := jt (n := 1306) (by decide +kernel) rfl
theorem ml_L_159 : Cond.methodLink RLaw 159 yX12_restore ∈ jtbl := jt (n := 1883) (by decide +kernel) rfl
theorem ml_L_160 : Cond.methodLink RLaw 160 yX11_count ∈ jtbl := jt (n := 1310) (by decide +kernel) rfl
theorem ml_L_163 : Cond.methodLink RLaw 163 yX12_count ∈ jtbl := jt (n := 1887) (by decide +kernel) rfl
theorem ml_X1_24 : Cond.methodLink RX1 24 yX8_init ∈ jtbl := jt (n := 401) (by decide +kernel) rfl
theorem ml_X1_33 : Cond.methodLink RX1 33 yX0_init ∈ jtbl := jt (n := 404) (by decide +kernel) rfl
theorem ml_X1_51 : Cond.methodLink RX1 51 yX2_happen ∈ jtbl := jt (n := 884) (by decide +kernel) rfl
theorem ml_X1_57 : Cond.methodLink RX1 57 yX1_endLiving ∈ jtbl := jt (n := 895) (by decide +kernel) rfl
theorem ml_X1_64 : Cond.methodLink RX1 64 yX8_at ∈ jtbl := jt (n := 929) (by decide +kernel) rfl
theorem ml_X1_71 : Cond.methodLink RX1 71 yX6_append ∈ jtbl := jt (n := 932) (by decide +kernel) rfl
theorem ml_X1_76 : Cond.methodLink RX1 76 yX1_gather ∈ jtbl := jt (n := 937) (by decide +kernel) rfl
theorem ml_X1_80 : Cond.methodLink RX1 80 yX0_insert ∈ jtbl := jt (n := 944) (by decide +kernel) rfl
theorem ml_X1_84 : Cond.methodLink RX1 84 yX1_replaceUp ∈ jtbl := jt (n := 948) (by decide +kernel) rfl
theorem ml_X1_87 : Cond.methodLink RX1 87 yX2_now ∈ jtbl := jt (n := 991) (by decide +kernel) rfl
theorem ml_X1_91 : Cond.methodLink RX1 91 yX2_livingFrom ∈ jtbl := jt (n := 992) (by decide +kernel) rfl
theorem ml_X1_94 : Cond.methodLink RX1 94 yX6_livingIn ∈ jtbl := jt (n := 983) (by decide +kernel) rfl
theorem ml_X1_97 : Cond.methodLink RX1 97 yX6_weak ∈ jtbl := jt (n := 960) (by decide +kernel) rfl
theorem ml_X1_100 : Cond.methodLink RX1 100 yX9_trace ∈ jtbl := jt (n := 899) (by decide +kernel) rfl
theorem ml_X1_104 : Cond.methodLink RX1 104 yX6_slotToward ∈ jtbl := jt (n := 930) (by decide +kernel) rfl
theorem ml_X1_113 : Cond.methodLink RX1 113 yX8_change ∈ jtbl := jt (n := 931) (by decide +kernel) rfl
theorem ml_X1_116 : Cond.methodLink RX1 116 yX6_endSlot ∈ jtbl := jt (n := 941) (by decide +kernel) rfl
theorem ml_X1_119 : Cond.methodLink RX1 119 yX6_firstSlot ∈ jtbl := jt (n := 942) (by decide +kernel) rfl
theorem ml_X1_122 : Cond.methodLink RX1 122 yX6_livesAt ∈ jtbl := jt (n := 943) (by decide +kernel) rfl
theorem ml_X1_132 : Cond.methodLink RX1 132 yX1_leaveAbove ∈ jtbl := jt (n := 952) (by decide +kernel) rfl
theorem ml_X1_138 : Cond.methodLink RX1 138 yX1_makePages ∈ jtbl := jt (n := 969) (by decide +kernel) rfl
theorem ml_X1_141 : Cond.methodLink RX1 141 yX1_crown ∈ jtbl := jt (n := 974) (by decide +kernel) rfl
theorem ml_X1_144 : Cond.methodLink RX1 144 yX1_handUp ∈ jtbl := jt (n := 979) (by decide +kernel) rfl
theorem ml_X1_147 : Cond.methodLink RX1 147 yX1_slotOf ∈ jtbl := jt (n := 956) (by decide +kernel) rfl
theorem ml_X1_153 : Cond.methodLink RX1 153 yX6_slotAfter ∈ jtbl := jt (n := 964) (by decide +kernel) rfl
theorem ml_X1_161 : Cond.methodLink RX1 161 yX6_open ∈ jtbl := jt (n := 973) (by decide +kernel) rfl
theorem ml_X1_177 : Cond.methodLink RX1 177 yX9_addRoot ∈ jtbl := jt (n := 978) (by decide +kernel) rfl
theorem ml_X10_25 : Cond.methodLink RX10 25 yX8_init ∈ jtbl := jt (n := 362) (by decide +kernel) rfl
theorem ml_X10_37 : Cond.methodLink RX10 37 yX8_at ∈ jtbl := jt (n := 841) (by decide +kernel) rfl
theorem ml_X10_47 : Cond.methodLink RX10 47 yX8_shorten ∈ jtbl := jt (n := 842) (by decide +kernel) rfl
theorem ml_X10_53 : Cond.methodLink RX10 53 yX10_total ∈ jtbl := jt (n := 847) (by decide +kernel) rfl
theorem ml_X10_68 : Cond.methodLink RX10 68 yX10_beginDo ∈ jtbl := jt (n := 870) (by decide +kernel) rfl
theorem ml_X10_71 : Cond.methodLink RX10 71 yX10_endRound ∈ jtbl := jt (n := 875) (by decide +kernel) rfl
theorem ml_X10_79 : Cond.methodLink RX10 79 yX8_add ∈ jtbl := jt (n := 874) (by decide +kernel) rfl
theorem ml_X10_91 : Cond.methodLink RX10 91 yX8_change ∈ jtbl := jt (n := 879) (by decide +kernel) rfl
theorem ml_X10_95 : Cond.methodLink RX10 95 yX10_product ∈ jtbl := jt (n := 851) (by decide +kernel) rfl
theorem ml_X10_98 : Cond.methodLink RX10 98 yX10_unit ∈ jtbl := jt (n := 855) (by decide +kernel) rfl
theorem ml_X10_101 : Cond.methodLink RX10 101 yX10_variable ∈ jtbl := jt (n := 859) (by decide +kernel) rfl
theorem ml_X10_110 : Cond.methodLink RX10 110 yX2_now ∈ jtbl := jt (n := 863) (by decide +kernel) rfl
theorem ml_X11_9 : Cond.methodLink RX11 9 yX8_init ∈ jtbl := jt (n := 139) (by decide +kernel) rfl
theorem ml_X11_20 : Cond.methodLink RX11 20 yX4_init ∈ jtbl := jt (n := 166) (by decide +kernel) rfl
theorem ml_X11_29 : Cond.methodLink RX11 29 yX7_init ∈ jtbl := jt (n := 192) (by decide +kernel) rfl
theorem ml_X11_38 : Cond.methodLink RX11 38 yX9_init ∈ jtbl := jt (n := 233) (by decide +kernel) rfl
theorem ml_X11_45 : Cond.methodLink RX11 45 yX10_init ∈ jtbl := jt (n := 357) (by decide +kernel) rfl
theorem ml_X11_54 : Cond.methodLink RX11 54 yX1_init ∈ jtbl := jt (n := 396) (by decide +kernel) rfl
theorem ml_X11_67 : Cond.methodLink RX11 67 yX3_init ∈ jtbl := jt (n := 449) (by decide +kernel) rfl
theorem ml_X11_76 : Cond.methodLink RX11 76 yX5_init ∈ jtbl := jt (n := 467) (by decide +kernel) rfl
theorem ml_X11_95 : Cond.methodLink RX11 95 yX9_reset ∈ jtbl := jt (n := 487) (by decide +kernel) rfl
theorem ml_X11_101 : Cond.methodLink RX11 101 yX11_feedFour ∈ jtbl := jt (n := 579) (by decide +kernel) rfl
theorem ml_X11_104 : Cond.methodLink RX11 104 yX8_shorten ∈ jtbl := jt (n := 588) (by decide +kernel) rfl
theorem ml_X11_107 : Cond.methodLink RX11 107 yX4_lexAll ∈ jtbl := jt (n := 593) (by decide +kernel) rfl
theorem ml_X11_110 : Cond.methodLink RX11 110 yX7_parseAll ∈ jtbl := jt (n := 759) (by decide +kernel) rfl
theorem ml_X11_120 : Cond.methodLink RX11 120 yX11_emptySlots ∈ jtbl := jt (n := 825) (by decide +kernel) rfl
theorem ml_X11_123 : Cond.methodLink RX11 123 yX11_tellAll ∈ jtbl := jt (n := 833) (by decide +kernel) rfl
theorem ml_X11_126 : Cond.methodLink RX11 126 yX11_isKey ∈ jtbl := jt (n := 1002) (by decide +kernel) rfl
theorem ml_X11_130 : Cond.methodLink RX11 130 yX1_bring ∈ jtbl := jt (n := 880) (by decide +kernel) rfl
theorem ml_X11_134 : Cond.methodLink RX11 134 yX2_now ∈ jtbl := jt (n := 1005) (by decide +kernel) rfl
theorem ml_X11_140 : Cond.methodLink RX11 140 yX1_drop ∈ jtbl := jt (n := 987) (by decide +kernel) rfl
theorem ml_X11_143 : Cond.methodLink RX11 143 yX11_isTime ∈ jtbl := jt (n := 1014) (by decide +kernel) rfl
theorem ml_X11_146 : Cond.methodLink RX11 146 yX2_livingFrom ∈ jtbl := jt (n := 1018) (by decide +kernel) rfl
theorem ml_X11_153 : Cond.methodLink RX11 153 yX8_at ∈ jtbl := jt (n := 1023) (by decide +kernel) rfl
theorem ml_X11_157 : Cond.methodLink RX11 157 yX11_isRange ∈ jtbl := jt (n := 1032) (by decide +kernel) rfl
theorem ml_X11_160 : Cond.methodLink RX11 160 yX3_livingIn ∈ jtbl := jt (n := 1035) (by decide +kernel) rfl
theorem ml_X11_164 : Cond.methodLink RX11 164 yX3_totalIn ∈ jtbl := jt (n := 1048) (by decide +kernel) rfl
theorem ml_X11_167 : Cond.methodLink RX11 167 yX3_keyByRank ∈ jtbl := jt (n := 1056) (by decide +kernel) rfl
theorem ml_X11_170 : Cond.methodLink RX11 170 yX3_fromKeyUp ∈ jtbl := jt (n := 1070) (by decide +kernel) rfl
theorem ml_X11_173 : Cond.methodLink RX11 173 yX3_fromKeyDown ∈ jtbl := jt (n := 1078) (by decide +kernel) rfl
theorem ml_X11_176 : Cond.methodLink RX11 176 yX3_differences ∈ jtbl := jt (n := 1086) (by decide +kernel) rfl
theorem ml_X11_180 : Cond.methodLink RX11 180 yX11_isSpan ∈ jtbl := jt (n := 1094) (by decide +kernel) rfl
theorem ml_X11_183 : Cond.methodLink RX11 183 yX3_livingWithin ∈ jtbl := jt (n := 1098) (by decide +kernel) rfl
theorem ml_X11_186 : Cond.methodLink RX11 186 yX3_timesOf ∈ jtbl := jt (n := 1106) (by decide +kernel) rfl
theorem ml_X11_189 : Cond.methodLink RX11 189 yX2_versionsOf ∈ jtbl := jt (n := 1115) (by decide +kernel) rfl
theorem ml_X11_192 : Cond.methodLink RX11 192 yX2_versionFrom ∈ jtbl := jt (n := 1127) (by decide +kernel) rfl
theorem ml_X11_198 : Cond.methodLink RX11 198 yX11_isEither ∈ jtbl := jt (n := 1135) (by decide +kernel) rfl
theorem ml_X11_201 : Cond.methodLink RX11 201 yX3_mostLiving ∈ jtbl := jt (n := 1138) (by decide +kernel) rfl
theorem ml_X11_204 : Cond.methodLink RX11 204 yX9_rootAt ∈ jtbl := jt (n := 1146) (by decide +kernel) rfl
theorem ml_X11_207 : Cond.methodLink RX11 207 yX5_levels ∈ jtbl := jt (n := 1151) (by decide +kernel) rfl
theorem ml_X11_210 : Cond.methodLink RX11 210 yX5_leafOf ∈ jtbl := jt (n := 1160) (by decide +kernel) rfl
theorem ml_X11_213 : Cond.methodLink RX11 213 yX5_pagesFor ∈ jtbl := jt (n := 1169) (by decide +kernel) rfl
theorem ml_X11_216 : Cond.methodLink RX11 216 yX5_weakPages ∈ jtbl := jt (n := 1194) (by decide +kernel) rfl
theorem ml_X11_219 : Cond.methodLink RX11 219 yX5_pageOnWay ∈ jtbl := jt (n := 1204) (by decide +kernel) rfl
theorem ml_X11_222 : Cond.methodLink RX11 222 yX3_longestVersion ∈ jtbl := jt (n := 1212) (by decide +kernel) rfl
theorem ml_X11_225 : Cond.methodLink RX11 225 yX3_mostVersions ∈ jtbl := jt (n := 1225) (by decide +kernel) rfl
theorem ml_X11_228 : Cond.methodLink RX11 228 yX3_widestGap ∈ jtbl := jt (n := 1233) (by decide +kernel) rfl
theorem ml_X11_231 : Cond.methodLink RX11 231 yX5_heldAt ∈ jtbl := jt (n := 1241) (by decide +kernel) rfl
theorem ml_X11_238 : Cond.methodLink RX11 238 yX6_isPage ∈ jtbl := jt (n := 1249) (by decide +kernel) rfl
theorem ml_X11_249 : Cond.methodLink RX11 249 yX6_openIn ∈ jtbl := jt (n := 1253) (by decide +kernel) rfl
theorem ml_X11_258 : Cond.methodLink RX11 258 yX6_firstSlot ∈ jtbl := jt (n := 1261) (by decide +kernel) rfl
theorem ml_X11_269 : Cond.methodLink RX11 269 yX6_allEntries ∈ jtbl := jt (n := 1266) (by decide +kernel) rfl
theorem ml_X11_272 : Cond.methodLink RX11 272 yX6_endedPages ∈ jtbl := jt (n := 1270) (by decide +kernel) rfl
theorem ml_X11_278 : Cond.methodLink RX11 278 yX6_copies ∈ jtbl := jt (n := 1274) (by decide +kernel) rfl
theorem ml_X11_281 : Cond.methodLink RX11 281 yX11_entriesByTime ∈ jtbl := jt (n := 1279) (by decide +kernel) rfl
theorem ml_X11_284 : Cond.methodLink RX11 284 yX11_isSlot ∈ jtbl := jt (n := 829) (by decide +kernel) rfl
theorem ml_X11_287 : Cond.methodLink RX11 287 yX9_copyFrom ∈ jtbl := jt (n := 1287) (by decide +kernel) rfl
theorem ml_X11_298 : Cond.methodLink RX11 298 yX6_weak ∈ jtbl := jt (n := 1314) (by decide +kernel) rfl
theorem ml_X11_301 : Cond.methodLink RX11 301 yX11_filledSlots ∈ jtbl := jt (n := 1315) (by decide +kernel) rfl
theorem ml_X11_304 : Cond.methodLink RX11 304 yX6_madeAt ∈ jtbl := jt (n := 1319) (by decide +kernel) rfl
theorem ml_X11_307 : Cond.methodLink RX11 307 yX8_add ∈ jtbl := jt (n := 583) (by decide +kernel) rfl
theorem ml_X11_310 : Cond.methodLink RX11 310 yX10_start ∈ jtbl := jt (n := 837) (by decide +kernel) rfl
theorem ml_X11_313 : Cond.methodLink RX11 313 yX10_goOn ∈ jtbl := jt (n := 843) (by decide +kernel) rfl
theorem ml_X12_112 : Cond.methodLink RX12 112 yX12_letters ∈ jtbl := jt (n := 1331) (by decide +kernel) rfl
theorem ml_X12_116 : Cond.methodLink RX12 116 yX12_begins ∈ jtbl := jt (n := 1338) (by decide +kernel) rfl
theorem ml_X12_123 : Cond.methodLink RX12 123 yX12_lays ∈ jtbl := jt (n := 1501) (by decide +kernel) rfl
theorem ml_X12_131 : Cond.methodLink RX12 131 yX12_appends ∈ jtbl := jt (n := 1334) (by decide +kernel) rfl
theorem ml_X12_138 : Cond.methodLink RX12 138 yX12_byteAt ∈ jtbl := jt (n := 1517) (by decide +kernel) rfl
theorem ml_X12_142 : Cond.methodLink RX12 142 yX12_token ∈ jtbl := jt (n := 1521) (by decide +kernel) rfl
theorem ml_X12_146 : Cond.methodLink RX12 146 yX12_isLetter ∈ jtbl := jt (n := 1525) (by decide +kernel) rfl
theorem ml_X12_150 : Cond.methodLink RX12 150 yX12_isDigit ∈ jtbl := jt (n := 1528) (by decide +kernel) rfl
theorem ml_X12_153 : Cond.methodLink RX12 153 yX12_sign ∈ jtbl := jt (n := 1531) (by decide +kernel) rfl
theorem ml_X12_172 : Cond.methodLink RX12 172 yX12_fail ∈ jtbl := jt (n := 1543) (by decide +kernel) rfl
theorem ml_X12_175 : Cond.methodLink RX12 175 yX12_is ∈ jtbl := jt (n := 1535) (by decide +kernel) rfl
theorem ml_X12_178 : Cond.methodLink RX12 178 yX12_goesOn ∈ jtbl := jt (n := 1539) (by decide +kernel) rfl
theorem ml_X12_181 : Cond.methodLink RX12 181 yX12_cutsUp ∈ jtbl := jt (n := 1513) (by decide +kernel) rfl
theorem ml_X12_196 : Cond.methodLink RX12 196 yX12_bounded ∈ jtbl := jt (n := 1547) (by decide +kernel) rfl
theorem ml_X12_200 : Cond.methodLink RX12 200 yX12_must ∈ jtbl := jt (n := 1555) (by decide +kernel) rfl
theorem ml_X12_203 : Cond.methodLink RX12 203 yX12_tellOne ∈ jtbl := jt (n := 1559) (by decide +kernel) rfl
theorem ml_X12_206 : Cond.methodLink RX12 206 yX12_runs ∈ jtbl := jt (n := 1579) (by decide +kernel) rfl
theorem ml_X12_209 : Cond.methodLink RX12 209 yX12_wrong ∈ jtbl := jt (n := 1551) (by decide +kernel) rfl
theorem ml_X12_213 : Cond.methodLink RX12 213 yX12_expression ∈ jtbl := jt (n := 1563) (by decide +kernel) rfl
theorem ml_X12_219 : Cond.methodLink RX12 219 yX12_emit ∈ jtbl := jt (n := 1571) (by decide +kernel) rfl
theorem ml_X12_222 : Cond.methodLink RX12 222 yX12_unit ∈ jtbl := jt (n := 1567) (by decide +kernel) rfl
theorem ml_X12_225 : Cond.methodLink RX12 225 yX12_comesOut ∈ jtbl := jt (n := 1575) (by decide +kernel) rfl
theorem ml_X12_229 : Cond.methodLink RX12 229 yX12_termOf ∈ jtbl := jt (n := 1583) (by decide +kernel) rfl
theorem ml_X12_232 : Cond.methodLink RX12 232 yX12_keyOf ∈ jtbl := jt (n := 1587) (by decide +kernel) rfl
theorem ml_X12_235 : Cond.methodLink RX12 235 yX12_puts ∈ jtbl := jt (n := 1590) (by decide +kernel) rfl
theorem ml_X12_239 : Cond.methodLink RX12 239 yX12_cuts ∈ jtbl := jt (n := 1681) (by decide +kernel) rfl
theorem ml_X12_243 : Cond.methodLink RX12 243 yX12_makes ∈ jtbl := jt (n := 1343) (by decide +kernel) rfl
theorem ml_X12_246 : Cond.methodLink RX12 246 yX12_becomesRoot ∈ jtbl := jt (n := 1347) (by decide +kernel) rfl
theorem ml_X12_249 : Cond.methodLink RX12 249 yX12_entriesOf ∈ jtbl := jt (n := 1618) (by decide +kernel) rfl
theorem ml_X12_252 : Cond.methodLink RX12 252 yX12_entryAt ∈ jtbl := jt (n := 1622) (by decide +kernel) rfl
theorem ml_X12_255 : Cond.methodLink RX12 255 yX12_isLiving ∈ jtbl := jt (n := 1625) (by decide +kernel) rfl
theorem ml_X12_258 : Cond.methodLink RX12 258 yX12_rootNow ∈ jtbl := jt (n := 1606) (by decide +kernel) rfl
theorem ml_X12_265 : Cond.methodLink RX12 265 yX12_isLeaf ∈ jtbl := jt (n := 1610) (by decide +kernel) rfl
theorem ml_X12_268 : Cond.methodLink RX12 268 yX12_childOf ∈ jtbl := jt (n := 1614) (by decide +kernel) rfl
theorem ml_X12_274 : Cond.methodLink RX12 274 yX12_joins ∈ jtbl := jt (n := 1641) (by decide +kernel) rfl
theorem ml_X12_278 : Cond.methodLink RX12 278 yX12_entryFor ∈ jtbl := jt (n := 1661) (by decide +kernel) rfl
theorem ml_X12_281 : Cond.methodLink RX12 281 yX12_comes ∈ jtbl := jt (n := 1633) (by decide +kernel) rfl
theorem ml_X12_285 : Cond.methodLink RX12 285 yX12_replacesOne ∈ jtbl := jt (n := 1649) (by decide +kernel) rfl
theorem ml_X12_288 : Cond.methodLink RX12 288 yX12_weak ∈ jtbl := jt (n := 1653) (by decide +kernel) rfl
theorem ml_X12_291 : Cond.methodLink RX12 291 yX12_siblingOf ∈ jtbl := jt (n := 1657) (by decide +kernel) rfl
theorem ml_X12_294 : Cond.methodLink RX12 294 yX12_joinsAll ∈ jtbl := jt (n := 1637) (by decide +kernel) rfl
theorem ml_X12_297 : Cond.methodLink RX12 297 yX12_ends ∈ jtbl := jt (n := 1665) (by decide +kernel) rfl
theorem ml_X12_300 : Cond.methodLink RX12 300 yX12_newPage ∈ jtbl := jt (n := 1669) (by decide +kernel) rfl
theorem ml_X12_303 : Cond.methodLink RX12 303 yX12_endsAbove ∈ jtbl := jt (n := 1673) (by decide +kernel) rfl
theorem ml_X12_306 : Cond.methodLink RX12 306 yX12_livingIn ∈ jtbl := jt (n := 1677) (by decide +kernel) rfl
theorem ml_X12_309 : Cond.methodLink RX12 309 yX12_versionEnds ∈ jtbl := jt (n := 1594) (by decide +kernel) rfl
theorem ml_X12_312 : Cond.methodLink RX12 312 yX12_versionComes ∈ jtbl := jt (n := 1598) (by decide +kernel) rfl
theorem ml_X12_315 : Cond.methodLink RX12 315 yX12_goesDown ∈ jtbl := jt (n := 1602) (by decide +kernel) rfl
theorem ml_X12_318 : Cond.methodLink RX12 318 yX12_entryEnds ∈ jtbl := jt (n := 1629) (by decide +kernel) rfl
theorem ml_X12_321 : Cond.methodLink RX12 321 yX12_replaces ∈ jtbl := jt (n := 1645) (by decide +kernel) rfl
theorem ml_X12_324 : Cond.methodLink RX12 324 yX12_in ∈ jtbl := jt (n := 1696) (by decide +kernel) rfl
theorem ml_X12_328 : Cond.methodLink RX12 328 yX12_isKey ∈ jtbl := jt (n := 1693) (by decide +kernel) rfl
theorem ml_X12_331 : Cond.methodLink RX12 331 yX12_livesThen ∈ jtbl := jt (n := 1715) (by decide +kernel) rfl
theorem ml_X12_334 : Cond.methodLink RX12 334 yX12_isTime ∈ jtbl := jt (n := 1707) (by decide +kernel) rfl
theorem ml_X12_337 : Cond.methodLink RX12 337 yX12_versionAt ∈ jtbl := jt (n := 1711) (by decide +kernel) rfl
theorem ml_X12_340 : Cond.methodLink RX12 340 yX12_isRange ∈ jtbl := jt (n := 1731) (by decide +kernel) rfl
theorem ml_X12_343 : Cond.methodLink RX12 343 yX12_fillsThen ∈ jtbl := jt (n := 1735) (by decide +kernel) rfl
theorem ml_X12_346 : Cond.methodLink RX12 346 yX12_areTimes ∈ jtbl := jt (n := 1763) (by decide +kernel) rfl
theorem ml_X12_349 : Cond.methodLink RX12 349 yX12_versionsOf ∈ jtbl := jt (n := 1775) (by decide +kernel) rfl
theorem ml_X12_352 : Cond.methodLink RX12 352 yX12_entryThen ∈ jtbl := jt (n := 1819) (by decide +kernel) rfl
theorem ml_X12_355 : Cond.methodLink RX12 355 yX12_rootAt ∈ jtbl := jt (n := 1803) (by decide +kernel) rfl
theorem ml_X12_358 : Cond.methodLink RX12 358 yX12_childThen ∈ jtbl := jt (n := 1815) (by decide +kernel) rfl
theorem ml_X12_361 : Cond.methodLink RX12 361 yX12_goesDownThen ∈ jtbl := jt (n := 1811) (by decide +kernel) rfl
theorem ml_X12_364 : Cond.methodLink RX12 364 yX12_isLeast ∈ jtbl := jt (n := 1843) (by decide +kernel) rfl
theorem ml_X12_367 : Cond.methodLink RX12 367 yX12_spanTo ∈ jtbl := jt (n := 1847) (by decide +kernel) rfl
theorem ml_X12_373 : Cond.methodLink RX12 373 yX12_isAsked ∈ jtbl := jt (n := 1839) (by decide +kernel) rfl
theorem ml_X12_377 : Cond.methodLink RX12 377 yX12_goesThrough ∈ jtbl := jt (n := 1835) (by decide +kernel) rfl
theorem ml_X12_381 : Cond.methodLink RX12 381 yX12_livingThen ∈ jtbl := jt (n := 1855) (by decide +kernel) rfl
theorem ml_X12_384 : Cond.methodLink RX12 384 yX12_copiesIn ∈ jtbl := jt (n := 1875) (by decide +kernel) rfl
theorem ml_X12_387 : Cond.methodLink RX12 387 yX12_keyFrom ∈ jtbl := jt (n := 1891) (by decide +kernel) rfl
theorem ml_X2_11 : Cond.methodLink RX2 11 yX8_init ∈ jtbl := jt (n := 304) (by decide +kernel) rfl
theorem ml_X2_33 : Cond.methodLink RX2 33 yX8_fill ∈ jtbl := jt (n := 503) (by decide +kernel) rfl
theorem ml_X2_37 : Cond.methodLink RX2 37 yX8_copyFrom ∈ jtbl := jt (n := 1304) (by decide +kernel) rfl
theorem ml_X2_44 : Cond.methodLink RX2 44 yX2_livingFrom ∈ jtbl := jt (n := 888) (by decide +kernel) rfl
theorem ml_X2_48 : Cond.methodLink RX2 48 yX8_change ∈ jtbl := jt (n := 893) (by decide +kernel) rfl
theorem ml_X2_51 : Cond.methodLink RX2 51 yX8_add ∈ jtbl := jt (n := 894) (by decide +kernel) rfl
theorem ml_X2_54 : Cond.methodLink RX2 54 yX8_at ∈ jtbl := jt (n := 892) (by decide +kernel) rfl
theorem ml_X2_58 : Cond.methodLink RX2 58 yX2_isVersion ∈ jtbl := jt (n := 1119) (by decide +kernel) rfl
theorem ml_X3_17 : Cond.methodLink RX3 17 yX8_init ∈ jtbl := jt (n := 454) (by decide +kernel) rfl
theorem ml_X3_27 : Cond.methodLink RX3 27 yX8_fill ∈ jtbl := jt (n := 1064) (by decide +kernel) rfl
theorem ml_X3_36 : Cond.methodLink RX3 36 yX8_at ∈ jtbl := jt (n := 1039) (by decide +kernel) rfl
theorem ml_X3_43 : Cond.methodLink RX3 43 yX8_change ∈ jtbl := jt (n := 1065) (by decide +kernel) rfl
theorem ml_X3_46 : Cond.methodLink RX3 46 yX2_livesAt ∈ jtbl := jt (n := 1040) (by decide +kernel) rfl
theorem ml_X3_53 : Cond.methodLink RX3 53 yX3_fillTable ∈ jtbl := jt (n := 1060) (by decide +kernel) rfl
theorem ml_X3_57 : Cond.methodLink RX3 57 yX2_livingFrom ∈ jtbl := jt (n := 1110) (by decide +kernel) rfl
theorem ml_X3_65 : Cond.methodLink RX3 65 yX2_isVersion ∈ jtbl := jt (n := 1216) (by decide +kernel) rfl
theorem ml_X3_68 : Cond.methodLink RX3 68 yX2_lengthOf ∈ jtbl := jt (n := 1217) (by decide +kernel) rfl
theorem ml_X4_17 : Cond.methodLink RX4 17 yX8_init ∈ jtbl := jt (n := 171) (by decide +kernel) rfl
theorem ml_X4_29 : Cond.methodLink RX4 29 yX8_shorten ∈ jtbl := jt (n := 597) (by decide +kernel) rfl
theorem ml_X4_32 : Cond.methodLink RX4 32 yX4_pastBlanks ∈ jtbl := jt (n := 598) (by decide +kernel) rfl
theorem ml_X4_36 : Cond.methodLink RX4 36 yX4_lexOne ∈ jtbl := jt (n := 609) (by decide +kernel) rfl
theorem ml_X4_39 : Cond.methodLink RX4 39 yX8_at ∈ jtbl := jt (n := 602) (by decide +kernel) rfl
theorem ml_X4_46 : Cond.methodLink RX4 46 yX4_isBlank ∈ jtbl := jt (n := 606) (by decide +kernel) rfl
theorem ml_X4_50 : Cond.methodLink RX4 50 yX4_keep ∈ jtbl := jt (n := 613) (by decide +kernel) rfl
theorem ml_X4_54 : Cond.methodLink RX4 54 yX4_isLetter ∈ jtbl := jt (n := 618) (by decide +kernel) rfl
theorem ml_X4_57 : Cond.methodLink RX4 57 yX4_lexWord ∈ jtbl := jt (n := 621) (by decide +kernel) rfl
theorem ml_X4_60 : Cond.methodLink RX4 60 yX4_isDigit ∈ jtbl := jt (n := 696) (by decide +kernel) rfl
theorem ml_X4_63 : Cond.methodLink RX4 63 yX4_lexInt ∈ jtbl := jt (n := 699) (by decide +kernel) rfl
theorem ml_X4_73 : Cond.methodLink RX4 73 yX4_kindOfWord ∈ jtbl := jt (n := 625) (by decide +kernel) rfl
theorem ml_X4_79 : Cond.methodLink RX4 79 yX4_spells ∈ jtbl := jt (n := 630) (by decide +kernel) rfl
theorem ml_X4_91 : Cond.methodLink RX4 91 yX4_kindOfVar ∈ jtbl := jt (n := 686) (by decide +kernel) rfl
theorem ml_X4_114 : Cond.methodLink RX4 114 yX8_add ∈ jtbl := jt (n := 617) (by decide +kernel) rfl
theorem ml_X5_24 : Cond.methodLink RX5 24 yX8_init ∈ jtbl := jt (n := 472) (by decide +kernel) rfl
theorem ml_X5_34 : Cond.methodLink RX5 34 yX9_trace ∈ jtbl := jt (n := 1155) (by decide +kernel) rfl
theorem ml_X5_42 : Cond.methodLink RX5 42 yX8_at ∈ jtbl := jt (n := 1164) (by decide +kernel) rfl
theorem ml_X5_46 : Cond.methodLink RX5 46 yX5_comeTo ∈ jtbl := jt (n := 1173) (by decide +kernel) rfl
theorem ml_X5_50 : Cond.methodLink RX5 50 yX6_livingIn ∈ jtbl := jt (n := 1198) (by decide +kernel) rfl
theorem ml_X5_56 : Cond.methodLink RX5 56 yX6_weak ∈ jtbl := jt (n := 1199) (by decide +kernel) rfl
theorem ml_X5_69 : Cond.methodLink RX5 69 yX8_shorten ∈ jtbl := jt (n := 1177) (by decide +kernel) rfl
theorem ml_X5_72 : Cond.methodLink RX5 72 yX9_rootAt ∈ jtbl := jt (n := 1178) (by decide +kernel) rfl
theorem ml_X5_75 : Cond.methodLink RX5 75 yX8_add ∈ jtbl := jt (n := 1179) (by decide +kernel) rfl
theorem ml_X5_78 : Cond.methodLink RX5 78 yX6_isLeaf ∈ jtbl := jt (n := 1180) (by decide +kernel) rfl
theorem ml_X5_82 : Cond.methodLink RX5 82 yX5_comeBelow ∈ jtbl := jt (n := 1181) (by decide +kernel) rfl
theorem ml_X5_86 : Cond.methodLink RX5 86 yX6_endSlot ∈ jtbl := jt (n := 1185) (by decide +kernel) rfl
theorem ml_X5_89 : Cond.methodLink RX5 89 yX6_firstSlot ∈ jtbl := jt (n := 1186) (by decide +kernel) rfl
theorem ml_X5_92 : Cond.methodLink RX5 92 yX6_livesAt ∈ jtbl := jt (n := 1187) (by decide +kernel) rfl
theorem ml_X5_99 : Cond.methodLink RX5 99 yX6_slotAfter ∈ jtbl := jt (n := 1188) (by decide +kernel) rfl
theorem ml_X5_103 : Cond.methodLink RX5 103 yX6_slotToward ∈ jtbl := jt (n := 1189) (by decide +kernel) rfl
theorem ml_X6_11 : Cond.methodLink RX6 11 yX8_init ∈ jtbl := jt (n := 244) (by decide +kernel) rfl
theorem ml_X6_45 : Cond.methodLink RX6 45 yX8_shorten ∈ jtbl := jt (n := 495) (by decide +kernel) rfl
theorem ml_X6_48 : Cond.methodLink RX6 48 yX8_copyFrom ∈ jtbl := jt (n := 1295) (by decide +kernel) rfl
theorem ml_X6_55 : Cond.methodLink RX6 55 yX8_at ∈ jtbl := jt (n := 912) (by decide +kernel) rfl
theorem ml_X6_59 : Cond.methodLink RX6 59 yX8_add ∈ jtbl := jt (n := 513) (by decide +kernel) rfl
theorem ml_X6_62 : Cond.methodLink RX6 62 yX8_change ∈ jtbl := jt (n := 936) (by decide +kernel) rfl
theorem ml_X6_66 : Cond.methodLink RX6 66 yX6_endSlot ∈ jtbl := jt (n := 917) (by decide +kernel) rfl
theorem ml_X6_69 : Cond.methodLink RX6 69 yX6_firstSlot ∈ jtbl := jt (n := 921) (by decide +kernel) rfl
theorem ml_X6_72 : Cond.methodLink RX6 72 yX6_livesAt ∈ jtbl := jt (n := 925) (by decide +kernel) rfl
theorem ml_X6_76 : Cond.methodLink RX6 76 yX6_isLeaf ∈ jtbl := jt (n := 1278) (by decide +kernel) rfl
theorem ml_X7_17 : Cond.methodLink RX7 17 yX8_init ∈ jtbl := jt (n := 197) (by decide +kernel) rfl
theorem ml_X7_46 : Cond.methodLink RX7 46 yX8_shorten ∈ jtbl := jt (n := 763) (by decide +kernel) rfl
theorem ml_X7_57 : Cond.methodLink RX7 57 yX8_fill ∈ jtbl := jt (n := 764) (by decide +kernel) rfl
theorem ml_X7_61 : Cond.methodLink RX7 61 yX7_parsePage ∈ jtbl := jt (n := 765) (by decide +kernel) rfl
theorem ml_X7_64 : Cond.methodLink RX7 64 yX7_atEnd ∈ jtbl := jt (n := 790) (by decide +kernel) rfl
theorem ml_X7_68 : Cond.methodLink RX7 68 yX7_parseTell ∈ jtbl := jt (n := 794) (by decide +kernel) rfl
theorem ml_X7_74 : Cond.methodLink RX7 74 yX8_at ∈ jtbl := jt (n := 773) (by decide +kernel) rfl
theorem ml_X7_77 : Cond.methodLink RX7 77 yX7_ahead ∈ jtbl := jt (n := 769) (by decide +kernel) rfl
theorem ml_X7_81 : Cond.methodLink RX7 81 yX7_take ∈ jtbl := jt (n := 774) (by decide +kernel) rfl
theorem ml_X7_84 : Cond.methodLink RX7 84 yX7_takeNumber ∈ jtbl := jt (n := 782) (by decide +kernel) rfl
theorem ml_X7_88 : Cond.methodLink RX7 88 yX7_takeKind ∈ jtbl := jt (n := 786) (by decide +kernel) rfl
theorem ml_X7_91 : Cond.methodLink RX7 91 yX7_markAct ∈ jtbl := jt (n := 798) (by decide +kernel) rfl
theorem ml_X7_94 : Cond.methodLink RX7 94 yX7_parseExpression ∈ jtbl := jt (n := 806) (by decide +kernel) rfl
theorem ml_X7_97 : Cond.methodLink RX7 97 yX7_parseDo ∈ jtbl := jt (n := 816) (by decide +kernel) rfl
theorem ml_X7_100 : Cond.methodLink RX7 100 yX7_parseEnd ∈ jtbl := jt (n := 821) (by decide +kernel) rfl
theorem ml_X7_103 : Cond.methodLink RX7 103 yX7_fail ∈ jtbl := jt (n := 778) (by decide +kernel) rfl
theorem ml_X7_106 : Cond.methodLink RX7 106 yX8_add ∈ jtbl := jt (n := 820) (by decide +kernel) rfl
theorem ml_X7_109 : Cond.methodLink RX7 109 yX8_change ∈ jtbl := jt (n := 802) (by decide +kernel) rfl
theorem ml_X7_115 : Cond.methodLink RX7 115 yX7_isUnit ∈ jtbl := jt (n := 810) (by decide +kernel) rfl
theorem ml_X7_119 : Cond.methodLink RX7 119 yX7_isOperator ∈ jtbl := jt (n := 813) (by decide +kernel) rfl
theorem ml_X9_11 : Cond.methodLink RX9 11 yX6_init ∈ jtbl := jt (n := 239) (by decide +kernel) rfl
theorem ml_X9_20 : Cond.methodLink RX9 20 yX2_init ∈ jtbl := jt (n := 299) (by decide +kernel) rfl
theorem ml_X9_27 : Cond.methodLink RX9 27 yX8_init ∈ jtbl := jt (n := 329) (by decide +kernel) rfl
theorem ml_X9_41 : Cond.methodLink RX9 41 yX6_reset ∈ jtbl := jt (n := 491) (by decide +kernel) rfl
theorem ml_X9_44 : Cond.methodLink RX9 44 yX2_reset ∈ jtbl := jt (n := 499) (by decide +kernel) rfl
theorem ml_X9_46 : Cond.methodLink RX9 46 yX8_shorten ∈ jtbl := jt (n := 508) (by decide +kernel) rfl
theorem ml_X9_49 : Cond.methodLink RX9 49 yX6_open ∈ jtbl := jt (n := 509) (by decide +kernel) rfl
theorem ml_X9_53 : Cond.methodLink RX9 53 yX9_addRoot ∈ jtbl := jt (n := 533) (by decide +kernel) rfl
theorem ml_X9_57 : Cond.methodLink RX9 57 yX6_copyFrom ∈ jtbl := jt (n := 1291) (by decide +kernel) rfl
theorem ml_X9_61 : Cond.methodLink RX9 61 yX2_copyFrom ∈ jtbl := jt (n := 1300) (by decide +kernel) rfl
theorem ml_X9_64 : Cond.methodLink RX9 64 yX8_copyFrom ∈ jtbl := jt (n := 1305) (by decide +kernel) rfl
theorem ml_X9_67 : Cond.methodLink RX9 67 yX8_add ∈ jtbl := jt (n := 537) (by decide +kernel) rfl
theorem ml_X9_74 : Cond.methodLink RX9 74 yX8_at ∈ jtbl := jt (n := 907) (by decide +kernel) rfl
theorem ml_X9_78 : Cond.methodLink RX9 78 yX9_rootAt ∈ jtbl := jt (n := 903) (by decide +kernel) rfl
theorem ml_X9_81 : Cond.methodLink RX9 81 yX6_isLeaf ∈ jtbl := jt (n := 908) (by decide +kernel) rfl
theorem ml_X9_88 : Cond.methodLink RX9 88 yX6_slotToward ∈ jtbl := jt (n := 913) (by decide +kernel) rfl
theorem kc_X12_76 : Cond.constant RX12 76 (34700) ∈ jtbl := jt (n := 1329) (by decide +kernel) rfl
theorem kc_X12_108 : Cond.constant RX12 108 (104100) ∈ jtbl := jt (n := 1330) (by decide +kernel) rfl
theorem kc_X12_242 : Cond.constant RX12 242 (33700) ∈ jtbl := jt (n := 1342) (by decide +kernel) rfl
theorem kc_X8_23 : Cond.constant RX8 23 (1048576) ∈ jtbl := jt (n := 507) (by decide +kernel) rfl
