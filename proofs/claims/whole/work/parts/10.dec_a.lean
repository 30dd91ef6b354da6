theorem dX8_init_0 : decode cX8_init 0 = .ok (.aload_n 0, 1) := by decide +kernel
theorem dX8_init_1 : decode cX8_init 1 = .ok (.invokespecial 1, 3) := by decide +kernel
theorem dX8_init_4 : decode cX8_init 4 = .ok (.aload_n 0, 1) := by decide +kernel
theorem dX8_init_5 : decode cX8_init 5 = .ok (.iconst 1, 1) := by decide +kernel
theorem dX8_init_6 : decode cX8_init 6 = .ok (.iload_n 1, 1) := by decide +kernel
theorem dX8_init_7 : decode cX8_init 7 = .ok (.invokestatic 7, 3) := by decide +kernel
theorem dX8_init_10 : decode cX8_init 10 = .ok (.newarray .int, 2) := by decide +kernel
theorem dX8_init_12 : decode cX8_init 12 = .ok (.putfield 13, 3) := by decide +kernel
theorem dX8_init_15 : decode cX8_init 15 = .ok (.aload_n 0, 1) := by decide +kernel
theorem dX8_init_16 : decode cX8_init 16 = .ok (.iconst 0, 1) := by decide +kernel
theorem dX8_init_17 : decode cX8_init 17 = .ok (.putfield 19, 3) := by decide +kernel
theorem dX8_init_20 : decode cX8_init 20 = .ok (.return_, 1) := by decide +kernel
theorem dX8_at_0 : decode cX8_at 0 = .ok (.iload_n 1, 1) := by decide +kernel
theorem dX8_at_1 : decode cX8_at 1 = .ok (.ifCond .lt 20, 3) := by decide +kernel
theorem dX8_at_4 : decode cX8_at 4 = .ok (.iload_n 1, 1) := by decide +kernel
theorem dX8_at_5 : decode cX8_at 5 = .ok (.aload_n 0, 1) := by decide +kernel
theorem dX8_at_6 : decode cX8_at 6 = .ok (.getfield 19, 3) := by decide +kernel
theorem dX8_at_9 : decode cX8_at 9 = .ok (.if_icmp .ge 12, 3) := by decide +kernel
theorem dX8_at_12 : decode cX8_at 12 = .ok (.aload_n 0, 1) := by decide +kernel
theorem dX8_at_13 : decode cX8_at 13 = .ok (.getfield 13, 3) := by decide +kernel
theorem dX8_at_16 : decode cX8_at 16 = .ok (.iload_n 1, 1) := by decide +kernel
theorem dX8_at_17 : decode cX8_at 17 = .ok (.iaload, 1) := by decide +kernel
theorem dX8_at_18 : decode cX8_at 18 = .ok (.goto 4, 3) := by decide +kernel
theorem dX8_at_21 : decode cX8_at 21 = .ok (.iconst 0, 1) := by decide +kernel
theorem dX8_at_22 : decode cX8_at 22 = .ok (.ireturn, 1) := by decide +kernel
theorem dX8_change_0 : decode cX8_change 0 = .ok (.iload_n 1, 1) := by decide +kernel
theorem dX8_change_1 : decode cX8_change 1 = .ok (.ifCond .lt 18, 3) := by decide +kernel
theorem dX8_change_4 : decode cX8_change 4 = .ok (.iload_n 1, 1) := by decide +kernel
theorem dX8_change_5 : decode cX8_change 5 = .ok (.aload_n 0, 1) := by decide +kernel
theorem dX8_change_6 : decode cX8_change 6 = .ok (.getfield 19, 3) := by decide +kernel
theorem dX8_change_9 : decode cX8_change 9 = .ok (.if_icmp .ge 10, 3) := by decide +kernel
theorem dX8_change_12 : decode cX8_change 12 = .ok (.aload_n 0, 1) := by decide +kernel
theorem dX8_change_13 : decode cX8_change 13 = .ok (.getfield 13, 3) := by decide +kernel
theorem dX8_change_16 : decode cX8_change 16 = .ok (.iload_n 1, 1) := by decide +kernel
theorem dX8_change_17 : decode cX8_change 17 = .ok (.iload_n 2, 1) := by decide +kernel
theorem dX8_change_18 : decode cX8_change 18 = .ok (.iastore, 1) := by decide +kernel
theorem dX8_change_19 : decode cX8_change 19 = .ok (.return_, 1) := by decide +kernel
theorem dX8_add_0 : decode cX8_add 0 = .ok (.aload_n 0, 1) := by decide +kernel
theorem dX8_add_1 : decode cX8_add 1 = .ok (.getfield 19, 3) := by decide +kernel
theorem dX8_add_4 : decode cX8_add 4 = .ok (.ldc 23, 2) := by decide +kernel
theorem dX8_add_6 : decode cX8_add 6 = .ok (.if_icmp .lt 4, 3) := by decide +kernel
theorem dX8_add_9 : decode cX8_add 9 = .ok (.return_, 1) := by decide +kernel
theorem dX8_add_10 : decode cX8_add 10 = .ok (.aload_n 0, 1) := by decide +kernel
theorem dX8_add_11 : decode cX8_add 11 = .ok (.getfield 19, 3) := by decide +kernel
theorem dX8_add_14 : decode cX8_add 14 = .ok (.aload_n 0, 1) := by decide +kernel
theorem dX8_add_15 : decode cX8_add 15 = .ok (.getfield 13, 3) := by decide +kernel
theorem dX8_add_18 : decode cX8_add 18 = .ok (.arraylength, 1) := by decide +kernel
theorem dX8_add_19 : decode cX8_add 19 = .ok (.if_icmp .lt 20, 3) := by decide +kernel
theorem dX8_add_22 : decode cX8_add 22 = .ok (.aload_n 0, 1) := by decide +kernel
theorem dX8_add_23 : decode cX8_add 23 = .ok (.aload_n 0, 1) := by decide +kernel
theorem dX8_add_24 : decode cX8_add 24 = .ok (.getfield 13, 3) := by decide +kernel
theorem dX8_add_27 : decode cX8_add 27 = .ok (.aload_n 0, 1) := by decide +kernel
theorem dX8_add_28 : decode cX8_add 28 = .ok (.getfield 19, 3) := by decide +kernel
theorem dX8_add_31 : decode cX8_add 31 = .ok (.iconst 2, 1) := by decide +kernel
theorem dX8_add_32 : decode cX8_add 32 = .ok (.imul, 1) := by decide +kernel
theorem dX8_add_33 : decode cX8_add 33 = .ok (.invokestatic 24, 3) := by decide +kernel
theorem dX8_add_36 : decode cX8_add 36 = .ok (.putfield 13, 3) := by decide +kernel
theorem dX8_add_39 : decode cX8_add 39 = .ok (.aload_n 0, 1) := by decide +kernel
theorem dX8_add_40 : decode cX8_add 40 = .ok (.getfield 13, 3) := by decide +kernel
theorem dX8_add_43 : decode cX8_add 43 = .ok (.aload_n 0, 1) := by decide +kernel
theorem dX8_add_44 : decode cX8_add 44 = .ok (.getfield 19, 3) := by decide +kernel
theorem dX8_add_47 : decode cX8_add 47 = .ok (.iload_n 1, 1) := by decide +kernel
theorem dX8_add_48 : decode cX8_add 48 = .ok (.iastore, 1) := by decide +kernel
theorem dX8_add_49 : decode cX8_add 49 = .ok (.aload_n 0, 1) := by decide +kernel
theorem dX8_add_50 : decode cX8_add 50 = .ok (.dup, 1) := by decide +kernel
theorem dX8_add_51 : decode cX8_add 51 = .ok (.getfield 19, 3) := by decide +kernel
theorem dX8_add_54 : decode cX8_add 54 = .ok (.iconst 1, 1) := by decide +kernel
theorem dX8_add_55 : decode cX8_add 55 = .ok (.iadd, 1) := by decide +kernel
theorem dX8_add_56 : decode cX8_add 56 = .ok (.putfield 19, 3) := by decide +kernel
theorem dX8_add_59 : decode cX8_add 59 = .ok (.return_, 1) := by decide +kernel
theorem dX8_shorten_0 : decode cX8_shorten 0 = .ok (.iload_n 1, 1) := by decide +kernel
theorem dX8_shorten_1 : decode cX8_shorten 1 = .ok (.ifCond .lt 16, 3) := by decide +kernel
theorem dX8_shorten_4 : decode cX8_shorten 4 = .ok (.iload_n 1, 1) := by decide +kernel
theorem dX8_shorten_5 : decode cX8_shorten 5 = .ok (.aload_n 0, 1) := by decide +kernel
theorem dX8_shorten_6 : decode cX8_shorten 6 = .ok (.getfield 19, 3) := by decide +kernel
theorem dX8_shorten_9 : decode cX8_shorten 9 = .ok (.if_icmp .ge 8, 3) := by decide +kernel
theorem dX8_shorten_12 : decode cX8_shorten 12 = .ok (.aload_n 0, 1) := by decide +kernel
theorem dX8_shorten_13 : decode cX8_shorten 13 = .ok (.iload_n 1, 1) := by decide +kernel
theorem dX8_shorten_14 : decode cX8_shorten 14 = .ok (.putfield 19, 3) := by decide +kernel
theorem dX8_shorten_17 : decode cX8_shorten 17 = .ok (.return_, 1) := by decide +kernel
theorem dX8_fill_0 : decode cX8_fill 0 = .ok (.iload_n 1, 1) := by decide +kernel
theorem dX8_fill_1 : decode cX8_fill 1 = .ok (.ifCond .lt 9, 3) := by decide +kernel
theorem dX8_fill_4 : decode cX8_fill 4 = .ok (.iload_n 1, 1) := by decide +kernel
theorem dX8_fill_5 : decode cX8_fill 5 = .ok (.ldc 23, 2) := by decide +kernel
theorem dX8_fill_7 : decode cX8_fill 7 = .ok (.if_icmp .le 4, 3) := by decide +kernel
theorem dX8_fill_10 : decode cX8_fill 10 = .ok (.return_, 1) := by decide +kernel
theorem dX8_fill_11 : decode cX8_fill 11 = .ok (.iload_n 1, 1) := by decide +kernel
theorem dX8_fill_12 : decode cX8_fill 12 = .ok (.aload_n 0, 1) := by decide +kernel
theorem dX8_fill_13 : decode cX8_fill 13 = .ok (.getfield 13, 3) := by decide +kernel
theorem dX8_fill_16 : decode cX8_fill 16 = .ok (.arraylength, 1) := by decide +kernel
theorem dX8_fill_17 : decode cX8_fill 17 = .ok (.if_icmp .le 10, 3) := by decide +kernel
theorem dX8_fill_20 : decode cX8_fill 20 = .ok (.aload_n 0, 1) := by decide +kernel
theorem dX8_fill_21 : decode cX8_fill 21 = .ok (.iload_n 1, 1) := by decide +kernel
theorem dX8_fill_22 : decode cX8_fill 22 = .ok (.newarray .int, 2) := by decide +kernel
theorem dX8_fill_24 : decode cX8_fill 24 = .ok (.putfield 13, 3) := by decide +kernel
theorem dX8_fill_27 : decode cX8_fill 27 = .ok (.iconst 0, 1) := by decide +kernel
theorem dX8_fill_28 : decode cX8_fill 28 = .ok (.istore_n 3, 1) := by decide +kernel
theorem dX8_fill_29 : decode cX8_fill 29 = .ok (.iload_n 3, 1) := by decide +kernel
theorem dX8_fill_30 : decode cX8_fill 30 = .ok (.iload_n 1, 1) := by decide +kernel
theorem dX8_fill_31 : decode cX8_fill 31 = .ok (.if_icmp .ge 25, 3) := by decide +kernel
theorem dX8_fill_34 : decode cX8_fill 34 = .ok (.iload_n 3, 1) := by decide +kernel
theorem dX8_fill_35 : decode cX8_fill 35 = .ok (.aload_n 0, 1) := by decide +kernel
theorem dX8_fill_36 : decode cX8_fill 36 = .ok (.getfield 13, 3) := by decide +kernel
theorem dX8_fill_39 : decode cX8_fill 39 = .ok (.arraylength, 1) := by decide +kernel
theorem dX8_fill_40 : decode cX8_fill 40 = .ok (.if_icmp .ge 16, 3) := by decide +kernel
theorem dX8_fill_43 : decode cX8_fill 43 = .ok (.aload_n 0, 1) := by decide +kernel
theorem dX8_fill_44 : decode cX8_fill 44 = .ok (.getfield 13, 3) := by decide +kernel
theorem dX8_fill_47 : decode cX8_fill 47 = .ok (.iload_n 3, 1) := by decide +kernel
theorem dX8_fill_48 : decode cX8_fill 48 = .ok (.iload_n 2, 1) := by decide +kernel
theorem dX8_fill_49 : decode cX8_fill 49 = .ok (.iastore, 1) := by decide +kernel
theorem dX8_fill_50 : decode cX8_fill 50 = .ok (.iinc 3 1, 3) := by decide +kernel
theorem dX8_fill_53 : decode cX8_fill 53 = .ok (.goto (-24), 3) := by decide +kernel
theorem dX8_fill_56 : decode cX8_fill 56 = .ok (.aload_n 0, 1) := by decide +kernel
theorem dX8_fill_57 : decode cX8_fill 57 = .ok (.iload_n 1, 1) := by decide +kernel
theorem dX8_fill_58 : decode cX8_fill 58 = .ok (.putfield 19, 3) := by decide +kernel
theorem dX8_fill_61 : decode cX8_fill 61 = .ok (.return_, 1) := by decide +kernel
theorem dX8_copyFrom_0 : decode cX8_copyFrom 0 = .ok (.aload_n 0, 1) := by decide +kernel
theorem dX8_copyFrom_1 : decode cX8_copyFrom 1 = .ok (.getfield 13, 3) := by decide +kernel
theorem dX8_copyFrom_4 : decode cX8_copyFrom 4 = .ok (.arraylength, 1) := by decide +kernel
theorem dX8_copyFrom_5 : decode cX8_copyFrom 5 = .ok (.aload_n 1, 1) := by decide +kernel
theorem dX8_copyFrom_6 : decode cX8_copyFrom 6 = .ok (.getfield 19, 3) := by decide +kernel
theorem dX8_copyFrom_9 : decode cX8_copyFrom 9 = .ok (.if_icmp .ge 14, 3) := by decide +kernel
theorem dX8_copyFrom_12 : decode cX8_copyFrom 12 = .ok (.aload_n 0, 1) := by decide +kernel
theorem dX8_copyFrom_13 : decode cX8_copyFrom 13 = .ok (.aload_n 1, 1) := by decide +kernel
theorem dX8_copyFrom_14 : decode cX8_copyFrom 14 = .ok (.getfield 13, 3) := by decide +kernel
theorem dX8_copyFrom_17 : decode cX8_copyFrom 17 = .ok (.arraylength, 1) := by decide +kernel
theorem dX8_copyFrom_18 : decode cX8_copyFrom 18 = .ok (.newarray .int, 2) := by decide +kernel
theorem dX8_copyFrom_20 : decode cX8_copyFrom 20 = .ok (.putfield 13, 3) := by decide +kernel
theorem dX8_copyFrom_23 : decode cX8_copyFrom 23 = .ok (.aload_n 1, 1) := by decide +kernel
theorem dX8_copyFrom_24 : decode cX8_copyFrom 24 = .ok (.getfield 13, 3) := by decide +kernel
theorem dX8_copyFrom_27 : decode cX8_copyFrom 27 = .ok (.iconst 0, 1) := by decide +kernel
theorem dX8_copyFrom_28 : decode cX8_copyFrom 28 = .ok (.aload_n 0, 1) := by decide +kernel
theorem dX8_copyFrom_29 : decode cX8_copyFrom 29 = .ok (.getfield 13, 3) := by decide +kernel
theorem dX8_copyFrom_32 : decode cX8_copyFrom 32 = .ok (.iconst 0, 1) := by decide +kernel
theorem dX8_copyFrom_33 : decode cX8_copyFrom 33 = .ok (.aload_n 1, 1) := by decide +kernel
theorem dX8_copyFrom_34 : decode cX8_copyFrom 34 = .ok (.getfield 19, 3) := by decide +kernel
theorem dX8_copyFrom_37 : decode cX8_copyFrom 37 = .ok (.invokestatic 30, 3) := by decide +kernel
theorem dX8_copyFrom_40 : decode cX8_copyFrom 40 = .ok (.aload_n 0, 1) := by decide +kernel
theorem dX8_copyFrom_41 : decode cX8_copyFrom 41 = .ok (.aload_n 1, 1) := by decide +kernel
theorem dX8_copyFrom_42 : decode cX8_copyFrom 42 = .ok (.getfield 19, 3) := by decide +kernel
theorem dX8_copyFrom_45 : decode cX8_copyFrom 45 = .ok (.putfield 19, 3) := by decide +kernel
theorem dX8_copyFrom_48 : decode cX8_copyFrom 48 = .ok (.return_, 1) := by decide +kernel
theorem dX6_init_0 : decode cX6_init 0 = .ok (.aload_n 0, 1) := by decide +kernel
theorem dX6_init_1 : decode cX6_init 1 = .ok (.invokespecial 3, 3) := by decide +kernel
theorem dX6_init_4 : decode cX6_init 4 = .ok (.aload_n 0, 1) := by decide +kernel
theorem dX6_init_5 : decode cX6_init 5 = .ok (.new 9, 3) := by decide +kernel
theorem dX6_init_8 : decode cX6_init 8 = .ok (.dup, 1) := by decide +kernel
theorem dX6_init_9 : decode cX6_init 9 = .ok (.bipush 8, 2) := by decide +kernel
theorem dX6_init_11 : decode cX6_init 11 = .ok (.invokespecial 11, 3) := by decide +kernel
theorem dX6_init_14 : decode cX6_init 14 = .ok (.putfield 14, 3) := by decide +kernel
theorem dX6_init_17 : decode cX6_init 17 = .ok (.aload_n 0, 1) := by decide +kernel
theorem dX6_init_18 : decode cX6_init 18 = .ok (.new 9, 3) := by decide +kernel
theorem dX6_init_21 : decode cX6_init 21 = .ok (.dup, 1) := by decide +kernel
theorem dX6_init_22 : decode cX6_init 22 = .ok (.bipush 8, 2) := by decide +kernel
theorem dX6_init_24 : decode cX6_init 24 = .ok (.invokespecial 11, 3) := by decide +kernel
theorem dX6_init_27 : decode cX6_init 27 = .ok (.putfield 20, 3) := by decide +kernel
theorem dX6_init_30 : decode cX6_init 30 = .ok (.aload_n 0, 1) := by decide +kernel
theorem dX6_init_31 : decode cX6_init 31 = .ok (.new 9, 3) := by decide +kernel
theorem dX6_init_34 : decode cX6_init 34 = .ok (.dup, 1) := by decide +kernel
theorem dX6_init_35 : decode cX6_init 35 = .ok (.bipush 8, 2) := by decide +kernel
theorem dX6_init_37 : decode cX6_init 37 = .ok (.invokespecial 11, 3) := by decide +kernel
theorem dX6_init_40 : decode cX6_init 40 = .ok (.putfield 23, 3) := by decide +kernel
theorem dX6_init_43 : decode cX6_init 43 = .ok (.aload_n 0, 1) := by decide +kernel
theorem dX6_init_44 : decode cX6_init 44 = .ok (.new 9, 3) := by decide +kernel
theorem dX6_init_47 : decode cX6_init 47 = .ok (.dup, 1) := by decide +kernel
theorem dX6_init_48 : decode cX6_init 48 = .ok (.bipush 8, 2) := by decide +kernel
theorem dX6_init_50 : decode cX6_init 50 = .ok (.invokespecial 11, 3) := by decide +kernel
theorem dX6_init_53 : decode cX6_init 53 = .ok (.putfield 26, 3) := by decide +kernel
theorem dX6_init_56 : decode cX6_init 56 = .ok (.aload_n 0, 1) := by decide +kernel
theorem dX6_init_57 : decode cX6_init 57 = .ok (.new 9, 3) := by decide +kernel
theorem dX6_init_60 : decode cX6_init 60 = .ok (.dup, 1) := by decide +kernel
theorem dX6_init_61 : decode cX6_init 61 = .ok (.bipush 32, 2) := by decide +kernel
theorem dX6_init_63 : decode cX6_init 63 = .ok (.invokespecial 11, 3) := by decide +kernel
theorem dX6_init_66 : decode cX6_init 66 = .ok (.putfield 29, 3) := by decide +kernel
theorem dX6_init_69 : decode cX6_init 69 = .ok (.aload_n 0, 1) := by decide +kernel
theorem dX6_init_70 : decode cX6_init 70 = .ok (.new 9, 3) := by decide +kernel
theorem dX6_init_73 : decode cX6_init 73 = .ok (.dup, 1) := by decide +kernel
theorem dX6_init_74 : decode cX6_init 74 = .ok (.bipush 32, 2) := by decide +kernel
theorem dX6_init_76 : decode cX6_init 76 = .ok (.invokespecial 11, 3) := by decide +kernel
theorem dX6_init_79 : decode cX6_init 79 = .ok (.putfield 32, 3) := by decide +kernel
theorem dX6_init_82 : decode cX6_init 82 = .ok (.aload_n 0, 1) := by decide +kernel
theorem dX6_init_83 : decode cX6_init 83 = .ok (.new 9, 3) := by decide +kernel
theorem dX6_init_86 : decode cX6_init 86 = .ok (.dup, 1) := by decide +kernel
theorem dX6_init_87 : decode cX6_init 87 = .ok (.bipush 32, 2) := by decide +kernel
theorem dX6_init_89 : decode cX6_init 89 = .ok (.invokespecial 11, 3) := by decide +kernel
theorem dX6_init_92 : decode cX6_init 92 = .ok (.putfield 35, 3) := by decide +kernel
theorem dX6_init_95 : decode cX6_init 95 = .ok (.aload_n 0, 1) := by decide +kernel
theorem dX6_init_96 : decode cX6_init 96 = .ok (.new 9, 3) := by decide +kernel
theorem dX6_init_99 : decode cX6_init 99 = .ok (.dup, 1) := by decide +kernel
theorem dX6_init_100 : decode cX6_init 100 = .ok (.bipush 32, 2) := by decide +kernel
theorem dX6_init_102 : decode cX6_init 102 = .ok (.invokespecial 11, 3) := by decide +kernel
theorem dX6_init_105 : decode cX6_init 105 = .ok (.putfield 38, 3) := by decide +kernel
theorem dX6_init_108 : decode cX6_init 108 = .ok (.aload_n 0, 1) := by decide +kernel
theorem dX6_init_109 : decode cX6_init 109 = .ok (.bipush 8, 2) := by decide +kernel
theorem dX6_init_111 : decode cX6_init 111 = .ok (.putfield 41, 3) := by decide +kernel
theorem dX6_init_114 : decode cX6_init 114 = .ok (.return_, 1) := by decide +kernel
theorem dX6_reset_0 : decode cX6_reset 0 = .ok (.aload_n 0, 1) := by decide +kernel
theorem dX6_reset_1 : decode cX6_reset 1 = .ok (.iload_n 1, 1) := by decide +kernel
theorem dX6_reset_2 : decode cX6_reset 2 = .ok (.putfield 41, 3) := by decide +kernel
theorem dX6_reset_5 : decode cX6_reset 5 = .ok (.aload_n 0, 1) := by decide +kernel
theorem dX6_reset_6 : decode cX6_reset 6 = .ok (.getfield 14, 3) := by decide +kernel
theorem dX6_reset_9 : decode cX6_reset 9 = .ok (.iconst 0, 1) := by decide +kernel
theorem dX6_reset_10 : decode cX6_reset 10 = .ok (.invokevirtual 45, 3) := by decide +kernel
theorem dX6_reset_13 : decode cX6_reset 13 = .ok (.aload_n 0, 1) := by decide +kernel
theorem dX6_reset_14 : decode cX6_reset 14 = .ok (.getfield 20, 3) := by decide +kernel
theorem dX6_reset_17 : decode cX6_reset 17 = .ok (.iconst 0, 1) := by decide +kernel
theorem dX6_reset_18 : decode cX6_reset 18 = .ok (.invokevirtual 45, 3) := by decide +kernel
theorem dX6_reset_21 : decode cX6_reset 21 = .ok (.aload_n 0, 1) := by decide +kernel
theorem dX6_reset_22 : decode cX6_reset 22 = .ok (.getfield 23, 3) := by decide +kernel
theorem dX6_reset_25 : decode cX6_reset 25 = .ok (.iconst 0, 1) := by decide +kernel
theorem dX6_reset_26 : decode cX6_reset 26 = .ok (.invokevirtual 45, 3) := by decide +kernel
theorem dX6_reset_29 : decode cX6_reset 29 = .ok (.aload_n 0, 1) := by decide +kernel
theorem dX6_reset_30 : decode cX6_reset 30 = .ok (.getfield 26, 3) := by decide +kernel
theorem dX6_reset_33 : decode cX6_reset 33 = .ok (.iconst 0, 1) := by decide +kernel
theorem dX6_reset_34 : decode cX6_reset 34 = .ok (.invokevirtual 45, 3) := by decide +kernel
theorem dX6_reset_37 : decode cX6_reset 37 = .ok (.aload_n 0, 1) := by decide +kernel
theorem dX6_reset_38 : decode cX6_reset 38 = .ok (.getfield 29, 3) := by decide +kernel
theorem dX6_reset_41 : decode cX6_reset 41 = .ok (.iconst 0, 1) := by decide +kernel
theorem dX6_reset_42 : decode cX6_reset 42 = .ok (.invokevirtual 45, 3) := by decide +kernel
theorem dX6_reset_45 : decode cX6_reset 45 = .ok (.aload_n 0, 1) := by decide +kernel
theorem dX6_reset_46 : decode cX6_reset 46 = .ok (.getfield 32, 3) := by decide +kernel
theorem dX6_reset_49 : decode cX6_reset 49 = .ok (.iconst 0, 1) := by decide +kernel
theorem dX6_reset_50 : decode cX6_reset 50 = .ok (.invokevirtual 45, 3) := by decide +kernel
theorem dX6_reset_53 : decode cX6_reset 53 = .ok (.aload_n 0, 1) := by decide +kernel
theorem dX6_reset_54 : decode cX6_reset 54 = .ok (.getfield 35, 3) := by decide +kernel
theorem dX6_reset_57 : decode cX6_reset 57 = .ok (.iconst 0, 1) := by decide +kernel
theorem dX6_reset_58 : decode cX6_reset 58 = .ok (.invokevirtual 45, 3) := by decide +kernel
theorem dX6_reset_61 : decode cX6_reset 61 = .ok (.aload_n 0, 1) := by decide +kernel
theorem dX6_reset_62 : decode cX6_reset 62 = .ok (.getfield 38, 3) := by decide +kernel
theorem dX6_reset_65 : decode cX6_reset 65 = .ok (.iconst 0, 1) := by decide +kernel
theorem dX6_reset_66 : decode cX6_reset 66 = .ok (.invokevirtual 45, 3) := by decide +kernel
theorem dX6_reset_69 : decode cX6_reset 69 = .ok (.return_, 1) := by decide +kernel
theorem dX6_copyFrom_0 : decode cX6_copyFrom 0 = .ok (.aload_n 0, 1) := by decide +kernel
theorem dX6_copyFrom_1 : decode cX6_copyFrom 1 = .ok (.aload_n 1, 1) := by decide +kernel
theorem dX6_copyFrom_2 : decode cX6_copyFrom 2 = .ok (.getfield 41, 3) := by decide +kernel
theorem dX6_copyFrom_5 : decode cX6_copyFrom 5 = .ok (.putfield 41, 3) := by decide +kernel
theorem dX6_copyFrom_8 : decode cX6_copyFrom 8 = .ok (.aload_n 0, 1) := by decide +kernel
theorem dX6_copyFrom_9 : decode cX6_copyFrom 9 = .ok (.getfield 14, 3) := by decide +kernel
theorem dX6_copyFrom_12 : decode cX6_copyFrom 12 = .ok (.aload_n 1, 1) := by decide +kernel
theorem dX6_copyFrom_13 : decode cX6_copyFrom 13 = .ok (.getfield 14, 3) := by decide +kernel
theorem dX6_copyFrom_16 : decode cX6_copyFrom 16 = .ok (.invokevirtual 48, 3) := by decide +kernel
theorem dX6_copyFrom_19 : decode cX6_copyFrom 19 = .ok (.aload_n 0, 1) := by decide +kernel
theorem dX6_copyFrom_20 : decode cX6_copyFrom 20 = .ok (.getfield 20, 3) := by decide +kernel
theorem dX6_copyFrom_23 : decode cX6_copyFrom 23 = .ok (.aload_n 1, 1) := by decide +kernel
theorem dX6_copyFrom_24 : decode cX6_copyFrom 24 = .ok (.getfield 20, 3) := by decide +kernel
theorem dX6_copyFrom_27 : decode cX6_copyFrom 27 = .ok (.invokevirtual 48, 3) := by decide +kernel
theorem dX6_copyFrom_30 : decode cX6_copyFrom 30 = .ok (.aload_n 0, 1) := by decide +kernel
theorem dX6_copyFrom_31 : decode cX6_copyFrom 31 = .ok (.getfield 23, 3) := by decide +kernel
theorem dX6_copyFrom_34 : decode cX6_copyFrom 34 = .ok (.aload_n 1, 1) := by decide +kernel
theorem dX6_copyFrom_35 : decode cX6_copyFrom 35 = .ok (.getfield 23, 3) := by decide +kernel
theorem dX6_copyFrom_38 : decode cX6_copyFrom 38 = .ok (.invokevirtual 48, 3) := by decide +kernel
theorem dX6_copyFrom_41 : decode cX6_copyFrom 41 = .ok (.aload_n 0, 1) := by decide +kernel
theorem dX6_copyFrom_42 : decode cX6_copyFrom 42 = .ok (.getfield 26, 3) := by decide +kernel
theorem dX6_copyFrom_45 : decode cX6_copyFrom 45 = .ok (.aload_n 1, 1) := by decide +kernel
theorem dX6_copyFrom_46 : decode cX6_copyFrom 46 = .ok (.getfield 26, 3) := by decide +kernel
theorem dX6_copyFrom_49 : decode cX6_copyFrom 49 = .ok (.invokevirtual 48, 3) := by decide +kernel
theorem dX6_copyFrom_52 : decode cX6_copyFrom 52 = .ok (.aload_n 0, 1) := by decide +kernel
theorem dX6_copyFrom_53 : decode cX6_copyFrom 53 = .ok (.getfield 29, 3) := by decide +kernel
theorem dX6_copyFrom_56 : decode cX6_copyFrom 56 = .ok (.aload_n 1, 1) := by decide +kernel
theorem dX6_copyFrom_57 : decode cX6_copyFrom 57 = .ok (.getfield 29, 3) := by decide +kernel
theorem dX6_copyFrom_60 : decode cX6_copyFrom 60 = .ok (.invokevirtual 48, 3) := by decide +kernel
theorem dX6_copyFrom_63 : decode cX6_copyFrom 63 = .ok (.aload_n 0, 1) := by decide +kernel
theorem dX6_copyFrom_64 : decode cX6_copyFrom 64 = .ok (.getfield 32, 3) := by decide +kernel
theorem dX6_copyFrom_67 : decode cX6_copyFrom 67 = .ok (.aload_n 1, 1) := by decide +kernel
theorem dX6_copyFrom_68 : decode cX6_copyFrom 68 = .ok (.getfield 32, 3) := by decide +kernel
theorem dX6_copyFrom_71 : decode cX6_copyFrom 71 = .ok (.invokevirtual 48, 3) := by decide +kernel
theorem dX6_copyFrom_74 : decode cX6_copyFrom 74 = .ok (.aload_n 0, 1) := by decide +kernel
theorem dX6_copyFrom_75 : decode cX6_copyFrom 75 = .ok (.getfield 35, 3) := by decide +kernel
theorem dX6_copyFrom_78 : decode cX6_copyFrom 78 = .ok (.aload_n 1, 1) := by decide +kernel
theorem dX6_copyFrom_79 : decode cX6_copyFrom 79 = .ok (.getfield 35, 3) := by decide +kernel
theorem dX6_copyFrom_82 : decode cX6_copyFrom 82 = .ok (.invokevirtual 48, 3) := by decide +kernel
theorem dX6_copyFrom_85 : decode cX6_copyFrom 85 = .ok (.aload_n 0, 1) := by decide +kernel
theorem dX6_copyFrom_86 : decode cX6_copyFrom 86 = .ok (.getfield 38, 3) := by decide +kernel
theorem dX6_copyFrom_89 : decode cX6_copyFrom 89 = .ok (.aload_n 1, 1) := by decide +kernel
theorem dX6_copyFrom_90 : decode cX6_copyFrom 90 = .ok (.getfield 38, 3) := by decide +kernel
theorem dX6_copyFrom_93 : decode cX6_copyFrom 93 = .ok (.invokevirtual 48, 3) := by decide +kernel
theorem dX6_copyFrom_96 : decode cX6_copyFrom 96 = .ok (.return_, 1) := by decide +kernel
theorem dX6_weak_0 : decode cX6_weak 0 = .ok (.aload_n 0, 1) := by decide +kernel
theorem dX6_weak_1 : decode cX6_weak 1 = .ok (.getfield 41, 3) := by decide +kernel
theorem dX6_weak_4 : decode cX6_weak 4 = .ok (.iconst 4, 1) := by decide +kernel
theorem dX6_weak_5 : decode cX6_weak 5 = .ok (.idiv, 1) := by decide +kernel
theorem dX6_weak_6 : decode cX6_weak 6 = .ok (.ireturn, 1) := by decide +kernel
theorem dX6_isPage_0 : decode cX6_isPage 0 = .ok (.iload_n 1, 1) := by decide +kernel
theorem dX6_isPage_1 : decode cX6_isPage 1 = .ok (.ifCond .lt 18, 3) := by decide +kernel
theorem dX6_isPage_4 : decode cX6_isPage 4 = .ok (.iload_n 1, 1) := by decide +kernel
theorem dX6_isPage_5 : decode cX6_isPage 5 = .ok (.aload_n 0, 1) := by decide +kernel
theorem dX6_isPage_6 : decode cX6_isPage 6 = .ok (.getfield 14, 3) := by decide +kernel
theorem dX6_isPage_9 : decode cX6_isPage 9 = .ok (.getfield 52, 3) := by decide +kernel
theorem dX6_isPage_12 : decode cX6_isPage 12 = .ok (.if_icmp .ge 7, 3) := by decide +kernel
theorem dX6_isPage_15 : decode cX6_isPage 15 = .ok (.iconst 1, 1) := by decide +kernel
theorem dX6_isPage_16 : decode cX6_isPage 16 = .ok (.goto 4, 3) := by decide +kernel
theorem dX6_isPage_19 : decode cX6_isPage 19 = .ok (.iconst 0, 1) := by decide +kernel
theorem dX6_isPage_20 : decode cX6_isPage 20 = .ok (.ireturn, 1) := by decide +kernel
theorem dX6_isLeaf_0 : decode cX6_isLeaf 0 = .ok (.aload_n 0, 1) := by decide +kernel
theorem dX6_isLeaf_1 : decode cX6_isLeaf 1 = .ok (.getfield 14, 3) := by decide +kernel
theorem dX6_isLeaf_4 : decode cX6_isLeaf 4 = .ok (.iload_n 1, 1) := by decide +kernel
theorem dX6_isLeaf_5 : decode cX6_isLeaf 5 = .ok (.invokevirtual 55, 3) := by decide +kernel
theorem dX6_isLeaf_8 : decode cX6_isLeaf 8 = .ok (.iconst 1, 1) := by decide +kernel
theorem dX6_isLeaf_9 : decode cX6_isLeaf 9 = .ok (.if_icmp .ne 7, 3) := by decide +kernel
theorem dX6_isLeaf_12 : decode cX6_isLeaf 12 = .ok (.iconst 1, 1) := by decide +kernel
theorem dX6_isLeaf_13 : decode cX6_isLeaf 13 = .ok (.goto 4, 3) := by decide +kernel
theorem dX6_isLeaf_16 : decode cX6_isLeaf 16 = .ok (.iconst 0, 1) := by decide +kernel
theorem dX6_isLeaf_17 : decode cX6_isLeaf 17 = .ok (.ireturn, 1) := by decide +kernel
theorem dX6_firstSlot_0 : decode cX6_firstSlot 0 = .ok (.iload_n 1, 1) := by decide +kernel
theorem dX6_firstSlot_1 : decode cX6_firstSlot 1 = .ok (.aload_n 0, 1) := by decide +kernel
theorem dX6_firstSlot_2 : decode cX6_firstSlot 2 = .ok (.getfield 41, 3) := by decide +kernel
theorem dX6_firstSlot_5 : decode cX6_firstSlot 5 = .ok (.imul, 1) := by decide +kernel
theorem dX6_firstSlot_6 : decode cX6_firstSlot 6 = .ok (.ireturn, 1) := by decide +kernel
theorem dX6_endSlot_0 : decode cX6_endSlot 0 = .ok (.iload_n 1, 1) := by decide +kernel
theorem dX6_endSlot_1 : decode cX6_endSlot 1 = .ok (.aload_n 0, 1) := by decide +kernel
theorem dX6_endSlot_2 : decode cX6_endSlot 2 = .ok (.getfield 41, 3) := by decide +kernel
theorem dX6_endSlot_5 : decode cX6_endSlot 5 = .ok (.imul, 1) := by decide +kernel
theorem dX6_endSlot_6 : decode cX6_endSlot 6 = .ok (.aload_n 0, 1) := by decide +kernel
theorem dX6_endSlot_7 : decode cX6_endSlot 7 = .ok (.getfield 20, 3) := by decide +kernel
theorem dX6_endSlot_10 : decode cX6_endSlot 10 = .ok (.iload_n 1, 1) := by decide +kernel
theorem dX6_endSlot_11 : decode cX6_endSlot 11 = .ok (.invokevirtual 55, 3) := by decide +kernel
theorem dX6_endSlot_14 : decode cX6_endSlot 14 = .ok (.iadd, 1) := by decide +kernel
theorem dX6_endSlot_15 : decode cX6_endSlot 15 = .ok (.ireturn, 1) := by decide +kernel
theorem dX6_open_0 : decode cX6_open 0 = .ok (.aload_n 0, 1) := by decide +kernel
theorem dX6_open_1 : decode cX6_open 1 = .ok (.getfield 14, 3) := by decide +kernel
theorem dX6_open_4 : decode cX6_open 4 = .ok (.iload_n 1, 1) := by decide +kernel
theorem dX6_open_5 : decode cX6_open 5 = .ok (.invokevirtual 59, 3) := by decide +kernel
theorem dX6_open_8 : decode cX6_open 8 = .ok (.aload_n 0, 1) := by decide +kernel
theorem dX6_open_9 : decode cX6_open 9 = .ok (.getfield 20, 3) := by decide +kernel
theorem dX6_open_12 : decode cX6_open 12 = .ok (.iconst 0, 1) := by decide +kernel
theorem dX6_open_13 : decode cX6_open 13 = .ok (.invokevirtual 59, 3) := by decide +kernel
theorem dX6_open_16 : decode cX6_open 16 = .ok (.aload_n 0, 1) := by decide +kernel
theorem dX6_open_17 : decode cX6_open 17 = .ok (.getfield 23, 3) := by decide +kernel
theorem dX6_open_20 : decode cX6_open 20 = .ok (.iload_n 2, 1) := by decide +kernel
theorem dX6_open_21 : decode cX6_open 21 = .ok (.invokevirtual 59, 3) := by decide +kernel
theorem dX6_open_24 : decode cX6_open 24 = .ok (.aload_n 0, 1) := by decide +kernel
theorem dX6_open_25 : decode cX6_open 25 = .ok (.getfield 26, 3) := by decide +kernel
theorem dX6_open_28 : decode cX6_open 28 = .ok (.bipush (-2), 2) := by decide +kernel
theorem dX6_open_30 : decode cX6_open 30 = .ok (.invokevirtual 59, 3) := by decide +kernel
theorem dX6_open_33 : decode cX6_open 33 = .ok (.iconst 0, 1) := by decide +kernel
theorem dX6_open_34 : decode cX6_open 34 = .ok (.istore_n 3, 1) := by decide +kernel
theorem dX6_open_35 : decode cX6_open 35 = .ok (.iload_n 3, 1) := by decide +kernel
theorem dX6_open_36 : decode cX6_open 36 = .ok (.aload_n 0, 1) := by decide +kernel
theorem dX6_open_37 : decode cX6_open 37 = .ok (.getfield 41, 3) := by decide +kernel
theorem dX6_open_40 : decode cX6_open 40 = .ok (.if_icmp .ge 42, 3) := by decide +kernel
theorem dX6_open_43 : decode cX6_open 43 = .ok (.aload_n 0, 1) := by decide +kernel
theorem dX6_open_44 : decode cX6_open 44 = .ok (.getfield 29, 3) := by decide +kernel
theorem dX6_open_47 : decode cX6_open 47 = .ok (.iconst 0, 1) := by decide +kernel
theorem dX6_open_48 : decode cX6_open 48 = .ok (.invokevirtual 59, 3) := by decide +kernel
theorem dX6_open_51 : decode cX6_open 51 = .ok (.aload_n 0, 1) := by decide +kernel
theorem dX6_open_52 : decode cX6_open 52 = .ok (.getfield 32, 3) := by decide +kernel
theorem dX6_open_55 : decode cX6_open 55 = .ok (.iconst 0, 1) := by decide +kernel
theorem dX6_open_56 : decode cX6_open 56 = .ok (.invokevirtual 59, 3) := by decide +kernel
theorem dX6_open_59 : decode cX6_open 59 = .ok (.aload_n 0, 1) := by decide +kernel
theorem dX6_open_60 : decode cX6_open 60 = .ok (.getfield 35, 3) := by decide +kernel
theorem dX6_open_63 : decode cX6_open 63 = .ok (.iconst 0, 1) := by decide +kernel
theorem dX6_open_64 : decode cX6_open 64 = .ok (.invokevirtual 59, 3) := by decide +kernel
theorem dX6_open_67 : decode cX6_open 67 = .ok (.aload_n 0, 1) := by decide +kernel
theorem dX6_open_68 : decode cX6_open 68 = .ok (.getfield 38, 3) := by decide +kernel
theorem dX6_open_71 : decode cX6_open 71 = .ok (.bipush (-2), 2) := by decide +kernel
theorem dX6_open_73 : decode cX6_open 73 = .ok (.invokevirtual 59, 3) := by decide +kernel
theorem dX6_open_76 : decode cX6_open 76 = .ok (.iinc 3 1, 3) := by decide +kernel
theorem dX6_open_79 : decode cX6_open 79 = .ok (.goto (-44), 3) := by decide +kernel
theorem dX6_open_82 : decode cX6_open 82 = .ok (.aload_n 0, 1) := by decide +kernel
theorem dX6_open_83 : decode cX6_open 83 = .ok (.getfield 14, 3) := by decide +kernel
theorem dX6_open_86 : decode cX6_open 86 = .ok (.getfield 52, 3) := by decide +kernel
theorem dX6_open_89 : decode cX6_open 89 = .ok (.iconst 1, 1) := by decide +kernel
theorem dX6_open_90 : decode cX6_open 90 = .ok (.isub, 1) := by decide +kernel
theorem dX6_open_91 : decode cX6_open 91 = .ok (.ireturn, 1) := by decide +kernel
theorem dX6_append_0 : decode cX6_append 0 = .ok (.aload_n 0, 1) := by decide +kernel
theorem dX6_append_1 : decode cX6_append 1 = .ok (.getfield 20, 3) := by decide +kernel
theorem dX6_append_4 : decode cX6_append 4 = .ok (.iload_n 1, 1) := by decide +kernel
theorem dX6_append_5 : decode cX6_append 5 = .ok (.invokevirtual 55, 3) := by decide +kernel
theorem dX6_append_8 : decode cX6_append 8 = .ok (.istore 5, 2) := by decide +kernel
theorem dX6_append_10 : decode cX6_append 10 = .ok (.iload 5, 2) := by decide +kernel
theorem dX6_append_12 : decode cX6_append 12 = .ok (.aload_n 0, 1) := by decide +kernel
theorem dX6_append_13 : decode cX6_append 13 = .ok (.getfield 41, 3) := by decide +kernel
theorem dX6_append_16 : decode cX6_append 16 = .ok (.if_icmp .lt 4, 3) := by decide +kernel
theorem dX6_append_19 : decode cX6_append 19 = .ok (.return_, 1) := by decide +kernel
theorem dX6_append_20 : decode cX6_append 20 = .ok (.iload_n 1, 1) := by decide +kernel
theorem dX6_append_21 : decode cX6_append 21 = .ok (.aload_n 0, 1) := by decide +kernel
theorem dX6_append_22 : decode cX6_append 22 = .ok (.getfield 41, 3) := by decide +kernel
theorem dX6_append_25 : decode cX6_append 25 = .ok (.imul, 1) := by decide +kernel
theorem dX6_append_26 : decode cX6_append 26 = .ok (.iload 5, 2) := by decide +kernel
theorem dX6_append_28 : decode cX6_append 28 = .ok (.iadd, 1) := by decide +kernel
theorem dX6_append_29 : decode cX6_append 29 = .ok (.istore 6, 2) := by decide +kernel
theorem dX6_append_31 : decode cX6_append 31 = .ok (.aload_n 0, 1) := by decide +kernel
theorem dX6_append_32 : decode cX6_append 32 = .ok (.getfield 29, 3) := by decide +kernel
theorem dX6_append_35 : decode cX6_append 35 = .ok (.iload 6, 2) := by decide +kernel
theorem dX6_append_37 : decode cX6_append 37 = .ok (.iload_n 2, 1) := by decide +kernel
theorem dX6_append_38 : decode cX6_append 38 = .ok (.invokevirtual 62, 3) := by decide +kernel
theorem dX6_append_41 : decode cX6_append 41 = .ok (.aload_n 0, 1) := by decide +kernel
theorem dX6_append_42 : decode cX6_append 42 = .ok (.getfield 32, 3) := by decide +kernel
theorem dX6_append_45 : decode cX6_append 45 = .ok (.iload 6, 2) := by decide +kernel
theorem dX6_append_47 : decode cX6_append 47 = .ok (.iload_n 3, 1) := by decide +kernel
theorem dX6_append_48 : decode cX6_append 48 = .ok (.invokevirtual 62, 3) := by decide +kernel
theorem dX6_append_51 : decode cX6_append 51 = .ok (.aload_n 0, 1) := by decide +kernel
theorem dX6_append_52 : decode cX6_append 52 = .ok (.getfield 35, 3) := by decide +kernel
theorem dX6_append_55 : decode cX6_append 55 = .ok (.iload 6, 2) := by decide +kernel
theorem dX6_append_57 : decode cX6_append 57 = .ok (.iload 4, 2) := by decide +kernel
theorem dX6_append_59 : decode cX6_append 59 = .ok (.invokevirtual 62, 3) := by decide +kernel
theorem dX6_append_62 : decode cX6_append 62 = .ok (.aload_n 0, 1) := by decide +kernel
theorem dX6_append_63 : decode cX6_append 63 = .ok (.getfield 20, 3) := by decide +kernel
theorem dX6_append_66 : decode cX6_append 66 = .ok (.iload_n 1, 1) := by decide +kernel
theorem dX6_append_67 : decode cX6_append 67 = .ok (.iload 5, 2) := by decide +kernel
theorem dX6_append_69 : decode cX6_append 69 = .ok (.iconst 1, 1) := by decide +kernel
theorem dX6_append_70 : decode cX6_append 70 = .ok (.iadd, 1) := by decide +kernel
theorem dX6_append_71 : decode cX6_append 71 = .ok (.invokevirtual 62, 3) := by decide +kernel
theorem dX6_append_74 : decode cX6_append 74 = .ok (.return_, 1) := by decide +kernel
theorem dX6_livesAt_0 : decode cX6_livesAt 0 = .ok (.aload_n 0, 1) := by decide +kernel
theorem dX6_livesAt_1 : decode cX6_livesAt 1 = .ok (.getfield 38, 3) := by decide +kernel
theorem dX6_livesAt_4 : decode cX6_livesAt 4 = .ok (.iload_n 1, 1) := by decide +kernel
theorem dX6_livesAt_5 : decode cX6_livesAt 5 = .ok (.invokevirtual 55, 3) := by decide +kernel
theorem dX6_livesAt_8 : decode cX6_livesAt 8 = .ok (.istore_n 3, 1) := by decide +kernel
theorem dX6_livesAt_9 : decode cX6_livesAt 9 = .ok (.aload_n 0, 1) := by decide +kernel
theorem dX6_livesAt_10 : decode cX6_livesAt 10 = .ok (.getfield 35, 3) := by decide +kernel
theorem dX6_livesAt_13 : decode cX6_livesAt 13 = .ok (.iload_n 1, 1) := by decide +kernel
theorem dX6_livesAt_14 : decode cX6_livesAt 14 = .ok (.invokevirtual 55, 3) := by decide +kernel
theorem dX6_livesAt_17 : decode cX6_livesAt 17 = .ok (.iload_n 2, 1) := by decide +kernel
theorem dX6_livesAt_18 : decode cX6_livesAt 18 = .ok (.if_icmp .gt 18, 3) := by decide +kernel
theorem dX6_livesAt_21 : decode cX6_livesAt 21 = .ok (.iload_n 3, 1) := by decide +kernel
theorem dX6_livesAt_22 : decode cX6_livesAt 22 = .ok (.bipush (-2), 2) := by decide +kernel
theorem dX6_livesAt_24 : decode cX6_livesAt 24 = .ok (.if_icmp .eq 8, 3) := by decide +kernel
theorem dX6_livesAt_27 : decode cX6_livesAt 27 = .ok (.iload_n 2, 1) := by decide +kernel
theorem dX6_livesAt_28 : decode cX6_livesAt 28 = .ok (.iload_n 3, 1) := by decide +kernel
theorem dX6_livesAt_29 : decode cX6_livesAt 29 = .ok (.if_icmp .ge 7, 3) := by decide +kernel
theorem dX6_livesAt_32 : decode cX6_livesAt 32 = .ok (.iconst 1, 1) := by decide +kernel
theorem dX6_livesAt_33 : decode cX6_livesAt 33 = .ok (.goto 4, 3) := by decide +kernel
theorem dX6_livesAt_36 : decode cX6_livesAt 36 = .ok (.iconst 0, 1) := by decide +kernel
theorem dX6_livesAt_37 : decode cX6_livesAt 37 = .ok (.ireturn, 1) := by decide +kernel
theorem dX6_livingIn_0 : decode cX6_livingIn 0 = .ok (.iconst 0, 1) := by decide +kernel
theorem dX6_livingIn_1 : decode cX6_livingIn 1 = .ok (.istore_n 3, 1) := by decide +kernel
theorem dX6_livingIn_2 : decode cX6_livingIn 2 = .ok (.aload_n 0, 1) := by decide +kernel
theorem dX6_livingIn_3 : decode cX6_livingIn 3 = .ok (.iload_n 1, 1) := by decide +kernel
theorem dX6_livingIn_4 : decode cX6_livingIn 4 = .ok (.invokevirtual 66, 3) := by decide +kernel
theorem dX6_livingIn_7 : decode cX6_livingIn 7 = .ok (.istore 4, 2) := by decide +kernel
theorem dX6_livingIn_9 : decode cX6_livingIn 9 = .ok (.aload_n 0, 1) := by decide +kernel
theorem dX6_livingIn_10 : decode cX6_livingIn 10 = .ok (.iload_n 1, 1) := by decide +kernel
theorem dX6_livingIn_11 : decode cX6_livingIn 11 = .ok (.invokevirtual 69, 3) := by decide +kernel
theorem dX6_livingIn_14 : decode cX6_livingIn 14 = .ok (.istore 5, 2) := by decide +kernel
theorem dX6_livingIn_16 : decode cX6_livingIn 16 = .ok (.iload 5, 2) := by decide +kernel
theorem dX6_livingIn_18 : decode cX6_livingIn 18 = .ok (.iload 4, 2) := by decide +kernel
theorem dX6_livingIn_20 : decode cX6_livingIn 20 = .ok (.if_icmp .ge 22, 3) := by decide +kernel
theorem dX6_livingIn_23 : decode cX6_livingIn 23 = .ok (.aload_n 0, 1) := by decide +kernel
theorem dX6_livingIn_24 : decode cX6_livingIn 24 = .ok (.iload 5, 2) := by decide +kernel
theorem dX6_livingIn_26 : decode cX6_livingIn 26 = .ok (.iload_n 2, 1) := by decide +kernel
theorem dX6_livingIn_27 : decode cX6_livingIn 27 = .ok (.invokevirtual 72, 3) := by decide +kernel
theorem dX6_livingIn_30 : decode cX6_livingIn 30 = .ok (.ifCond .eq 6, 3) := by decide +kernel
theorem dX6_livingIn_33 : decode cX6_livingIn 33 = .ok (.iinc 3 1, 3) := by decide +kernel
theorem dX6_livingIn_36 : decode cX6_livingIn 36 = .ok (.iinc 5 1, 3) := by decide +kernel
theorem dX6_livingIn_39 : decode cX6_livingIn 39 = .ok (.goto (-23), 3) := by decide +kernel
theorem dX6_livingIn_42 : decode cX6_livingIn 42 = .ok (.iload_n 3, 1) := by decide +kernel
theorem dX6_livingIn_43 : decode cX6_livingIn 43 = .ok (.ireturn, 1) := by decide +kernel
theorem dX6_slotToward_0 : decode cX6_slotToward 0 = .ok (.iconst (-1), 1) := by decide +kernel
theorem dX6_slotToward_1 : decode cX6_slotToward 1 = .ok (.istore 4, 2) := by decide +kernel
theorem dX6_slotToward_3 : decode cX6_slotToward 3 = .ok (.aload_n 0, 1) := by decide +kernel
theorem dX6_slotToward_4 : decode cX6_slotToward 4 = .ok (.iload_n 1, 1) := by decide +kernel
theorem dX6_slotToward_5 : decode cX6_slotToward 5 = .ok (.invokevirtual 66, 3) := by decide +kernel
theorem dX6_slotToward_8 : decode cX6_slotToward 8 = .ok (.istore 5, 2) := by decide +kernel
theorem dX6_slotToward_10 : decode cX6_slotToward 10 = .ok (.aload_n 0, 1) := by decide +kernel
theorem dX6_slotToward_11 : decode cX6_slotToward 11 = .ok (.iload_n 1, 1) := by decide +kernel
theorem dX6_slotToward_12 : decode cX6_slotToward 12 = .ok (.invokevirtual 69, 3) := by decide +kernel
theorem dX6_slotToward_15 : decode cX6_slotToward 15 = .ok (.istore 6, 2) := by decide +kernel
theorem dX6_slotToward_17 : decode cX6_slotToward 17 = .ok (.iload 6, 2) := by decide +kernel
theorem dX6_slotToward_19 : decode cX6_slotToward 19 = .ok (.iload 5, 2) := by decide +kernel
theorem dX6_slotToward_21 : decode cX6_slotToward 21 = .ok (.if_icmp .ge 63, 3) := by decide +kernel
theorem dX6_slotToward_24 : decode cX6_slotToward 24 = .ok (.aload_n 0, 1) := by decide +kernel
theorem dX6_slotToward_25 : decode cX6_slotToward 25 = .ok (.iload 6, 2) := by decide +kernel
theorem dX6_slotToward_27 : decode cX6_slotToward 27 = .ok (.iload_n 3, 1) := by decide +kernel
theorem dX6_slotToward_28 : decode cX6_slotToward 28 = .ok (.invokevirtual 72, 3) := by decide +kernel
theorem dX6_slotToward_31 : decode cX6_slotToward 31 = .ok (.ifCond .eq 47, 3) := by decide +kernel
theorem dX6_slotToward_34 : decode cX6_slotToward 34 = .ok (.aload_n 0, 1) := by decide +kernel
theorem dX6_slotToward_35 : decode cX6_slotToward 35 = .ok (.getfield 29, 3) := by decide +kernel
theorem dX6_slotToward_38 : decode cX6_slotToward 38 = .ok (.iload 6, 2) := by decide +kernel
theorem dX6_slotToward_40 : decode cX6_slotToward 40 = .ok (.invokevirtual 55, 3) := by decide +kernel
theorem dX6_slotToward_43 : decode cX6_slotToward 43 = .ok (.iload_n 2, 1) := by decide +kernel
theorem dX6_slotToward_44 : decode cX6_slotToward 44 = .ok (.if_icmp .gt 34, 3) := by decide +kernel
theorem dX6_slotToward_47 : decode cX6_slotToward 47 = .ok (.iload 4, 2) := by decide +kernel
theorem dX6_slotToward_49 : decode cX6_slotToward 49 = .ok (.iconst (-1), 1) := by decide +kernel
theorem dX6_slotToward_50 : decode cX6_slotToward 50 = .ok (.if_icmp .eq 24, 3) := by decide +kernel
theorem dX6_slotToward_53 : decode cX6_slotToward 53 = .ok (.aload_n 0, 1) := by decide +kernel
theorem dX6_slotToward_54 : decode cX6_slotToward 54 = .ok (.getfield 29, 3) := by decide +kernel
theorem dX6_slotToward_57 : decode cX6_slotToward 57 = .ok (.iload 6, 2) := by decide +kernel
theorem dX6_slotToward_59 : decode cX6_slotToward 59 = .ok (.invokevirtual 55, 3) := by decide +kernel
theorem dX6_slotToward_62 : decode cX6_slotToward 62 = .ok (.aload_n 0, 1) := by decide +kernel
theorem dX6_slotToward_63 : decode cX6_slotToward 63 = .ok (.getfield 29, 3) := by decide +kernel
theorem dX6_slotToward_66 : decode cX6_slotToward 66 = .ok (.iload 4, 2) := by decide +kernel
theorem dX6_slotToward_68 : decode cX6_slotToward 68 = .ok (.invokevirtual 55, 3) := by decide +kernel
theorem dX6_slotToward_71 : decode cX6_slotToward 71 = .ok (.if_icmp .le 7, 3) := by decide +kernel
theorem dX6_slotToward_74 : decode cX6_slotToward 74 = .ok (.iload 6, 2) := by decide +kernel
theorem dX6_slotToward_76 : decode cX6_slotToward 76 = .ok (.istore 4, 2) := by decide +kernel
theorem dX6_slotToward_78 : decode cX6_slotToward 78 = .ok (.iinc 6 1, 3) := by decide +kernel
theorem dX6_slotToward_81 : decode cX6_slotToward 81 = .ok (.goto (-64), 3) := by decide +kernel
theorem dX6_slotToward_84 : decode cX6_slotToward 84 = .ok (.iload 4, 2) := by decide +kernel
theorem dX6_slotToward_86 : decode cX6_slotToward 86 = .ok (.ireturn, 1) := by decide +kernel
theorem dX6_slotAfter_0 : decode cX6_slotAfter 0 = .ok (.iconst (-1), 1) := by decide +kernel
theorem dX6_slotAfter_1 : decode cX6_slotAfter 1 = .ok (.istore 4, 2) := by decide +kernel
theorem dX6_slotAfter_3 : decode cX6_slotAfter 3 = .ok (.aload_n 0, 1) := by decide +kernel
theorem dX6_slotAfter_4 : decode cX6_slotAfter 4 = .ok (.iload_n 1, 1) := by decide +kernel
theorem dX6_slotAfter_5 : decode cX6_slotAfter 5 = .ok (.invokevirtual 66, 3) := by decide +kernel
theorem dX6_slotAfter_8 : decode cX6_slotAfter 8 = .ok (.istore 5, 2) := by decide +kernel
theorem dX6_slotAfter_10 : decode cX6_slotAfter 10 = .ok (.aload_n 0, 1) := by decide +kernel
theorem dX6_slotAfter_11 : decode cX6_slotAfter 11 = .ok (.iload_n 1, 1) := by decide +kernel
theorem dX6_slotAfter_12 : decode cX6_slotAfter 12 = .ok (.invokevirtual 69, 3) := by decide +kernel
theorem dX6_slotAfter_15 : decode cX6_slotAfter 15 = .ok (.istore 6, 2) := by decide +kernel
theorem dX6_slotAfter_17 : decode cX6_slotAfter 17 = .ok (.iload 6, 2) := by decide +kernel
theorem dX6_slotAfter_19 : decode cX6_slotAfter 19 = .ok (.iload 5, 2) := by decide +kernel
theorem dX6_slotAfter_21 : decode cX6_slotAfter 21 = .ok (.if_icmp .ge 63, 3) := by decide +kernel
theorem dX6_slotAfter_24 : decode cX6_slotAfter 24 = .ok (.aload_n 0, 1) := by decide +kernel
theorem dX6_slotAfter_25 : decode cX6_slotAfter 25 = .ok (.iload 6, 2) := by decide +kernel
theorem dX6_slotAfter_27 : decode cX6_slotAfter 27 = .ok (.iload_n 3, 1) := by decide +kernel
theorem dX6_slotAfter_28 : decode cX6_slotAfter 28 = .ok (.invokevirtual 72, 3) := by decide +kernel
theorem dX6_slotAfter_31 : decode cX6_slotAfter 31 = .ok (.ifCond .eq 47, 3) := by decide +kernel
theorem dX6_slotAfter_34 : decode cX6_slotAfter 34 = .ok (.aload_n 0, 1) := by decide +kernel
theorem dX6_slotAfter_35 : decode cX6_slotAfter 35 = .ok (.getfield 29, 3) := by decide +kernel
theorem dX6_slotAfter_38 : decode cX6_slotAfter 38 = .ok (.iload 6, 2) := by decide +kernel
theorem dX6_slotAfter_40 : decode cX6_slotAfter 40 = .ok (.invokevirtual 55, 3) := by decide +kernel
theorem dX6_slotAfter_43 : decode cX6_slotAfter 43 = .ok (.iload_n 2, 1) := by decide +kernel
theorem dX6_slotAfter_44 : decode cX6_slotAfter 44 = .ok (.if_icmp .le 34, 3) := by decide +kernel
theorem dX6_slotAfter_47 : decode cX6_slotAfter 47 = .ok (.iload 4, 2) := by decide +kernel
theorem dX6_slotAfter_49 : decode cX6_slotAfter 49 = .ok (.iconst (-1), 1) := by decide +kernel
theorem dX6_slotAfter_50 : decode cX6_slotAfter 50 = .ok (.if_icmp .eq 24, 3) := by decide +kernel
theorem dX6_slotAfter_53 : decode cX6_slotAfter 53 = .ok (.aload_n 0, 1) := by decide +kernel
theorem dX6_slotAfter_54 : decode cX6_slotAfter 54 = .ok (.getfield 29, 3) := by decide +kernel
theorem dX6_slotAfter_57 : decode cX6_slotAfter 57 = .ok (.iload 6, 2) := by decide +kernel
theorem dX6_slotAfter_59 : decode cX6_slotAfter 59 = .ok (.invokevirtual 55, 3) := by decide +kernel
theorem dX6_slotAfter_62 : decode cX6_slotAfter 62 = .ok (.aload_n 0, 1) := by decide +kernel
theorem dX6_slotAfter_63 : decode cX6_slotAfter 63 = .ok (.getfield 29, 3) := by decide +kernel
theorem dX6_slotAfter_66 : decode cX6_slotAfter 66 = .ok (.iload 4, 2) := by decide +kernel
theorem dX6_slotAfter_68 : decode cX6_slotAfter 68 = .ok (.invokevirtual 55, 3) := by decide +kernel
theorem dX6_slotAfter_71 : decode cX6_slotAfter 71 = .ok (.if_icmp .ge 7, 3) := by decide +kernel
theorem dX6_slotAfter_74 : decode cX6_slotAfter 74 = .ok (.iload 6, 2) := by decide +kernel
theorem dX6_slotAfter_76 : decode cX6_slotAfter 76 = .ok (.istore 4, 2) := by decide +kernel
theorem dX6_slotAfter_78 : decode cX6_slotAfter 78 = .ok (.iinc 6 1, 3) := by decide +kernel
theorem dX6_slotAfter_81 : decode cX6_slotAfter 81 = .ok (.goto (-64), 3) := by decide +kernel
theorem dX6_slotAfter_84 : decode cX6_slotAfter 84 = .ok (.iload 4, 2) := by decide +kernel
theorem dX6_slotAfter_86 : decode cX6_slotAfter 86 = .ok (.ireturn, 1) := by decide +kernel
theorem dX6_openIn_0 : decode cX6_openIn 0 = .ok (.iconst 0, 1) := by decide +kernel
theorem dX6_openIn_1 : decode cX6_openIn 1 = .ok (.istore_n 2, 1) := by decide +kernel
theorem dX6_openIn_2 : decode cX6_openIn 2 = .ok (.aload_n 0, 1) := by decide +kernel
theorem dX6_openIn_3 : decode cX6_openIn 3 = .ok (.iload_n 1, 1) := by decide +kernel
theorem dX6_openIn_4 : decode cX6_openIn 4 = .ok (.invokevirtual 66, 3) := by decide +kernel
theorem dX6_openIn_7 : decode cX6_openIn 7 = .ok (.istore_n 3, 1) := by decide +kernel
theorem dX6_openIn_8 : decode cX6_openIn 8 = .ok (.aload_n 0, 1) := by decide +kernel
theorem dX6_openIn_9 : decode cX6_openIn 9 = .ok (.iload_n 1, 1) := by decide +kernel
theorem dX6_openIn_10 : decode cX6_openIn 10 = .ok (.invokevirtual 69, 3) := by decide +kernel
theorem dX6_openIn_13 : decode cX6_openIn 13 = .ok (.istore 4, 2) := by decide +kernel
theorem dX6_openIn_15 : decode cX6_openIn 15 = .ok (.iload 4, 2) := by decide +kernel
theorem dX6_openIn_17 : decode cX6_openIn 17 = .ok (.iload_n 3, 1) := by decide +kernel
theorem dX6_openIn_18 : decode cX6_openIn 18 = .ok (.if_icmp .ge 26, 3) := by decide +kernel
theorem dX6_openIn_21 : decode cX6_openIn 21 = .ok (.aload_n 0, 1) := by decide +kernel
theorem dX6_openIn_22 : decode cX6_openIn 22 = .ok (.getfield 38, 3) := by decide +kernel
theorem dX6_openIn_25 : decode cX6_openIn 25 = .ok (.iload 4, 2) := by decide +kernel
theorem dX6_openIn_27 : decode cX6_openIn 27 = .ok (.invokevirtual 55, 3) := by decide +kernel
theorem dX6_openIn_30 : decode cX6_openIn 30 = .ok (.bipush (-2), 2) := by decide +kernel
theorem dX6_openIn_32 : decode cX6_openIn 32 = .ok (.if_icmp .ne 6, 3) := by decide +kernel
theorem dX6_openIn_35 : decode cX6_openIn 35 = .ok (.iinc 2 1, 3) := by decide +kernel
theorem dX6_openIn_38 : decode cX6_openIn 38 = .ok (.iinc 4 1, 3) := by decide +kernel
theorem dX6_openIn_41 : decode cX6_openIn 41 = .ok (.goto (-26), 3) := by decide +kernel
theorem dX6_openIn_44 : decode cX6_openIn 44 = .ok (.iload_n 2, 1) := by decide +kernel
theorem dX6_openIn_45 : decode cX6_openIn 45 = .ok (.ireturn, 1) := by decide +kernel
theorem dX6_allEntries_0 : decode cX6_allEntries 0 = .ok (.iconst 0, 1) := by decide +kernel
theorem dX6_allEntries_1 : decode cX6_allEntries 1 = .ok (.istore_n 1, 1) := by decide +kernel
theorem dX6_allEntries_2 : decode cX6_allEntries 2 = .ok (.iconst 0, 1) := by decide +kernel
theorem dX6_allEntries_3 : decode cX6_allEntries 3 = .ok (.istore_n 2, 1) := by decide +kernel
theorem dX6_allEntries_4 : decode cX6_allEntries 4 = .ok (.iload_n 2, 1) := by decide +kernel
theorem dX6_allEntries_5 : decode cX6_allEntries 5 = .ok (.aload_n 0, 1) := by decide +kernel
theorem dX6_allEntries_6 : decode cX6_allEntries 6 = .ok (.getfield 14, 3) := by decide +kernel
theorem dX6_allEntries_9 : decode cX6_allEntries 9 = .ok (.getfield 52, 3) := by decide +kernel
theorem dX6_allEntries_12 : decode cX6_allEntries 12 = .ok (.if_icmp .ge 20, 3) := by decide +kernel
theorem dX6_allEntries_15 : decode cX6_allEntries 15 = .ok (.iload_n 1, 1) := by decide +kernel
theorem dX6_allEntries_16 : decode cX6_allEntries 16 = .ok (.aload_n 0, 1) := by decide +kernel
theorem dX6_allEntries_17 : decode cX6_allEntries 17 = .ok (.getfield 20, 3) := by decide +kernel
theorem dX6_allEntries_20 : decode cX6_allEntries 20 = .ok (.iload_n 2, 1) := by decide +kernel
theorem dX6_allEntries_21 : decode cX6_allEntries 21 = .ok (.invokevirtual 55, 3) := by decide +kernel
theorem dX6_allEntries_24 : decode cX6_allEntries 24 = .ok (.iadd, 1) := by decide +kernel
theorem dX6_allEntries_25 : decode cX6_allEntries 25 = .ok (.istore_n 1, 1) := by decide +kernel
theorem dX6_allEntries_26 : decode cX6_allEntries 26 = .ok (.iinc 2 1, 3) := by decide +kernel
theorem dX6_allEntries_29 : decode cX6_allEntries 29 = .ok (.goto (-25), 3) := by decide +kernel
theorem dX6_allEntries_32 : decode cX6_allEntries 32 = .ok (.iload_n 1, 1) := by decide +kernel
theorem dX6_allEntries_33 : decode cX6_allEntries 33 = .ok (.ireturn, 1) := by decide +kernel
theorem dX6_endedPages_0 : decode cX6_endedPages 0 = .ok (.iconst 0, 1) := by decide +kernel
theorem dX6_endedPages_1 : decode cX6_endedPages 1 = .ok (.istore_n 1, 1) := by decide +kernel
theorem dX6_endedPages_2 : decode cX6_endedPages 2 = .ok (.iconst 0, 1) := by decide +kernel
theorem dX6_endedPages_3 : decode cX6_endedPages 3 = .ok (.istore_n 2, 1) := by decide +kernel
theorem dX6_endedPages_4 : decode cX6_endedPages 4 = .ok (.iload_n 2, 1) := by decide +kernel
theorem dX6_endedPages_5 : decode cX6_endedPages 5 = .ok (.aload_n 0, 1) := by decide +kernel
theorem dX6_endedPages_6 : decode cX6_endedPages 6 = .ok (.getfield 14, 3) := by decide +kernel
theorem dX6_endedPages_9 : decode cX6_endedPages 9 = .ok (.getfield 52, 3) := by decide +kernel
theorem dX6_endedPages_12 : decode cX6_endedPages 12 = .ok (.if_icmp .ge 25, 3) := by decide +kernel
theorem dX6_endedPages_15 : decode cX6_endedPages 15 = .ok (.aload_n 0, 1) := by decide +kernel
theorem dX6_endedPages_16 : decode cX6_endedPages 16 = .ok (.getfield 26, 3) := by decide +kernel
theorem dX6_endedPages_19 : decode cX6_endedPages 19 = .ok (.iload_n 2, 1) := by decide +kernel
theorem dX6_endedPages_20 : decode cX6_endedPages 20 = .ok (.invokevirtual 55, 3) := by decide +kernel
theorem dX6_endedPages_23 : decode cX6_endedPages 23 = .ok (.bipush (-2), 2) := by decide +kernel
theorem dX6_endedPages_25 : decode cX6_endedPages 25 = .ok (.if_icmp .eq 6, 3) := by decide +kernel
theorem dX6_endedPages_28 : decode cX6_endedPages 28 = .ok (.iinc 1 1, 3) := by decide +kernel
theorem dX6_endedPages_31 : decode cX6_endedPages 31 = .ok (.iinc 2 1, 3) := by decide +kernel
theorem dX6_endedPages_34 : decode cX6_endedPages 34 = .ok (.goto (-30), 3) := by decide +kernel
theorem dX6_endedPages_37 : decode cX6_endedPages 37 = .ok (.iload_n 1, 1) := by decide +kernel
theorem dX6_endedPages_38 : decode cX6_endedPages 38 = .ok (.ireturn, 1) := by decide +kernel
theorem dX6_madeAt_0 : decode cX6_madeAt 0 = .ok (.iconst 0, 1) := by decide +kernel
theorem dX6_madeAt_1 : decode cX6_madeAt 1 = .ok (.istore_n 2, 1) := by decide +kernel
theorem dX6_madeAt_2 : decode cX6_madeAt 2 = .ok (.iconst 0, 1) := by decide +kernel
theorem dX6_madeAt_3 : decode cX6_madeAt 3 = .ok (.istore_n 3, 1) := by decide +kernel
theorem dX6_madeAt_4 : decode cX6_madeAt 4 = .ok (.iload_n 3, 1) := by decide +kernel
theorem dX6_madeAt_5 : decode cX6_madeAt 5 = .ok (.aload_n 0, 1) := by decide +kernel
theorem dX6_madeAt_6 : decode cX6_madeAt 6 = .ok (.getfield 14, 3) := by decide +kernel
theorem dX6_madeAt_9 : decode cX6_madeAt 9 = .ok (.getfield 52, 3) := by decide +kernel
theorem dX6_madeAt_12 : decode cX6_madeAt 12 = .ok (.if_icmp .ge 24, 3) := by decide +kernel
theorem dX6_madeAt_15 : decode cX6_madeAt 15 = .ok (.aload_n 0, 1) := by decide +kernel
theorem dX6_madeAt_16 : decode cX6_madeAt 16 = .ok (.getfield 23, 3) := by decide +kernel
theorem dX6_madeAt_19 : decode cX6_madeAt 19 = .ok (.iload_n 3, 1) := by decide +kernel
theorem dX6_madeAt_20 : decode cX6_madeAt 20 = .ok (.invokevirtual 55, 3) := by decide +kernel
theorem dX6_madeAt_23 : decode cX6_madeAt 23 = .ok (.iload_n 1, 1) := by decide +kernel
theorem dX6_madeAt_24 : decode cX6_madeAt 24 = .ok (.if_icmp .ne 6, 3) := by decide +kernel
theorem dX6_madeAt_27 : decode cX6_madeAt 27 = .ok (.iinc 2 1, 3) := by decide +kernel
theorem dX6_madeAt_30 : decode cX6_madeAt 30 = .ok (.iinc 3 1, 3) := by decide +kernel
theorem dX6_madeAt_33 : decode cX6_madeAt 33 = .ok (.goto (-29), 3) := by decide +kernel
theorem dX6_madeAt_36 : decode cX6_madeAt 36 = .ok (.iload_n 2, 1) := by decide +kernel
theorem dX6_madeAt_37 : decode cX6_madeAt 37 = .ok (.ireturn, 1) := by decide +kernel
theorem dX6_copies_0 : decode cX6_copies 0 = .ok (.iconst 0, 1) := by decide +kernel
theorem dX6_copies_1 : decode cX6_copies 1 = .ok (.istore_n 1, 1) := by decide +kernel
theorem dX6_copies_2 : decode cX6_copies 2 = .ok (.iconst 0, 1) := by decide +kernel
theorem dX6_copies_3 : decode cX6_copies 3 = .ok (.istore_n 2, 1) := by decide +kernel
theorem dX6_copies_4 : decode cX6_copies 4 = .ok (.iload_n 2, 1) := by decide +kernel
theorem dX6_copies_5 : decode cX6_copies 5 = .ok (.aload_n 0, 1) := by decide +kernel
theorem dX6_copies_6 : decode cX6_copies 6 = .ok (.getfield 14, 3) := by decide +kernel
theorem dX6_copies_9 : decode cX6_copies 9 = .ok (.getfield 52, 3) := by decide +kernel
theorem dX6_copies_12 : decode cX6_copies 12 = .ok (.if_icmp .ge 69, 3) := by decide +kernel
theorem dX6_copies_15 : decode cX6_copies 15 = .ok (.aload_n 0, 1) := by decide +kernel
theorem dX6_copies_16 : decode cX6_copies 16 = .ok (.iload_n 2, 1) := by decide +kernel
theorem dX6_copies_17 : decode cX6_copies 17 = .ok (.invokevirtual 76, 3) := by decide +kernel
theorem dX6_copies_20 : decode cX6_copies 20 = .ok (.ifCond .eq 11, 3) := by decide +kernel
theorem dX6_copies_23 : decode cX6_copies 23 = .ok (.aload_n 0, 1) := by decide +kernel
theorem dX6_copies_24 : decode cX6_copies 24 = .ok (.iload_n 2, 1) := by decide +kernel
theorem dX6_copies_25 : decode cX6_copies 25 = .ok (.invokevirtual 66, 3) := by decide +kernel
theorem dX6_copies_28 : decode cX6_copies 28 = .ok (.goto 4, 3) := by decide +kernel
theorem dX6_copies_31 : decode cX6_copies 31 = .ok (.iconst 0, 1) := by decide +kernel
theorem dX6_copies_32 : decode cX6_copies 32 = .ok (.istore_n 3, 1) := by decide +kernel
theorem dX6_copies_33 : decode cX6_copies 33 = .ok (.aload_n 0, 1) := by decide +kernel
theorem dX6_copies_34 : decode cX6_copies 34 = .ok (.iload_n 2, 1) := by decide +kernel
theorem dX6_copies_35 : decode cX6_copies 35 = .ok (.invokevirtual 69, 3) := by decide +kernel
theorem dX6_copies_38 : decode cX6_copies 38 = .ok (.istore 4, 2) := by decide +kernel
theorem dX6_copies_40 : decode cX6_copies 40 = .ok (.iload 4, 2) := by decide +kernel
theorem dX6_copies_42 : decode cX6_copies 42 = .ok (.iload_n 3, 1) := by decide +kernel
theorem dX6_copies_43 : decode cX6_copies 43 = .ok (.if_icmp .ge 32, 3) := by decide +kernel
theorem dX6_copies_46 : decode cX6_copies 46 = .ok (.aload_n 0, 1) := by decide +kernel
theorem dX6_copies_47 : decode cX6_copies 47 = .ok (.getfield 35, 3) := by decide +kernel
theorem dX6_copies_50 : decode cX6_copies 50 = .ok (.iload 4, 2) := by decide +kernel
theorem dX6_copies_52 : decode cX6_copies 52 = .ok (.invokevirtual 55, 3) := by decide +kernel
theorem dX6_copies_55 : decode cX6_copies 55 = .ok (.aload_n 0, 1) := by decide +kernel
theorem dX6_copies_56 : decode cX6_copies 56 = .ok (.getfield 23, 3) := by decide +kernel
theorem dX6_copies_59 : decode cX6_copies 59 = .ok (.iload_n 2, 1) := by decide +kernel
theorem dX6_copies_60 : decode cX6_copies 60 = .ok (.invokevirtual 55, 3) := by decide +kernel
theorem dX6_copies_63 : decode cX6_copies 63 = .ok (.if_icmp .ge 6, 3) := by decide +kernel
theorem dX6_copies_66 : decode cX6_copies 66 = .ok (.iinc 1 1, 3) := by decide +kernel
theorem dX6_copies_69 : decode cX6_copies 69 = .ok (.iinc 4 1, 3) := by decide +kernel
theorem dX6_copies_72 : decode cX6_copies 72 = .ok (.goto (-32), 3) := by decide +kernel
theorem dX6_copies_75 : decode cX6_copies 75 = .ok (.iinc 2 1, 3) := by decide +kernel
theorem dX6_copies_78 : decode cX6_copies 78 = .ok (.goto (-74), 3) := by decide +kernel
theorem dX6_copies_81 : decode cX6_copies 81 = .ok (.iload_n 1, 1) := by decide +kernel
theorem dX6_copies_82 : decode cX6_copies 82 = .ok (.ireturn, 1) := by decide +kernel
theorem dX2_init_0 : decode cX2_init 0 = .ok (.aload_n 0, 1) := by decide +kernel
theorem dX2_init_1 : decode cX2_init 1 = .ok (.invokespecial 3, 3) := by decide +kernel
theorem dX2_init_4 : decode cX2_init 4 = .ok (.aload_n 0, 1) := by decide +kernel
theorem dX2_init_5 : decode cX2_init 5 = .ok (.new 9, 3) := by decide +kernel
theorem dX2_init_8 : decode cX2_init 8 = .ok (.dup, 1) := by decide +kernel
theorem dX2_init_9 : decode cX2_init 9 = .ok (.bipush 16, 2) := by decide +kernel
theorem dX2_init_11 : decode cX2_init 11 = .ok (.invokespecial 11, 3) := by decide +kernel
theorem dX2_init_14 : decode cX2_init 14 = .ok (.putfield 14, 3) := by decide +kernel
theorem dX2_init_17 : decode cX2_init 17 = .ok (.aload_n 0, 1) := by decide +kernel
theorem dX2_init_18 : decode cX2_init 18 = .ok (.new 9, 3) := by decide +kernel
theorem dX2_init_21 : decode cX2_init 21 = .ok (.dup, 1) := by decide +kernel
theorem dX2_init_22 : decode cX2_init 22 = .ok (.bipush 16, 2) := by decide +kernel
theorem dX2_init_24 : decode cX2_init 24 = .ok (.invokespecial 11, 3) := by decide +kernel
theorem dX2_init_27 : decode cX2_init 27 = .ok (.putfield 20, 3) := by decide +kernel
theorem dX2_init_30 : decode cX2_init 30 = .ok (.aload_n 0, 1) := by decide +kernel
theorem dX2_init_31 : decode cX2_init 31 = .ok (.new 9, 3) := by decide +kernel
theorem dX2_init_34 : decode cX2_init 34 = .ok (.dup, 1) := by decide +kernel
theorem dX2_init_35 : decode cX2_init 35 = .ok (.bipush 16, 2) := by decide +kernel
theorem dX2_init_37 : decode cX2_init 37 = .ok (.invokespecial 11, 3) := by decide +kernel
theorem dX2_init_40 : decode cX2_init 40 = .ok (.putfield 23, 3) := by decide +kernel
theorem dX2_init_43 : decode cX2_init 43 = .ok (.aload_n 0, 1) := by decide +kernel
theorem dX2_init_44 : decode cX2_init 44 = .ok (.new 9, 3) := by decide +kernel
theorem dX2_init_47 : decode cX2_init 47 = .ok (.dup, 1) := by decide +kernel
theorem dX2_init_48 : decode cX2_init 48 = .ok (.bipush 16, 2) := by decide +kernel
theorem dX2_init_50 : decode cX2_init 50 = .ok (.invokespecial 11, 3) := by decide +kernel
theorem dX2_init_53 : decode cX2_init 53 = .ok (.putfield 26, 3) := by decide +kernel
theorem dX2_init_56 : decode cX2_init 56 = .ok (.aload_n 0, 1) := by decide +kernel
theorem dX2_init_57 : decode cX2_init 57 = .ok (.iconst 0, 1) := by decide +kernel
theorem dX2_init_58 : decode cX2_init 58 = .ok (.putfield 29, 3) := by decide +kernel
theorem dX2_init_61 : decode cX2_init 61 = .ok (.return_, 1) := by decide +kernel
theorem dX2_reset_0 : decode cX2_reset 0 = .ok (.aload_n 0, 1) := by decide +kernel
theorem dX2_reset_1 : decode cX2_reset 1 = .ok (.iconst 0, 1) := by decide +kernel
theorem dX2_reset_2 : decode cX2_reset 2 = .ok (.putfield 29, 3) := by decide +kernel
theorem dX2_reset_5 : decode cX2_reset 5 = .ok (.aload_n 0, 1) := by decide +kernel
theorem dX2_reset_6 : decode cX2_reset 6 = .ok (.getfield 14, 3) := by decide +kernel
theorem dX2_reset_9 : decode cX2_reset 9 = .ok (.iconst 1, 1) := by decide +kernel
theorem dX2_reset_10 : decode cX2_reset 10 = .ok (.iconst (-1), 1) := by decide +kernel
theorem dX2_reset_11 : decode cX2_reset 11 = .ok (.invokevirtual 33, 3) := by decide +kernel
theorem dX2_reset_14 : decode cX2_reset 14 = .ok (.aload_n 0, 1) := by decide +kernel
theorem dX2_reset_15 : decode cX2_reset 15 = .ok (.getfield 20, 3) := by decide +kernel
theorem dX2_reset_18 : decode cX2_reset 18 = .ok (.iconst 1, 1) := by decide +kernel
theorem dX2_reset_19 : decode cX2_reset 19 = .ok (.iconst 0, 1) := by decide +kernel
theorem dX2_reset_20 : decode cX2_reset 20 = .ok (.invokevirtual 33, 3) := by decide +kernel
theorem dX2_reset_23 : decode cX2_reset 23 = .ok (.aload_n 0, 1) := by decide +kernel
theorem dX2_reset_24 : decode cX2_reset 24 = .ok (.getfield 23, 3) := by decide +kernel
theorem dX2_reset_27 : decode cX2_reset 27 = .ok (.iconst 1, 1) := by decide +kernel
theorem dX2_reset_28 : decode cX2_reset 28 = .ok (.iconst 0, 1) := by decide +kernel
theorem dX2_reset_29 : decode cX2_reset 29 = .ok (.invokevirtual 33, 3) := by decide +kernel
theorem dX2_reset_32 : decode cX2_reset 32 = .ok (.aload_n 0, 1) := by decide +kernel
theorem dX2_reset_33 : decode cX2_reset 33 = .ok (.getfield 26, 3) := by decide +kernel
theorem dX2_reset_36 : decode cX2_reset 36 = .ok (.iconst 1, 1) := by decide +kernel
theorem dX2_reset_37 : decode cX2_reset 37 = .ok (.iconst 0, 1) := by decide +kernel
theorem dX2_reset_38 : decode cX2_reset 38 = .ok (.invokevirtual 33, 3) := by decide +kernel
theorem dX2_reset_41 : decode cX2_reset 41 = .ok (.return_, 1) := by decide +kernel
theorem dX2_copyFrom_0 : decode cX2_copyFrom 0 = .ok (.aload_n 0, 1) := by decide +kernel
theorem dX2_copyFrom_1 : decode cX2_copyFrom 1 = .ok (.aload_n 1, 1) := by decide +kernel
theorem dX2_copyFrom_2 : decode cX2_copyFrom 2 = .ok (.getfield 29, 3) := by decide +kernel
theorem dX2_copyFrom_5 : decode cX2_copyFrom 5 = .ok (.putfield 29, 3) := by decide +kernel
theorem dX2_copyFrom_8 : decode cX2_copyFrom 8 = .ok (.aload_n 0, 1) := by decide +kernel
theorem dX2_copyFrom_9 : decode cX2_copyFrom 9 = .ok (.getfield 14, 3) := by decide +kernel
theorem dX2_copyFrom_12 : decode cX2_copyFrom 12 = .ok (.aload_n 1, 1) := by decide +kernel
theorem dX2_copyFrom_13 : decode cX2_copyFrom 13 = .ok (.getfield 14, 3) := by decide +kernel
theorem dX2_copyFrom_16 : decode cX2_copyFrom 16 = .ok (.invokevirtual 37, 3) := by decide +kernel
theorem dX2_copyFrom_19 : decode cX2_copyFrom 19 = .ok (.aload_n 0, 1) := by decide +kernel
theorem dX2_copyFrom_20 : decode cX2_copyFrom 20 = .ok (.getfield 20, 3) := by decide +kernel
theorem dX2_copyFrom_23 : decode cX2_copyFrom 23 = .ok (.aload_n 1, 1) := by decide +kernel
theorem dX2_copyFrom_24 : decode cX2_copyFrom 24 = .ok (.getfield 20, 3) := by decide +kernel
theorem dX2_copyFrom_27 : decode cX2_copyFrom 27 = .ok (.invokevirtual 37, 3) := by decide +kernel
theorem dX2_copyFrom_30 : decode cX2_copyFrom 30 = .ok (.aload_n 0, 1) := by decide +kernel
theorem dX2_copyFrom_31 : decode cX2_copyFrom 31 = .ok (.getfield 23, 3) := by decide +kernel
theorem dX2_copyFrom_34 : decode cX2_copyFrom 34 = .ok (.aload_n 1, 1) := by decide +kernel
theorem dX2_copyFrom_35 : decode cX2_copyFrom 35 = .ok (.getfield 23, 3) := by decide +kernel
theorem dX2_copyFrom_38 : decode cX2_copyFrom 38 = .ok (.invokevirtual 37, 3) := by decide +kernel
theorem dX2_copyFrom_41 : decode cX2_copyFrom 41 = .ok (.aload_n 0, 1) := by decide +kernel
theorem dX2_copyFrom_42 : decode cX2_copyFrom 42 = .ok (.getfield 26, 3) := by decide +kernel
theorem dX2_copyFrom_45 : decode cX2_copyFrom 45 = .ok (.aload_n 1, 1) := by decide +kernel
theorem dX2_copyFrom_46 : decode cX2_copyFrom 46 = .ok (.getfield 26, 3) := by decide +kernel
theorem dX2_copyFrom_49 : decode cX2_copyFrom 49 = .ok (.invokevirtual 37, 3) := by decide +kernel
theorem dX2_copyFrom_52 : decode cX2_copyFrom 52 = .ok (.return_, 1) := by decide +kernel
theorem dX2_now_0 : decode cX2_now 0 = .ok (.aload_n 0, 1) := by decide +kernel
theorem dX2_now_1 : decode cX2_now 1 = .ok (.getfield 14, 3) := by decide +kernel
theorem dX2_now_4 : decode cX2_now 4 = .ok (.getfield 41, 3) := by decide +kernel
theorem dX2_now_7 : decode cX2_now 7 = .ok (.iconst 1, 1) := by decide +kernel
theorem dX2_now_8 : decode cX2_now 8 = .ok (.isub, 1) := by decide +kernel
theorem dX2_now_9 : decode cX2_now 9 = .ok (.ireturn, 1) := by decide +kernel
theorem dX2_happen_0 : decode cX2_happen 0 = .ok (.aload_n 0, 1) := by decide +kernel
theorem dX2_happen_1 : decode cX2_happen 1 = .ok (.getfield 14, 3) := by decide +kernel
theorem dX2_happen_4 : decode cX2_happen 4 = .ok (.getfield 41, 3) := by decide +kernel
theorem dX2_happen_7 : decode cX2_happen 7 = .ok (.istore 4, 2) := by decide +kernel
theorem dX2_happen_9 : decode cX2_happen 9 = .ok (.aload_n 0, 1) := by decide +kernel
theorem dX2_happen_10 : decode cX2_happen 10 = .ok (.iload_n 2, 1) := by decide +kernel
theorem dX2_happen_11 : decode cX2_happen 11 = .ok (.iload 4, 2) := by decide +kernel
theorem dX2_happen_13 : decode cX2_happen 13 = .ok (.iconst 1, 1) := by decide +kernel
theorem dX2_happen_14 : decode cX2_happen 14 = .ok (.isub, 1) := by decide +kernel
theorem dX2_happen_15 : decode cX2_happen 15 = .ok (.invokevirtual 44, 3) := by decide +kernel
theorem dX2_happen_18 : decode cX2_happen 18 = .ok (.istore 5, 2) := by decide +kernel
theorem dX2_happen_20 : decode cX2_happen 20 = .ok (.iload 5, 2) := by decide +kernel
theorem dX2_happen_22 : decode cX2_happen 22 = .ok (.iconst (-1), 1) := by decide +kernel
theorem dX2_happen_23 : decode cX2_happen 23 = .ok (.if_icmp .eq 24, 3) := by decide +kernel
theorem dX2_happen_26 : decode cX2_happen 26 = .ok (.aload_n 0, 1) := by decide +kernel
theorem dX2_happen_27 : decode cX2_happen 27 = .ok (.getfield 26, 3) := by decide +kernel
theorem dX2_happen_30 : decode cX2_happen 30 = .ok (.iload 5, 2) := by decide +kernel
theorem dX2_happen_32 : decode cX2_happen 32 = .ok (.iload 4, 2) := by decide +kernel
theorem dX2_happen_34 : decode cX2_happen 34 = .ok (.invokevirtual 48, 3) := by decide +kernel
theorem dX2_happen_37 : decode cX2_happen 37 = .ok (.aload_n 0, 1) := by decide +kernel
theorem dX2_happen_38 : decode cX2_happen 38 = .ok (.dup, 1) := by decide +kernel
theorem dX2_happen_39 : decode cX2_happen 39 = .ok (.getfield 29, 3) := by decide +kernel
theorem dX2_happen_42 : decode cX2_happen 42 = .ok (.iconst 1, 1) := by decide +kernel
theorem dX2_happen_43 : decode cX2_happen 43 = .ok (.isub, 1) := by decide +kernel
theorem dX2_happen_44 : decode cX2_happen 44 = .ok (.putfield 29, 3) := by decide +kernel
theorem dX2_happen_47 : decode cX2_happen 47 = .ok (.aload_n 0, 1) := by decide +kernel
theorem dX2_happen_48 : decode cX2_happen 48 = .ok (.dup, 1) := by decide +kernel
theorem dX2_happen_49 : decode cX2_happen 49 = .ok (.getfield 29, 3) := by decide +kernel
theorem dX2_happen_52 : decode cX2_happen 52 = .ok (.iload_n 1, 1) := by decide +kernel
theorem dX2_happen_53 : decode cX2_happen 53 = .ok (.iadd, 1) := by decide +kernel
theorem dX2_happen_54 : decode cX2_happen 54 = .ok (.putfield 29, 3) := by decide +kernel
theorem dX2_happen_57 : decode cX2_happen 57 = .ok (.aload_n 0, 1) := by decide +kernel
theorem dX2_happen_58 : decode cX2_happen 58 = .ok (.getfield 14, 3) := by decide +kernel
theorem dX2_happen_61 : decode cX2_happen 61 = .ok (.iload_n 2, 1) := by decide +kernel
theorem dX2_happen_62 : decode cX2_happen 62 = .ok (.invokevirtual 51, 3) := by decide +kernel
theorem dX2_happen_65 : decode cX2_happen 65 = .ok (.aload_n 0, 1) := by decide +kernel
theorem dX2_happen_66 : decode cX2_happen 66 = .ok (.getfield 20, 3) := by decide +kernel
theorem dX2_happen_69 : decode cX2_happen 69 = .ok (.iload_n 1, 1) := by decide +kernel
theorem dX2_happen_70 : decode cX2_happen 70 = .ok (.invokevirtual 51, 3) := by decide +kernel
theorem dX2_happen_73 : decode cX2_happen 73 = .ok (.aload_n 0, 1) := by decide +kernel
theorem dX2_happen_74 : decode cX2_happen 74 = .ok (.getfield 23, 3) := by decide +kernel
theorem dX2_happen_77 : decode cX2_happen 77 = .ok (.iload_n 3, 1) := by decide +kernel
theorem dX2_happen_78 : decode cX2_happen 78 = .ok (.invokevirtual 51, 3) := by decide +kernel
theorem dX2_happen_81 : decode cX2_happen 81 = .ok (.aload_n 0, 1) := by decide +kernel
theorem dX2_happen_82 : decode cX2_happen 82 = .ok (.getfield 26, 3) := by decide +kernel
theorem dX2_happen_85 : decode cX2_happen 85 = .ok (.bipush (-2), 2) := by decide +kernel
theorem dX2_happen_87 : decode cX2_happen 87 = .ok (.invokevirtual 51, 3) := by decide +kernel
theorem dX2_happen_90 : decode cX2_happen 90 = .ok (.iload 4, 2) := by decide +kernel
theorem dX2_happen_92 : decode cX2_happen 92 = .ok (.ireturn, 1) := by decide +kernel
theorem dX2_livingFrom_0 : decode cX2_livingFrom 0 = .ok (.iload_n 2, 1) := by decide +kernel
theorem dX2_livingFrom_1 : decode cX2_livingFrom 1 = .ok (.istore_n 3, 1) := by decide +kernel
theorem dX2_livingFrom_2 : decode cX2_livingFrom 2 = .ok (.iload_n 3, 1) := by decide +kernel
theorem dX2_livingFrom_3 : decode cX2_livingFrom 3 = .ok (.ifCond .le 39, 3) := by decide +kernel
theorem dX2_livingFrom_6 : decode cX2_livingFrom 6 = .ok (.aload_n 0, 1) := by decide +kernel
theorem dX2_livingFrom_7 : decode cX2_livingFrom 7 = .ok (.getfield 14, 3) := by decide +kernel
theorem dX2_livingFrom_10 : decode cX2_livingFrom 10 = .ok (.iload_n 3, 1) := by decide +kernel
theorem dX2_livingFrom_11 : decode cX2_livingFrom 11 = .ok (.invokevirtual 54, 3) := by decide +kernel
theorem dX2_livingFrom_14 : decode cX2_livingFrom 14 = .ok (.iload_n 1, 1) := by decide +kernel
theorem dX2_livingFrom_15 : decode cX2_livingFrom 15 = .ok (.if_icmp .ne 21, 3) := by decide +kernel
theorem dX2_livingFrom_18 : decode cX2_livingFrom 18 = .ok (.aload_n 0, 1) := by decide +kernel
theorem dX2_livingFrom_19 : decode cX2_livingFrom 19 = .ok (.getfield 20, 3) := by decide +kernel
theorem dX2_livingFrom_22 : decode cX2_livingFrom 22 = .ok (.iload_n 3, 1) := by decide +kernel
theorem dX2_livingFrom_23 : decode cX2_livingFrom 23 = .ok (.invokevirtual 54, 3) := by decide +kernel
theorem dX2_livingFrom_26 : decode cX2_livingFrom 26 = .ok (.iconst 1, 1) := by decide +kernel
theorem dX2_livingFrom_27 : decode cX2_livingFrom 27 = .ok (.if_icmp .ne 7, 3) := by decide +kernel
theorem dX2_livingFrom_30 : decode cX2_livingFrom 30 = .ok (.iload_n 3, 1) := by decide +kernel
theorem dX2_livingFrom_31 : decode cX2_livingFrom 31 = .ok (.goto 4, 3) := by decide +kernel
theorem dX2_livingFrom_34 : decode cX2_livingFrom 34 = .ok (.iconst (-1), 1) := by decide +kernel
theorem dX2_livingFrom_35 : decode cX2_livingFrom 35 = .ok (.ireturn, 1) := by decide +kernel
theorem dX2_livingFrom_36 : decode cX2_livingFrom 36 = .ok (.iinc 3 (-1), 3) := by decide +kernel
theorem dX2_livingFrom_39 : decode cX2_livingFrom 39 = .ok (.goto (-37), 3) := by decide +kernel
theorem dX2_livingFrom_42 : decode cX2_livingFrom 42 = .ok (.iconst (-1), 1) := by decide +kernel
theorem dX2_livingFrom_43 : decode cX2_livingFrom 43 = .ok (.ireturn, 1) := by decide +kernel
theorem dX2_livesAt_0 : decode cX2_livesAt 0 = .ok (.aload_n 0, 1) := by decide +kernel
theorem dX2_livesAt_1 : decode cX2_livesAt 1 = .ok (.getfield 26, 3) := by decide +kernel
theorem dX2_livesAt_4 : decode cX2_livesAt 4 = .ok (.iload_n 1, 1) := by decide +kernel
theorem dX2_livesAt_5 : decode cX2_livesAt 5 = .ok (.invokevirtual 54, 3) := by decide +kernel
theorem dX2_livesAt_8 : decode cX2_livesAt 8 = .ok (.istore_n 3, 1) := by decide +kernel
theorem dX2_livesAt_9 : decode cX2_livesAt 9 = .ok (.aload_n 0, 1) := by decide +kernel
theorem dX2_livesAt_10 : decode cX2_livesAt 10 = .ok (.getfield 20, 3) := by decide +kernel
theorem dX2_livesAt_13 : decode cX2_livesAt 13 = .ok (.iload_n 1, 1) := by decide +kernel
theorem dX2_livesAt_14 : decode cX2_livesAt 14 = .ok (.invokevirtual 54, 3) := by decide +kernel
theorem dX2_livesAt_17 : decode cX2_livesAt 17 = .ok (.iconst 1, 1) := by decide +kernel
theorem dX2_livesAt_18 : decode cX2_livesAt 18 = .ok (.if_icmp .ne 23, 3) := by decide +kernel
theorem dX2_livesAt_21 : decode cX2_livesAt 21 = .ok (.iload_n 1, 1) := by decide +kernel
theorem dX2_livesAt_22 : decode cX2_livesAt 22 = .ok (.iload_n 2, 1) := by decide +kernel
theorem dX2_livesAt_23 : decode cX2_livesAt 23 = .ok (.if_icmp .gt 18, 3) := by decide +kernel
theorem dX2_livesAt_26 : decode cX2_livesAt 26 = .ok (.iload_n 3, 1) := by decide +kernel
theorem dX2_livesAt_27 : decode cX2_livesAt 27 = .ok (.bipush (-2), 2) := by decide +kernel
theorem dX2_livesAt_29 : decode cX2_livesAt 29 = .ok (.if_icmp .eq 8, 3) := by decide +kernel
theorem dX2_livesAt_32 : decode cX2_livesAt 32 = .ok (.iload_n 2, 1) := by decide +kernel
theorem dX2_livesAt_33 : decode cX2_livesAt 33 = .ok (.iload_n 3, 1) := by decide +kernel
theorem dX2_livesAt_34 : decode cX2_livesAt 34 = .ok (.if_icmp .ge 7, 3) := by decide +kernel
theorem dX2_livesAt_37 : decode cX2_livesAt 37 = .ok (.iconst 1, 1) := by decide +kernel
theorem dX2_livesAt_38 : decode cX2_livesAt 38 = .ok (.goto 4, 3) := by decide +kernel
theorem dX2_livesAt_41 : decode cX2_livesAt 41 = .ok (.iconst 0, 1) := by decide +kernel
theorem dX2_livesAt_42 : decode cX2_livesAt 42 = .ok (.ireturn, 1) := by decide +kernel
theorem dX2_isVersion_0 : decode cX2_isVersion 0 = .ok (.aload_n 0, 1) := by decide +kernel
theorem dX2_isVersion_1 : decode cX2_isVersion 1 = .ok (.getfield 14, 3) := by decide +kernel
theorem dX2_isVersion_4 : decode cX2_isVersion 4 = .ok (.iload_n 1, 1) := by decide +kernel
theorem dX2_isVersion_5 : decode cX2_isVersion 5 = .ok (.invokevirtual 54, 3) := by decide +kernel
theorem dX2_isVersion_8 : decode cX2_isVersion 8 = .ok (.iload_n 2, 1) := by decide +kernel
theorem dX2_isVersion_9 : decode cX2_isVersion 9 = .ok (.if_icmp .ne 19, 3) := by decide +kernel
theorem dX2_isVersion_12 : decode cX2_isVersion 12 = .ok (.aload_n 0, 1) := by decide +kernel
theorem dX2_isVersion_13 : decode cX2_isVersion 13 = .ok (.getfield 20, 3) := by decide +kernel
theorem dX2_isVersion_16 : decode cX2_isVersion 16 = .ok (.iload_n 1, 1) := by decide +kernel
theorem dX2_isVersion_17 : decode cX2_isVersion 17 = .ok (.invokevirtual 54, 3) := by decide +kernel
theorem dX2_isVersion_20 : decode cX2_isVersion 20 = .ok (.iconst 1, 1) := by decide +kernel
theorem dX2_isVersion_21 : decode cX2_isVersion 21 = .ok (.if_icmp .ne 7, 3) := by decide +kernel
theorem dX2_isVersion_24 : decode cX2_isVersion 24 = .ok (.iconst 1, 1) := by decide +kernel
theorem dX2_isVersion_25 : decode cX2_isVersion 25 = .ok (.goto 4, 3) := by decide +kernel
theorem dX2_isVersion_28 : decode cX2_isVersion 28 = .ok (.iconst 0, 1) := by decide +kernel
theorem dX2_isVersion_29 : decode cX2_isVersion 29 = .ok (.ireturn, 1) := by decide +kernel
theorem dX2_versionsOf_0 : decode cX2_versionsOf 0 = .ok (.iconst 0, 1) := by decide +kernel
theorem dX2_versionsOf_1 : decode cX2_versionsOf 1 = .ok (.istore_n 2, 1) := by decide +kernel
theorem dX2_versionsOf_2 : decode cX2_versionsOf 2 = .ok (.iconst 1, 1) := by decide +kernel
theorem dX2_versionsOf_3 : decode cX2_versionsOf 3 = .ok (.istore_n 3, 1) := by decide +kernel
theorem dX2_versionsOf_4 : decode cX2_versionsOf 4 = .ok (.iload_n 3, 1) := by decide +kernel
theorem dX2_versionsOf_5 : decode cX2_versionsOf 5 = .ok (.aload_n 0, 1) := by decide +kernel
theorem dX2_versionsOf_6 : decode cX2_versionsOf 6 = .ok (.getfield 14, 3) := by decide +kernel
theorem dX2_versionsOf_9 : decode cX2_versionsOf 9 = .ok (.getfield 41, 3) := by decide +kernel
theorem dX2_versionsOf_12 : decode cX2_versionsOf 12 = .ok (.if_icmp .ge 21, 3) := by decide +kernel
theorem dX2_versionsOf_15 : decode cX2_versionsOf 15 = .ok (.aload_n 0, 1) := by decide +kernel
theorem dX2_versionsOf_16 : decode cX2_versionsOf 16 = .ok (.iload_n 3, 1) := by decide +kernel
theorem dX2_versionsOf_17 : decode cX2_versionsOf 17 = .ok (.iload_n 1, 1) := by decide +kernel
theorem dX2_versionsOf_18 : decode cX2_versionsOf 18 = .ok (.invokevirtual 58, 3) := by decide +kernel
theorem dX2_versionsOf_21 : decode cX2_versionsOf 21 = .ok (.ifCond .eq 6, 3) := by decide +kernel
theorem dX2_versionsOf_24 : decode cX2_versionsOf 24 = .ok (.iinc 2 1, 3) := by decide +kernel
theorem dX2_versionsOf_27 : decode cX2_versionsOf 27 = .ok (.iinc 3 1, 3) := by decide +kernel
theorem dX2_versionsOf_30 : decode cX2_versionsOf 30 = .ok (.goto (-26), 3) := by decide +kernel
theorem dX2_versionsOf_33 : decode cX2_versionsOf 33 = .ok (.iload_n 2, 1) := by decide +kernel
theorem dX2_versionsOf_34 : decode cX2_versionsOf 34 = .ok (.ireturn, 1) := by decide +kernel
theorem dX2_versionFrom_0 : decode cX2_versionFrom 0 = .ok (.iload_n 2, 1) := by decide +kernel
theorem dX2_versionFrom_1 : decode cX2_versionFrom 1 = .ok (.istore_n 3, 1) := by decide +kernel
theorem dX2_versionFrom_2 : decode cX2_versionFrom 2 = .ok (.iconst 1, 1) := by decide +kernel
theorem dX2_versionFrom_3 : decode cX2_versionFrom 3 = .ok (.istore 4, 2) := by decide +kernel
theorem dX2_versionFrom_5 : decode cX2_versionFrom 5 = .ok (.iload 4, 2) := by decide +kernel
theorem dX2_versionFrom_7 : decode cX2_versionFrom 7 = .ok (.aload_n 0, 1) := by decide +kernel
theorem dX2_versionFrom_8 : decode cX2_versionFrom 8 = .ok (.getfield 14, 3) := by decide +kernel
theorem dX2_versionFrom_11 : decode cX2_versionFrom 11 = .ok (.getfield 41, 3) := by decide +kernel
theorem dX2_versionFrom_14 : decode cX2_versionFrom 14 = .ok (.if_icmp .ge 33, 3) := by decide +kernel
theorem dX2_versionFrom_17 : decode cX2_versionFrom 17 = .ok (.iload_n 3, 1) := by decide +kernel
theorem dX2_versionFrom_18 : decode cX2_versionFrom 18 = .ok (.ifCond .lt 29, 3) := by decide +kernel
theorem dX2_versionFrom_21 : decode cX2_versionFrom 21 = .ok (.aload_n 0, 1) := by decide +kernel
theorem dX2_versionFrom_22 : decode cX2_versionFrom 22 = .ok (.iload 4, 2) := by decide +kernel
theorem dX2_versionFrom_24 : decode cX2_versionFrom 24 = .ok (.iload_n 1, 1) := by decide +kernel
theorem dX2_versionFrom_25 : decode cX2_versionFrom 25 = .ok (.invokevirtual 58, 3) := by decide +kernel
theorem dX2_versionFrom_28 : decode cX2_versionFrom 28 = .ok (.ifCond .eq 13, 3) := by decide +kernel
theorem dX2_versionFrom_31 : decode cX2_versionFrom 31 = .ok (.iload_n 3, 1) := by decide +kernel
theorem dX2_versionFrom_32 : decode cX2_versionFrom 32 = .ok (.ifCond .ne 6, 3) := by decide +kernel
theorem dX2_versionFrom_35 : decode cX2_versionFrom 35 = .ok (.iload 4, 2) := by decide +kernel
theorem dX2_versionFrom_37 : decode cX2_versionFrom 37 = .ok (.ireturn, 1) := by decide +kernel
theorem dX2_versionFrom_38 : decode cX2_versionFrom 38 = .ok (.iinc 3 (-1), 3) := by decide +kernel
theorem dX2_versionFrom_41 : decode cX2_versionFrom 41 = .ok (.iinc 4 1, 3) := by decide +kernel
theorem dX2_versionFrom_44 : decode cX2_versionFrom 44 = .ok (.goto (-39), 3) := by decide +kernel
theorem dX2_versionFrom_47 : decode cX2_versionFrom 47 = .ok (.iconst (-1), 1) := by decide +kernel
theorem dX2_versionFrom_48 : decode cX2_versionFrom 48 = .ok (.ireturn, 1) := by decide +kernel
theorem dX2_lengthOf_0 : decode cX2_lengthOf 0 = .ok (.aload_n 0, 1) := by decide +kernel
theorem dX2_lengthOf_1 : decode cX2_lengthOf 1 = .ok (.getfield 26, 3) := by decide +kernel
theorem dX2_lengthOf_4 : decode cX2_lengthOf 4 = .ok (.iload_n 1, 1) := by decide +kernel
theorem dX2_lengthOf_5 : decode cX2_lengthOf 5 = .ok (.invokevirtual 54, 3) := by decide +kernel
theorem dX2_lengthOf_8 : decode cX2_lengthOf 8 = .ok (.istore_n 2, 1) := by decide +kernel
theorem dX2_lengthOf_9 : decode cX2_lengthOf 9 = .ok (.iload_n 2, 1) := by decide +kernel
theorem dX2_lengthOf_10 : decode cX2_lengthOf 10 = .ok (.bipush (-2), 2) := by decide +kernel
theorem dX2_lengthOf_12 : decode cX2_lengthOf 12 = .ok (.if_icmp .ne 13, 3) := by decide +kernel
theorem dX2_lengthOf_15 : decode cX2_lengthOf 15 = .ok (.aload_n 0, 1) := by decide +kernel
theorem dX2_lengthOf_16 : decode cX2_lengthOf 16 = .ok (.getfield 14, 3) := by decide +kernel
theorem dX2_lengthOf_19 : decode cX2_lengthOf 19 = .ok (.getfield 41, 3) := by decide +kernel
theorem dX2_lengthOf_22 : decode cX2_lengthOf 22 = .ok (.goto 4, 3) := by decide +kernel
theorem dX2_lengthOf_25 : decode cX2_lengthOf 25 = .ok (.iload_n 2, 1) := by decide +kernel
theorem dX2_lengthOf_26 : decode cX2_lengthOf 26 = .ok (.iload_n 1, 1) := by decide +kernel
theorem dX2_lengthOf_27 : decode cX2_lengthOf 27 = .ok (.isub, 1) := by decide +kernel
theorem dX2_lengthOf_28 : decode cX2_lengthOf 28 = .ok (.ireturn, 1) := by decide +kernel
theorem dX9_init_0 : decode cX9_init 0 = .ok (.aload_n 0, 1) := by decide +kernel
theorem dX9_init_1 : decode cX9_init 1 = .ok (.invokespecial 3, 3) := by decide +kernel
theorem dX9_init_4 : decode cX9_init 4 = .ok (.aload_n 0, 1) := by decide +kernel
theorem dX9_init_5 : decode cX9_init 5 = .ok (.new 9, 3) := by decide +kernel
theorem dX9_init_8 : decode cX9_init 8 = .ok (.dup, 1) := by decide +kernel
theorem dX9_init_9 : decode cX9_init 9 = .ok (.invokespecial 11, 3) := by decide +kernel
theorem dX9_init_12 : decode cX9_init 12 = .ok (.putfield 12, 3) := by decide +kernel
theorem dX9_init_15 : decode cX9_init 15 = .ok (.aload_n 0, 1) := by decide +kernel
theorem dX9_init_16 : decode cX9_init 16 = .ok (.new 18, 3) := by decide +kernel
theorem dX9_init_19 : decode cX9_init 19 = .ok (.dup, 1) := by decide +kernel
theorem dX9_init_20 : decode cX9_init 20 = .ok (.invokespecial 20, 3) := by decide +kernel
theorem dX9_init_23 : decode cX9_init 23 = .ok (.putfield 21, 3) := by decide +kernel
theorem dX9_init_26 : decode cX9_init 26 = .ok (.aload_n 0, 1) := by decide +kernel
theorem dX9_init_27 : decode cX9_init 27 = .ok (.new 25, 3) := by decide +kernel
theorem dX9_init_30 : decode cX9_init 30 = .ok (.dup, 1) := by decide +kernel
theorem dX9_init_31 : decode cX9_init 31 = .ok (.bipush 8, 2) := by decide +kernel
theorem dX9_init_33 : decode cX9_init 33 = .ok (.invokespecial 27, 3) := by decide +kernel
theorem dX9_init_36 : decode cX9_init 36 = .ok (.putfield 30, 3) := by decide +kernel
theorem dX9_init_39 : decode cX9_init 39 = .ok (.aload_n 0, 1) := by decide +kernel
theorem dX9_init_40 : decode cX9_init 40 = .ok (.new 25, 3) := by decide +kernel
theorem dX9_init_43 : decode cX9_init 43 = .ok (.dup, 1) := by decide +kernel
theorem dX9_init_44 : decode cX9_init 44 = .ok (.bipush 8, 2) := by decide +kernel
theorem dX9_init_46 : decode cX9_init 46 = .ok (.invokespecial 27, 3) := by decide +kernel
theorem dX9_init_49 : decode cX9_init 49 = .ok (.putfield 34, 3) := by decide +kernel
theorem dX9_init_52 : decode cX9_init 52 = .ok (.aload_n 0, 1) := by decide +kernel
theorem dX9_init_53 : decode cX9_init 53 = .ok (.iconst 0, 1) := by decide +kernel
theorem dX9_init_54 : decode cX9_init 54 = .ok (.putfield 37, 3) := by decide +kernel
theorem dX9_init_57 : decode cX9_init 57 = .ok (.return_, 1) := by decide +kernel
theorem dX9_reset_0 : decode cX9_reset 0 = .ok (.aload_n 0, 1) := by decide +kernel
theorem dX9_reset_1 : decode cX9_reset 1 = .ok (.getfield 12, 3) := by decide +kernel
theorem dX9_reset_4 : decode cX9_reset 4 = .ok (.iload_n 1, 1) := by decide +kernel
theorem dX9_reset_5 : decode cX9_reset 5 = .ok (.invokevirtual 41, 3) := by decide +kernel
theorem dX9_reset_8 : decode cX9_reset 8 = .ok (.aload_n 0, 1) := by decide +kernel
theorem dX9_reset_9 : decode cX9_reset 9 = .ok (.getfield 21, 3) := by decide +kernel
theorem dX9_reset_12 : decode cX9_reset 12 = .ok (.invokevirtual 44, 3) := by decide +kernel
theorem dX9_reset_15 : decode cX9_reset 15 = .ok (.aload_n 0, 1) := by decide +kernel
theorem dX9_reset_16 : decode cX9_reset 16 = .ok (.getfield 30, 3) := by decide +kernel
theorem dX9_reset_19 : decode cX9_reset 19 = .ok (.iconst 0, 1) := by decide +kernel
theorem dX9_reset_20 : decode cX9_reset 20 = .ok (.invokevirtual 46, 3) := by decide +kernel
theorem dX9_reset_23 : decode cX9_reset 23 = .ok (.aload_n 0, 1) := by decide +kernel
theorem dX9_reset_24 : decode cX9_reset 24 = .ok (.getfield 34, 3) := by decide +kernel
theorem dX9_reset_27 : decode cX9_reset 27 = .ok (.iconst 0, 1) := by decide +kernel
theorem dX9_reset_28 : decode cX9_reset 28 = .ok (.invokevirtual 46, 3) := by decide +kernel
theorem dX9_reset_31 : decode cX9_reset 31 = .ok (.aload_n 0, 1) := by decide +kernel
theorem dX9_reset_32 : decode cX9_reset 32 = .ok (.aload_n 0, 1) := by decide +kernel
theorem dX9_reset_33 : decode cX9_reset 33 = .ok (.getfield 12, 3) := by decide +kernel
theorem dX9_reset_36 : decode cX9_reset 36 = .ok (.iconst 1, 1) := by decide +kernel
theorem dX9_reset_37 : decode cX9_reset 37 = .ok (.iconst 0, 1) := by decide +kernel
theorem dX9_reset_38 : decode cX9_reset 38 = .ok (.invokevirtual 49, 3) := by decide +kernel
theorem dX9_reset_41 : decode cX9_reset 41 = .ok (.iconst 0, 1) := by decide +kernel
theorem dX9_reset_42 : decode cX9_reset 42 = .ok (.invokevirtual 53, 3) := by decide +kernel
theorem dX9_reset_45 : decode cX9_reset 45 = .ok (.return_, 1) := by decide +kernel
theorem dX9_copyFrom_0 : decode cX9_copyFrom 0 = .ok (.aload_n 0, 1) := by decide +kernel
theorem dX9_copyFrom_1 : decode cX9_copyFrom 1 = .ok (.getfield 12, 3) := by decide +kernel
theorem dX9_copyFrom_4 : decode cX9_copyFrom 4 = .ok (.aload_n 1, 1) := by decide +kernel
theorem dX9_copyFrom_5 : decode cX9_copyFrom 5 = .ok (.getfield 12, 3) := by decide +kernel
theorem dX9_copyFrom_8 : decode cX9_copyFrom 8 = .ok (.invokevirtual 57, 3) := by decide +kernel
theorem dX9_copyFrom_11 : decode cX9_copyFrom 11 = .ok (.aload_n 0, 1) := by decide +kernel
theorem dX9_copyFrom_12 : decode cX9_copyFrom 12 = .ok (.getfield 21, 3) := by decide +kernel
theorem dX9_copyFrom_15 : decode cX9_copyFrom 15 = .ok (.aload_n 1, 1) := by decide +kernel
theorem dX9_copyFrom_16 : decode cX9_copyFrom 16 = .ok (.getfield 21, 3) := by decide +kernel
theorem dX9_copyFrom_19 : decode cX9_copyFrom 19 = .ok (.invokevirtual 61, 3) := by decide +kernel
theorem dX9_copyFrom_22 : decode cX9_copyFrom 22 = .ok (.aload_n 0, 1) := by decide +kernel
theorem dX9_copyFrom_23 : decode cX9_copyFrom 23 = .ok (.getfield 30, 3) := by decide +kernel
theorem dX9_copyFrom_26 : decode cX9_copyFrom 26 = .ok (.aload_n 1, 1) := by decide +kernel
theorem dX9_copyFrom_27 : decode cX9_copyFrom 27 = .ok (.getfield 30, 3) := by decide +kernel
theorem dX9_copyFrom_30 : decode cX9_copyFrom 30 = .ok (.invokevirtual 64, 3) := by decide +kernel
theorem dX9_copyFrom_33 : decode cX9_copyFrom 33 = .ok (.aload_n 0, 1) := by decide +kernel
theorem dX9_copyFrom_34 : decode cX9_copyFrom 34 = .ok (.getfield 34, 3) := by decide +kernel
theorem dX9_copyFrom_37 : decode cX9_copyFrom 37 = .ok (.aload_n 1, 1) := by decide +kernel
theorem dX9_copyFrom_38 : decode cX9_copyFrom 38 = .ok (.getfield 34, 3) := by decide +kernel
theorem dX9_copyFrom_41 : decode cX9_copyFrom 41 = .ok (.invokevirtual 64, 3) := by decide +kernel
theorem dX9_copyFrom_44 : decode cX9_copyFrom 44 = .ok (.return_, 1) := by decide +kernel
theorem dX9_addRoot_0 : decode cX9_addRoot 0 = .ok (.aload_n 0, 1) := by decide +kernel
theorem dX9_addRoot_1 : decode cX9_addRoot 1 = .ok (.getfield 30, 3) := by decide +kernel
theorem dX9_addRoot_4 : decode cX9_addRoot 4 = .ok (.iload_n 2, 1) := by decide +kernel
theorem dX9_addRoot_5 : decode cX9_addRoot 5 = .ok (.invokevirtual 67, 3) := by decide +kernel
theorem dX9_addRoot_8 : decode cX9_addRoot 8 = .ok (.aload_n 0, 1) := by decide +kernel
theorem dX9_addRoot_9 : decode cX9_addRoot 9 = .ok (.getfield 34, 3) := by decide +kernel
theorem dX9_addRoot_12 : decode cX9_addRoot 12 = .ok (.iload_n 1, 1) := by decide +kernel
theorem dX9_addRoot_13 : decode cX9_addRoot 13 = .ok (.invokevirtual 67, 3) := by decide +kernel
theorem dX9_addRoot_16 : decode cX9_addRoot 16 = .ok (.return_, 1) := by decide +kernel
theorem dX9_rootAt_0 : decode cX9_rootAt 0 = .ok (.aload_n 0, 1) := by decide +kernel
theorem dX9_rootAt_1 : decode cX9_rootAt 1 = .ok (.getfield 30, 3) := by decide +kernel
theorem dX9_rootAt_4 : decode cX9_rootAt 4 = .ok (.getfield 70, 3) := by decide +kernel
theorem dX9_rootAt_7 : decode cX9_rootAt 7 = .ok (.iconst 1, 1) := by decide +kernel
theorem dX9_rootAt_8 : decode cX9_rootAt 8 = .ok (.isub, 1) := by decide +kernel
theorem dX9_rootAt_9 : decode cX9_rootAt 9 = .ok (.istore_n 2, 1) := by decide +kernel
theorem dX9_rootAt_10 : decode cX9_rootAt 10 = .ok (.iload_n 2, 1) := by decide +kernel
theorem dX9_rootAt_11 : decode cX9_rootAt 11 = .ok (.ifCond .le 30, 3) := by decide +kernel
theorem dX9_rootAt_14 : decode cX9_rootAt 14 = .ok (.aload_n 0, 1) := by decide +kernel
theorem dX9_rootAt_15 : decode cX9_rootAt 15 = .ok (.getfield 30, 3) := by decide +kernel
theorem dX9_rootAt_18 : decode cX9_rootAt 18 = .ok (.iload_n 2, 1) := by decide +kernel
theorem dX9_rootAt_19 : decode cX9_rootAt 19 = .ok (.invokevirtual 74, 3) := by decide +kernel
theorem dX9_rootAt_22 : decode cX9_rootAt 22 = .ok (.iload_n 1, 1) := by decide +kernel
theorem dX9_rootAt_23 : decode cX9_rootAt 23 = .ok (.if_icmp .gt 12, 3) := by decide +kernel
theorem dX9_rootAt_26 : decode cX9_rootAt 26 = .ok (.aload_n 0, 1) := by decide +kernel
theorem dX9_rootAt_27 : decode cX9_rootAt 27 = .ok (.getfield 34, 3) := by decide +kernel
theorem dX9_rootAt_30 : decode cX9_rootAt 30 = .ok (.iload_n 2, 1) := by decide +kernel
theorem dX9_rootAt_31 : decode cX9_rootAt 31 = .ok (.invokevirtual 74, 3) := by decide +kernel
theorem dX9_rootAt_34 : decode cX9_rootAt 34 = .ok (.ireturn, 1) := by decide +kernel
theorem dX9_rootAt_35 : decode cX9_rootAt 35 = .ok (.iinc 2 (-1), 3) := by decide +kernel
theorem dX9_rootAt_38 : decode cX9_rootAt 38 = .ok (.goto (-28), 3) := by decide +kernel
theorem dX9_rootAt_41 : decode cX9_rootAt 41 = .ok (.aload_n 0, 1) := by decide +kernel
theorem dX9_rootAt_42 : decode cX9_rootAt 42 = .ok (.getfield 34, 3) := by decide +kernel
theorem dX9_rootAt_45 : decode cX9_rootAt 45 = .ok (.iconst 0, 1) := by decide +kernel
theorem dX9_rootAt_46 : decode cX9_rootAt 46 = .ok (.invokevirtual 74, 3) := by decide +kernel
theorem dX9_rootAt_49 : decode cX9_rootAt 49 = .ok (.ireturn, 1) := by decide +kernel
theorem dX9_trace_0 : decode cX9_trace 0 = .ok (.aload_n 1, 1) := by decide +kernel
theorem dX9_trace_1 : decode cX9_trace 1 = .ok (.iconst 0, 1) := by decide +kernel
theorem dX9_trace_2 : decode cX9_trace 2 = .ok (.invokevirtual 46, 3) := by decide +kernel
theorem dX9_trace_5 : decode cX9_trace 5 = .ok (.aload_n 0, 1) := by decide +kernel
theorem dX9_trace_6 : decode cX9_trace 6 = .ok (.iload_n 3, 1) := by decide +kernel
theorem dX9_trace_7 : decode cX9_trace 7 = .ok (.invokevirtual 78, 3) := by decide +kernel
theorem dX9_trace_10 : decode cX9_trace 10 = .ok (.istore 4, 2) := by decide +kernel
theorem dX9_trace_12 : decode cX9_trace 12 = .ok (.aload_n 1, 1) := by decide +kernel
theorem dX9_trace_13 : decode cX9_trace 13 = .ok (.iload 4, 2) := by decide +kernel
theorem dX9_trace_15 : decode cX9_trace 15 = .ok (.invokevirtual 67, 3) := by decide +kernel
theorem dX9_trace_18 : decode cX9_trace 18 = .ok (.iconst 1, 1) := by decide +kernel
theorem dX9_trace_19 : decode cX9_trace 19 = .ok (.istore 5, 2) := by decide +kernel
theorem dX9_trace_21 : decode cX9_trace 21 = .ok (.iload 5, 2) := by decide +kernel
theorem dX9_trace_23 : decode cX9_trace 23 = .ok (.bipush 40, 2) := by decide +kernel
theorem dX9_trace_25 : decode cX9_trace 25 = .ok (.if_icmp .ge 50, 3) := by decide +kernel
theorem dX9_trace_28 : decode cX9_trace 28 = .ok (.aload_n 0, 1) := by decide +kernel
theorem dX9_trace_29 : decode cX9_trace 29 = .ok (.getfield 12, 3) := by decide +kernel
theorem dX9_trace_32 : decode cX9_trace 32 = .ok (.iload 4, 2) := by decide +kernel
theorem dX9_trace_34 : decode cX9_trace 34 = .ok (.invokevirtual 81, 3) := by decide +kernel
theorem dX9_trace_37 : decode cX9_trace 37 = .ok (.ifCond .ne 38, 3) := by decide +kernel
theorem dX9_trace_40 : decode cX9_trace 40 = .ok (.aload_n 0, 1) := by decide +kernel
theorem dX9_trace_41 : decode cX9_trace 41 = .ok (.getfield 12, 3) := by decide +kernel
theorem dX9_trace_44 : decode cX9_trace 44 = .ok (.getfield 85, 3) := by decide +kernel
theorem dX9_trace_47 : decode cX9_trace 47 = .ok (.aload_n 0, 1) := by decide +kernel
theorem dX9_trace_48 : decode cX9_trace 48 = .ok (.getfield 12, 3) := by decide +kernel
theorem dX9_trace_51 : decode cX9_trace 51 = .ok (.iload 4, 2) := by decide +kernel
theorem dX9_trace_53 : decode cX9_trace 53 = .ok (.iload_n 2, 1) := by decide +kernel
theorem dX9_trace_54 : decode cX9_trace 54 = .ok (.iload_n 3, 1) := by decide +kernel
theorem dX9_trace_55 : decode cX9_trace 55 = .ok (.invokevirtual 88, 3) := by decide +kernel
theorem dX9_trace_58 : decode cX9_trace 58 = .ok (.invokevirtual 74, 3) := by decide +kernel
theorem dX9_trace_61 : decode cX9_trace 61 = .ok (.istore 4, 2) := by decide +kernel
theorem dX9_trace_63 : decode cX9_trace 63 = .ok (.aload_n 1, 1) := by decide +kernel
theorem dX9_trace_64 : decode cX9_trace 64 = .ok (.iload 4, 2) := by decide +kernel
theorem dX9_trace_66 : decode cX9_trace 66 = .ok (.invokevirtual 67, 3) := by decide +kernel
theorem dX9_trace_69 : decode cX9_trace 69 = .ok (.iinc 5 1, 3) := by decide +kernel
theorem dX9_trace_72 : decode cX9_trace 72 = .ok (.goto (-51), 3) := by decide +kernel
theorem dX9_trace_75 : decode cX9_trace 75 = .ok (.return_, 1) := by decide +kernel
theorem dX0_init_0 : decode cX0_init 0 = .ok (.aload_n 0, 1) := by decide +kernel
theorem dX0_init_1 : decode cX0_init 1 = .ok (.invokespecial 1, 3) := by decide +kernel
theorem dX0_init_4 : decode cX0_init 4 = .ok (.aload_n 0, 1) := by decide +kernel
theorem dX0_init_5 : decode cX0_init 5 = .ok (.bipush 32, 2) := by decide +kernel
theorem dX0_init_7 : decode cX0_init 7 = .ok (.newarray .int, 2) := by decide +kernel
theorem dX0_init_9 : decode cX0_init 9 = .ok (.putfield 9, 3) := by decide +kernel
theorem dX0_init_12 : decode cX0_init 12 = .ok (.aload_n 0, 1) := by decide +kernel
theorem dX0_init_13 : decode cX0_init 13 = .ok (.bipush 32, 2) := by decide +kernel
theorem dX0_init_15 : decode cX0_init 15 = .ok (.newarray .int, 2) := by decide +kernel
theorem dX0_init_17 : decode cX0_init 17 = .ok (.putfield 13, 3) := by decide +kernel
theorem dX0_init_20 : decode cX0_init 20 = .ok (.aload_n 0, 1) := by decide +kernel
theorem dX0_init_21 : decode cX0_init 21 = .ok (.bipush 32, 2) := by decide +kernel
theorem dX0_init_23 : decode cX0_init 23 = .ok (.newarray .int, 2) := by decide +kernel
theorem dX0_init_25 : decode cX0_init 25 = .ok (.putfield 16, 3) := by decide +kernel
theorem dX0_init_28 : decode cX0_init 28 = .ok (.aload_n 0, 1) := by decide +kernel
theorem dX0_init_29 : decode cX0_init 29 = .ok (.iconst 0, 1) := by decide +kernel
theorem dX0_init_30 : decode cX0_init 30 = .ok (.putfield 19, 3) := by decide +kernel
theorem dX0_init_33 : decode cX0_init 33 = .ok (.return_, 1) := by decide +kernel
theorem dX0_insert_0 : decode cX0_insert 0 = .ok (.aload_n 0, 1) := by decide +kernel
theorem dX0_insert_1 : decode cX0_insert 1 = .ok (.getfield 19, 3) := by decide +kernel
theorem dX0_insert_4 : decode cX0_insert 4 = .ok (.ifCond .lt 12, 3) := by decide +kernel
theorem dX0_insert_7 : decode cX0_insert 7 = .ok (.aload_n 0, 1) := by decide +kernel
theorem dX0_insert_8 : decode cX0_insert 8 = .ok (.getfield 19, 3) := by decide +kernel
theorem dX0_insert_11 : decode cX0_insert 11 = .ok (.bipush 32, 2) := by decide +kernel
theorem dX0_insert_13 : decode cX0_insert 13 = .ok (.if_icmp .lt 4, 3) := by decide +kernel
theorem dX0_insert_16 : decode cX0_insert 16 = .ok (.return_, 1) := by decide +kernel
theorem dX0_insert_17 : decode cX0_insert 17 = .ok (.aload_n 0, 1) := by decide +kernel
theorem dX0_insert_18 : decode cX0_insert 18 = .ok (.getfield 19, 3) := by decide +kernel
theorem dX0_insert_21 : decode cX0_insert 21 = .ok (.istore 4, 2) := by decide +kernel
theorem dX0_insert_23 : decode cX0_insert 23 = .ok (.iload 4, 2) := by decide +kernel
theorem dX0_insert_25 : decode cX0_insert 25 = .ok (.ifCond .le 70, 3) := by decide +kernel
theorem dX0_insert_28 : decode cX0_insert 28 = .ok (.aload_n 0, 1) := by decide +kernel
theorem dX0_insert_29 : decode cX0_insert 29 = .ok (.getfield 9, 3) := by decide +kernel
theorem dX0_insert_32 : decode cX0_insert 32 = .ok (.iload 4, 2) := by decide +kernel
theorem dX0_insert_34 : decode cX0_insert 34 = .ok (.iconst 1, 1) := by decide +kernel
theorem dX0_insert_35 : decode cX0_insert 35 = .ok (.isub, 1) := by decide +kernel
theorem dX0_insert_36 : decode cX0_insert 36 = .ok (.iaload, 1) := by decide +kernel
theorem dX0_insert_37 : decode cX0_insert 37 = .ok (.iload_n 1, 1) := by decide +kernel
theorem dX0_insert_38 : decode cX0_insert 38 = .ok (.if_icmp .le 57, 3) := by decide +kernel
theorem dX0_insert_41 : decode cX0_insert 41 = .ok (.aload_n 0, 1) := by decide +kernel
theorem dX0_insert_42 : decode cX0_insert 42 = .ok (.getfield 9, 3) := by decide +kernel
theorem dX0_insert_45 : decode cX0_insert 45 = .ok (.iload 4, 2) := by decide +kernel
theorem dX0_insert_47 : decode cX0_insert 47 = .ok (.aload_n 0, 1) := by decide +kernel
theorem dX0_insert_48 : decode cX0_insert 48 = .ok (.getfield 9, 3) := by decide +kernel
theorem dX0_insert_51 : decode cX0_insert 51 = .ok (.iload 4, 2) := by decide +kernel
theorem dX0_insert_53 : decode cX0_insert 53 = .ok (.iconst 1, 1) := by decide +kernel
theorem dX0_insert_54 : decode cX0_insert 54 = .ok (.isub, 1) := by decide +kernel
theorem dX0_insert_55 : decode cX0_insert 55 = .ok (.iaload, 1) := by decide +kernel
theorem dX0_insert_56 : decode cX0_insert 56 = .ok (.iastore, 1) := by decide +kernel
theorem dX0_insert_57 : decode cX0_insert 57 = .ok (.aload_n 0, 1) := by decide +kernel
theorem dX0_insert_58 : decode cX0_insert 58 = .ok (.getfield 13, 3) := by decide +kernel
theorem dX0_insert_61 : decode cX0_insert 61 = .ok (.iload 4, 2) := by decide +kernel
theorem dX0_insert_63 : decode cX0_insert 63 = .ok (.aload_n 0, 1) := by decide +kernel
theorem dX0_insert_64 : decode cX0_insert 64 = .ok (.getfield 13, 3) := by decide +kernel
theorem dX0_insert_67 : decode cX0_insert 67 = .ok (.iload 4, 2) := by decide +kernel
theorem dX0_insert_69 : decode cX0_insert 69 = .ok (.iconst 1, 1) := by decide +kernel
theorem dX0_insert_70 : decode cX0_insert 70 = .ok (.isub, 1) := by decide +kernel
theorem dX0_insert_71 : decode cX0_insert 71 = .ok (.iaload, 1) := by decide +kernel
theorem dX0_insert_72 : decode cX0_insert 72 = .ok (.iastore, 1) := by decide +kernel
theorem dX0_insert_73 : decode cX0_insert 73 = .ok (.aload_n 0, 1) := by decide +kernel
theorem dX0_insert_74 : decode cX0_insert 74 = .ok (.getfield 16, 3) := by decide +kernel
theorem dX0_insert_77 : decode cX0_insert 77 = .ok (.iload 4, 2) := by decide +kernel
theorem dX0_insert_79 : decode cX0_insert 79 = .ok (.aload_n 0, 1) := by decide +kernel
theorem dX0_insert_80 : decode cX0_insert 80 = .ok (.getfield 16, 3) := by decide +kernel
theorem dX0_insert_83 : decode cX0_insert 83 = .ok (.iload 4, 2) := by decide +kernel
theorem dX0_insert_85 : decode cX0_insert 85 = .ok (.iconst 1, 1) := by decide +kernel
theorem dX0_insert_86 : decode cX0_insert 86 = .ok (.isub, 1) := by decide +kernel
theorem dX0_insert_87 : decode cX0_insert 87 = .ok (.iaload, 1) := by decide +kernel
theorem dX0_insert_88 : decode cX0_insert 88 = .ok (.iastore, 1) := by decide +kernel
theorem dX0_insert_89 : decode cX0_insert 89 = .ok (.iinc 4 (-1), 3) := by decide +kernel
theorem dX0_insert_92 : decode cX0_insert 92 = .ok (.goto (-69), 3) := by decide +kernel
theorem dX0_insert_95 : decode cX0_insert 95 = .ok (.aload_n 0, 1) := by decide +kernel
theorem dX0_insert_96 : decode cX0_insert 96 = .ok (.getfield 9, 3) := by decide +kernel
theorem dX0_insert_99 : decode cX0_insert 99 = .ok (.iload 4, 2) := by decide +kernel
theorem dX0_insert_101 : decode cX0_insert 101 = .ok (.iload_n 1, 1) := by decide +kernel
theorem dX0_insert_102 : decode cX0_insert 102 = .ok (.iastore, 1) := by decide +kernel
theorem dX0_insert_103 : decode cX0_insert 103 = .ok (.aload_n 0, 1) := by decide +kernel
theorem dX0_insert_104 : decode cX0_insert 104 = .ok (.getfield 13, 3) := by decide +kernel
theorem dX0_insert_107 : decode cX0_insert 107 = .ok (.iload 4, 2) := by decide +kernel
theorem dX0_insert_109 : decode cX0_insert 109 = .ok (.iload_n 2, 1) := by decide +kernel
theorem dX0_insert_110 : decode cX0_insert 110 = .ok (.iastore, 1) := by decide +kernel
theorem dX0_insert_111 : decode cX0_insert 111 = .ok (.aload_n 0, 1) := by decide +kernel
theorem dX0_insert_112 : decode cX0_insert 112 = .ok (.getfield 16, 3) := by decide +kernel
theorem dX0_insert_115 : decode cX0_insert 115 = .ok (.iload 4, 2) := by decide +kernel
theorem dX0_insert_117 : decode cX0_insert 117 = .ok (.iload_n 3, 1) := by decide +kernel
theorem dX0_insert_118 : decode cX0_insert 118 = .ok (.iastore, 1) := by decide +kernel
theorem dX0_insert_119 : decode cX0_insert 119 = .ok (.aload_n 0, 1) := by decide +kernel
theorem dX0_insert_120 : decode cX0_insert 120 = .ok (.dup, 1) := by decide +kernel
theorem dX0_insert_121 : decode cX0_insert 121 = .ok (.getfield 19, 3) := by decide +kernel
theorem dX0_insert_124 : decode cX0_insert 124 = .ok (.iconst 1, 1) := by decide +kernel
theorem dX0_insert_125 : decode cX0_insert 125 = .ok (.iadd, 1) := by decide +kernel
theorem dX0_insert_126 : decode cX0_insert 126 = .ok (.putfield 19, 3) := by decide +kernel
theorem dX0_insert_129 : decode cX0_insert 129 = .ok (.return_, 1) := by decide +kernel
