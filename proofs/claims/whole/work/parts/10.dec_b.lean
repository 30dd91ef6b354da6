theorem dX1_init_0 : decode cX1_init 0 = .ok (.aload_n 0, 1) := by decide +kernel
theorem dX1_init_1 : decode cX1_init 1 = .ok (.invokespecial 3, 3) := by decide +kernel
theorem dX1_init_4 : decode cX1_init 4 = .ok (.aload_n 0, 1) := by decide +kernel
theorem dX1_init_5 : decode cX1_init 5 = .ok (.aload_n 1, 1) := by decide +kernel
theorem dX1_init_6 : decode cX1_init 6 = .ok (.putfield 9, 3) := by decide +kernel
theorem dX1_init_9 : decode cX1_init 9 = .ok (.aload_n 0, 1) := by decide +kernel
theorem dX1_init_10 : decode cX1_init 10 = .ok (.aload_n 1, 1) := by decide +kernel
theorem dX1_init_11 : decode cX1_init 11 = .ok (.getfield 15, 3) := by decide +kernel
theorem dX1_init_14 : decode cX1_init 14 = .ok (.putfield 21, 3) := by decide +kernel
theorem dX1_init_17 : decode cX1_init 17 = .ok (.aload_n 0, 1) := by decide +kernel
theorem dX1_init_18 : decode cX1_init 18 = .ok (.new 22, 3) := by decide +kernel
theorem dX1_init_21 : decode cX1_init 21 = .ok (.dup, 1) := by decide +kernel
theorem dX1_init_22 : decode cX1_init 22 = .ok (.bipush 40, 2) := by decide +kernel
theorem dX1_init_24 : decode cX1_init 24 = .ok (.invokespecial 24, 3) := by decide +kernel
theorem dX1_init_27 : decode cX1_init 27 = .ok (.putfield 27, 3) := by decide +kernel
theorem dX1_init_30 : decode cX1_init 30 = .ok (.aload_n 0, 1) := by decide +kernel
theorem dX1_init_31 : decode cX1_init 31 = .ok (.new 31, 3) := by decide +kernel
theorem dX1_init_34 : decode cX1_init 34 = .ok (.dup, 1) := by decide +kernel
theorem dX1_init_35 : decode cX1_init 35 = .ok (.invokespecial 33, 3) := by decide +kernel
theorem dX1_init_38 : decode cX1_init 38 = .ok (.putfield 34, 3) := by decide +kernel
theorem dX1_init_41 : decode cX1_init 41 = .ok (.return_, 1) := by decide +kernel
theorem dX1_bring_0 : decode cX1_bring 0 = .ok (.aload_n 0, 1) := by decide +kernel
theorem dX1_bring_1 : decode cX1_bring 1 = .ok (.getfield 21, 3) := by decide +kernel
theorem dX1_bring_4 : decode cX1_bring 4 = .ok (.getfield 38, 3) := by decide +kernel
theorem dX1_bring_7 : decode cX1_bring 7 = .ok (.getfield 43, 3) := by decide +kernel
theorem dX1_bring_10 : decode cX1_bring 10 = .ok (.sipush 280, 3) := by decide +kernel
theorem dX1_bring_13 : decode cX1_bring 13 = .ok (.if_icmp .lt 5, 3) := by decide +kernel
theorem dX1_bring_16 : decode cX1_bring 16 = .ok (.iconst 0, 1) := by decide +kernel
theorem dX1_bring_17 : decode cX1_bring 17 = .ok (.ireturn, 1) := by decide +kernel
theorem dX1_bring_18 : decode cX1_bring 18 = .ok (.aload_n 0, 1) := by decide +kernel
theorem dX1_bring_19 : decode cX1_bring 19 = .ok (.getfield 9, 3) := by decide +kernel
theorem dX1_bring_22 : decode cX1_bring 22 = .ok (.getfield 47, 3) := by decide +kernel
theorem dX1_bring_25 : decode cX1_bring 25 = .ok (.iconst 1, 1) := by decide +kernel
theorem dX1_bring_26 : decode cX1_bring 26 = .ok (.iload_n 1, 1) := by decide +kernel
theorem dX1_bring_27 : decode cX1_bring 27 = .ok (.iload_n 2, 1) := by decide +kernel
theorem dX1_bring_28 : decode cX1_bring 28 = .ok (.invokevirtual 51, 3) := by decide +kernel
theorem dX1_bring_31 : decode cX1_bring 31 = .ok (.istore_n 3, 1) := by decide +kernel
theorem dX1_bring_32 : decode cX1_bring 32 = .ok (.aload_n 0, 1) := by decide +kernel
theorem dX1_bring_33 : decode cX1_bring 33 = .ok (.iload_n 1, 1) := by decide +kernel
theorem dX1_bring_34 : decode cX1_bring 34 = .ok (.iload_n 3, 1) := by decide +kernel
theorem dX1_bring_35 : decode cX1_bring 35 = .ok (.invokevirtual 57, 3) := by decide +kernel
theorem dX1_bring_38 : decode cX1_bring 38 = .ok (.istore 4, 2) := by decide +kernel
theorem dX1_bring_40 : decode cX1_bring 40 = .ok (.aload_n 0, 1) := by decide +kernel
theorem dX1_bring_41 : decode cX1_bring 41 = .ok (.getfield 21, 3) := by decide +kernel
theorem dX1_bring_44 : decode cX1_bring 44 = .ok (.getfield 61, 3) := by decide +kernel
theorem dX1_bring_47 : decode cX1_bring 47 = .ok (.iload 4, 2) := by decide +kernel
theorem dX1_bring_49 : decode cX1_bring 49 = .ok (.invokevirtual 64, 3) := by decide +kernel
theorem dX1_bring_52 : decode cX1_bring 52 = .ok (.aload_n 0, 1) := by decide +kernel
theorem dX1_bring_53 : decode cX1_bring 53 = .ok (.getfield 21, 3) := by decide +kernel
theorem dX1_bring_56 : decode cX1_bring 56 = .ok (.getfield 68, 3) := by decide +kernel
theorem dX1_bring_59 : decode cX1_bring 59 = .ok (.if_icmp .ge 18, 3) := by decide +kernel
theorem dX1_bring_62 : decode cX1_bring 62 = .ok (.aload_n 0, 1) := by decide +kernel
theorem dX1_bring_63 : decode cX1_bring 63 = .ok (.getfield 21, 3) := by decide +kernel
theorem dX1_bring_66 : decode cX1_bring 66 = .ok (.iload 4, 2) := by decide +kernel
theorem dX1_bring_68 : decode cX1_bring 68 = .ok (.iload_n 1, 1) := by decide +kernel
theorem dX1_bring_69 : decode cX1_bring 69 = .ok (.iload_n 2, 1) := by decide +kernel
theorem dX1_bring_70 : decode cX1_bring 70 = .ok (.iload_n 3, 1) := by decide +kernel
theorem dX1_bring_71 : decode cX1_bring 71 = .ok (.invokevirtual 71, 3) := by decide +kernel
theorem dX1_bring_74 : decode cX1_bring 74 = .ok (.goto 33, 3) := by decide +kernel
theorem dX1_bring_77 : decode cX1_bring 77 = .ok (.aload_n 0, 1) := by decide +kernel
theorem dX1_bring_78 : decode cX1_bring 78 = .ok (.getfield 34, 3) := by decide +kernel
theorem dX1_bring_81 : decode cX1_bring 81 = .ok (.iconst 0, 1) := by decide +kernel
theorem dX1_bring_82 : decode cX1_bring 82 = .ok (.putfield 75, 3) := by decide +kernel
theorem dX1_bring_85 : decode cX1_bring 85 = .ok (.aload_n 0, 1) := by decide +kernel
theorem dX1_bring_86 : decode cX1_bring 86 = .ok (.iload 4, 2) := by decide +kernel
theorem dX1_bring_88 : decode cX1_bring 88 = .ok (.iload_n 3, 1) := by decide +kernel
theorem dX1_bring_89 : decode cX1_bring 89 = .ok (.invokevirtual 76, 3) := by decide +kernel
theorem dX1_bring_92 : decode cX1_bring 92 = .ok (.aload_n 0, 1) := by decide +kernel
theorem dX1_bring_93 : decode cX1_bring 93 = .ok (.getfield 34, 3) := by decide +kernel
theorem dX1_bring_96 : decode cX1_bring 96 = .ok (.iload_n 1, 1) := by decide +kernel
theorem dX1_bring_97 : decode cX1_bring 97 = .ok (.iload_n 2, 1) := by decide +kernel
theorem dX1_bring_98 : decode cX1_bring 98 = .ok (.iload_n 3, 1) := by decide +kernel
theorem dX1_bring_99 : decode cX1_bring 99 = .ok (.invokevirtual 80, 3) := by decide +kernel
theorem dX1_bring_102 : decode cX1_bring 102 = .ok (.aload_n 0, 1) := by decide +kernel
theorem dX1_bring_103 : decode cX1_bring 103 = .ok (.iload_n 3, 1) := by decide +kernel
theorem dX1_bring_104 : decode cX1_bring 104 = .ok (.invokevirtual 84, 3) := by decide +kernel
theorem dX1_bring_107 : decode cX1_bring 107 = .ok (.iconst 1, 1) := by decide +kernel
theorem dX1_bring_108 : decode cX1_bring 108 = .ok (.ireturn, 1) := by decide +kernel
theorem dX1_drop_0 : decode cX1_drop 0 = .ok (.aload_n 0, 1) := by decide +kernel
theorem dX1_drop_1 : decode cX1_drop 1 = .ok (.getfield 9, 3) := by decide +kernel
theorem dX1_drop_4 : decode cX1_drop 4 = .ok (.getfield 47, 3) := by decide +kernel
theorem dX1_drop_7 : decode cX1_drop 7 = .ok (.astore_n 2, 1) := by decide +kernel
theorem dX1_drop_8 : decode cX1_drop 8 = .ok (.aload_n 0, 1) := by decide +kernel
theorem dX1_drop_9 : decode cX1_drop 9 = .ok (.getfield 21, 3) := by decide +kernel
theorem dX1_drop_12 : decode cX1_drop 12 = .ok (.getfield 38, 3) := by decide +kernel
theorem dX1_drop_15 : decode cX1_drop 15 = .ok (.getfield 43, 3) := by decide +kernel
theorem dX1_drop_18 : decode cX1_drop 18 = .ok (.sipush 280, 3) := by decide +kernel
theorem dX1_drop_21 : decode cX1_drop 21 = .ok (.if_icmp .ge 16, 3) := by decide +kernel
theorem dX1_drop_24 : decode cX1_drop 24 = .ok (.aload_n 2, 1) := by decide +kernel
theorem dX1_drop_25 : decode cX1_drop 25 = .ok (.iload_n 1, 1) := by decide +kernel
theorem dX1_drop_26 : decode cX1_drop 26 = .ok (.aload_n 2, 1) := by decide +kernel
theorem dX1_drop_27 : decode cX1_drop 27 = .ok (.invokevirtual 87, 3) := by decide +kernel
theorem dX1_drop_30 : decode cX1_drop 30 = .ok (.invokevirtual 91, 3) := by decide +kernel
theorem dX1_drop_33 : decode cX1_drop 33 = .ok (.iconst (-1), 1) := by decide +kernel
theorem dX1_drop_34 : decode cX1_drop 34 = .ok (.if_icmp .ne 5, 3) := by decide +kernel
theorem dX1_drop_37 : decode cX1_drop 37 = .ok (.iconst 0, 1) := by decide +kernel
theorem dX1_drop_38 : decode cX1_drop 38 = .ok (.ireturn, 1) := by decide +kernel
theorem dX1_drop_39 : decode cX1_drop 39 = .ok (.aload_n 2, 1) := by decide +kernel
theorem dX1_drop_40 : decode cX1_drop 40 = .ok (.iconst 0, 1) := by decide +kernel
theorem dX1_drop_41 : decode cX1_drop 41 = .ok (.iload_n 1, 1) := by decide +kernel
theorem dX1_drop_42 : decode cX1_drop 42 = .ok (.iconst 0, 1) := by decide +kernel
theorem dX1_drop_43 : decode cX1_drop 43 = .ok (.invokevirtual 51, 3) := by decide +kernel
theorem dX1_drop_46 : decode cX1_drop 46 = .ok (.istore_n 3, 1) := by decide +kernel
theorem dX1_drop_47 : decode cX1_drop 47 = .ok (.aload_n 0, 1) := by decide +kernel
theorem dX1_drop_48 : decode cX1_drop 48 = .ok (.iload_n 1, 1) := by decide +kernel
theorem dX1_drop_49 : decode cX1_drop 49 = .ok (.iload_n 3, 1) := by decide +kernel
theorem dX1_drop_50 : decode cX1_drop 50 = .ok (.invokevirtual 57, 3) := by decide +kernel
theorem dX1_drop_53 : decode cX1_drop 53 = .ok (.istore 4, 2) := by decide +kernel
theorem dX1_drop_55 : decode cX1_drop 55 = .ok (.aload_n 0, 1) := by decide +kernel
theorem dX1_drop_56 : decode cX1_drop 56 = .ok (.getfield 27, 3) := by decide +kernel
theorem dX1_drop_59 : decode cX1_drop 59 = .ok (.getfield 43, 3) := by decide +kernel
theorem dX1_drop_62 : decode cX1_drop 62 = .ok (.iconst 1, 1) := by decide +kernel
theorem dX1_drop_63 : decode cX1_drop 63 = .ok (.if_icmp .le 43, 3) := by decide +kernel
theorem dX1_drop_66 : decode cX1_drop 66 = .ok (.aload_n 0, 1) := by decide +kernel
theorem dX1_drop_67 : decode cX1_drop 67 = .ok (.getfield 21, 3) := by decide +kernel
theorem dX1_drop_70 : decode cX1_drop 70 = .ok (.iload 4, 2) := by decide +kernel
theorem dX1_drop_72 : decode cX1_drop 72 = .ok (.iload_n 3, 1) := by decide +kernel
theorem dX1_drop_73 : decode cX1_drop 73 = .ok (.invokevirtual 94, 3) := by decide +kernel
theorem dX1_drop_76 : decode cX1_drop 76 = .ok (.aload_n 0, 1) := by decide +kernel
theorem dX1_drop_77 : decode cX1_drop 77 = .ok (.getfield 21, 3) := by decide +kernel
theorem dX1_drop_80 : decode cX1_drop 80 = .ok (.invokevirtual 97, 3) := by decide +kernel
theorem dX1_drop_83 : decode cX1_drop 83 = .ok (.if_icmp .ge 23, 3) := by decide +kernel
theorem dX1_drop_86 : decode cX1_drop 86 = .ok (.aload_n 0, 1) := by decide +kernel
theorem dX1_drop_87 : decode cX1_drop 87 = .ok (.getfield 34, 3) := by decide +kernel
theorem dX1_drop_90 : decode cX1_drop 90 = .ok (.iconst 0, 1) := by decide +kernel
theorem dX1_drop_91 : decode cX1_drop 91 = .ok (.putfield 75, 3) := by decide +kernel
theorem dX1_drop_94 : decode cX1_drop 94 = .ok (.aload_n 0, 1) := by decide +kernel
theorem dX1_drop_95 : decode cX1_drop 95 = .ok (.iload 4, 2) := by decide +kernel
theorem dX1_drop_97 : decode cX1_drop 97 = .ok (.iload_n 3, 1) := by decide +kernel
theorem dX1_drop_98 : decode cX1_drop 98 = .ok (.invokevirtual 76, 3) := by decide +kernel
theorem dX1_drop_101 : decode cX1_drop 101 = .ok (.aload_n 0, 1) := by decide +kernel
theorem dX1_drop_102 : decode cX1_drop 102 = .ok (.iload_n 3, 1) := by decide +kernel
theorem dX1_drop_103 : decode cX1_drop 103 = .ok (.invokevirtual 84, 3) := by decide +kernel
theorem dX1_drop_106 : decode cX1_drop 106 = .ok (.iconst 1, 1) := by decide +kernel
theorem dX1_drop_107 : decode cX1_drop 107 = .ok (.ireturn, 1) := by decide +kernel
theorem dX1_endLiving_0 : decode cX1_endLiving 0 = .ok (.aload_n 0, 1) := by decide +kernel
theorem dX1_endLiving_1 : decode cX1_endLiving 1 = .ok (.getfield 9, 3) := by decide +kernel
theorem dX1_endLiving_4 : decode cX1_endLiving 4 = .ok (.aload_n 0, 1) := by decide +kernel
theorem dX1_endLiving_5 : decode cX1_endLiving 5 = .ok (.getfield 27, 3) := by decide +kernel
theorem dX1_endLiving_8 : decode cX1_endLiving 8 = .ok (.iload_n 1, 1) := by decide +kernel
theorem dX1_endLiving_9 : decode cX1_endLiving 9 = .ok (.iload_n 2, 1) := by decide +kernel
theorem dX1_endLiving_10 : decode cX1_endLiving 10 = .ok (.invokevirtual 100, 3) := by decide +kernel
theorem dX1_endLiving_13 : decode cX1_endLiving 13 = .ok (.aload_n 0, 1) := by decide +kernel
theorem dX1_endLiving_14 : decode cX1_endLiving 14 = .ok (.getfield 27, 3) := by decide +kernel
theorem dX1_endLiving_17 : decode cX1_endLiving 17 = .ok (.aload_n 0, 1) := by decide +kernel
theorem dX1_endLiving_18 : decode cX1_endLiving 18 = .ok (.getfield 27, 3) := by decide +kernel
theorem dX1_endLiving_21 : decode cX1_endLiving 21 = .ok (.getfield 43, 3) := by decide +kernel
theorem dX1_endLiving_24 : decode cX1_endLiving 24 = .ok (.iconst 1, 1) := by decide +kernel
theorem dX1_endLiving_25 : decode cX1_endLiving 25 = .ok (.isub, 1) := by decide +kernel
theorem dX1_endLiving_26 : decode cX1_endLiving 26 = .ok (.invokevirtual 64, 3) := by decide +kernel
theorem dX1_endLiving_29 : decode cX1_endLiving 29 = .ok (.istore_n 3, 1) := by decide +kernel
theorem dX1_endLiving_30 : decode cX1_endLiving 30 = .ok (.aload_n 0, 1) := by decide +kernel
theorem dX1_endLiving_31 : decode cX1_endLiving 31 = .ok (.getfield 21, 3) := by decide +kernel
theorem dX1_endLiving_34 : decode cX1_endLiving 34 = .ok (.iload_n 3, 1) := by decide +kernel
theorem dX1_endLiving_35 : decode cX1_endLiving 35 = .ok (.iload_n 1, 1) := by decide +kernel
theorem dX1_endLiving_36 : decode cX1_endLiving 36 = .ok (.iload_n 2, 1) := by decide +kernel
theorem dX1_endLiving_37 : decode cX1_endLiving 37 = .ok (.invokevirtual 104, 3) := by decide +kernel
theorem dX1_endLiving_40 : decode cX1_endLiving 40 = .ok (.istore 4, 2) := by decide +kernel
theorem dX1_endLiving_42 : decode cX1_endLiving 42 = .ok (.iload 4, 2) := by decide +kernel
theorem dX1_endLiving_44 : decode cX1_endLiving 44 = .ok (.iconst (-1), 1) := by decide +kernel
theorem dX1_endLiving_45 : decode cX1_endLiving 45 = .ok (.if_icmp .eq 32, 3) := by decide +kernel
theorem dX1_endLiving_48 : decode cX1_endLiving 48 = .ok (.aload_n 0, 1) := by decide +kernel
theorem dX1_endLiving_49 : decode cX1_endLiving 49 = .ok (.getfield 21, 3) := by decide +kernel
theorem dX1_endLiving_52 : decode cX1_endLiving 52 = .ok (.getfield 107, 3) := by decide +kernel
theorem dX1_endLiving_55 : decode cX1_endLiving 55 = .ok (.iload 4, 2) := by decide +kernel
theorem dX1_endLiving_57 : decode cX1_endLiving 57 = .ok (.invokevirtual 64, 3) := by decide +kernel
theorem dX1_endLiving_60 : decode cX1_endLiving 60 = .ok (.iload_n 1, 1) := by decide +kernel
theorem dX1_endLiving_61 : decode cX1_endLiving 61 = .ok (.if_icmp .ne 16, 3) := by decide +kernel
theorem dX1_endLiving_64 : decode cX1_endLiving 64 = .ok (.aload_n 0, 1) := by decide +kernel
theorem dX1_endLiving_65 : decode cX1_endLiving 65 = .ok (.getfield 21, 3) := by decide +kernel
theorem dX1_endLiving_68 : decode cX1_endLiving 68 = .ok (.getfield 110, 3) := by decide +kernel
theorem dX1_endLiving_71 : decode cX1_endLiving 71 = .ok (.iload 4, 2) := by decide +kernel
theorem dX1_endLiving_73 : decode cX1_endLiving 73 = .ok (.iload_n 2, 1) := by decide +kernel
theorem dX1_endLiving_74 : decode cX1_endLiving 74 = .ok (.invokevirtual 113, 3) := by decide +kernel
theorem dX1_endLiving_77 : decode cX1_endLiving 77 = .ok (.iload_n 3, 1) := by decide +kernel
theorem dX1_endLiving_78 : decode cX1_endLiving 78 = .ok (.ireturn, 1) := by decide +kernel
theorem dX1_gather_0 : decode cX1_gather 0 = .ok (.aload_n 0, 1) := by decide +kernel
theorem dX1_gather_1 : decode cX1_gather 1 = .ok (.getfield 21, 3) := by decide +kernel
theorem dX1_gather_4 : decode cX1_gather 4 = .ok (.iload_n 1, 1) := by decide +kernel
theorem dX1_gather_5 : decode cX1_gather 5 = .ok (.invokevirtual 116, 3) := by decide +kernel
theorem dX1_gather_8 : decode cX1_gather 8 = .ok (.istore_n 3, 1) := by decide +kernel
theorem dX1_gather_9 : decode cX1_gather 9 = .ok (.aload_n 0, 1) := by decide +kernel
theorem dX1_gather_10 : decode cX1_gather 10 = .ok (.getfield 21, 3) := by decide +kernel
theorem dX1_gather_13 : decode cX1_gather 13 = .ok (.iload_n 1, 1) := by decide +kernel
theorem dX1_gather_14 : decode cX1_gather 14 = .ok (.invokevirtual 119, 3) := by decide +kernel
theorem dX1_gather_17 : decode cX1_gather 17 = .ok (.istore 4, 2) := by decide +kernel
theorem dX1_gather_19 : decode cX1_gather 19 = .ok (.iload 4, 2) := by decide +kernel
theorem dX1_gather_21 : decode cX1_gather 21 = .ok (.iload_n 3, 1) := by decide +kernel
theorem dX1_gather_22 : decode cX1_gather 22 = .ok (.if_icmp .ge 65, 3) := by decide +kernel
theorem dX1_gather_25 : decode cX1_gather 25 = .ok (.aload_n 0, 1) := by decide +kernel
theorem dX1_gather_26 : decode cX1_gather 26 = .ok (.getfield 21, 3) := by decide +kernel
theorem dX1_gather_29 : decode cX1_gather 29 = .ok (.iload 4, 2) := by decide +kernel
theorem dX1_gather_31 : decode cX1_gather 31 = .ok (.iload_n 2, 1) := by decide +kernel
theorem dX1_gather_32 : decode cX1_gather 32 = .ok (.invokevirtual 122, 3) := by decide +kernel
theorem dX1_gather_35 : decode cX1_gather 35 = .ok (.ifCond .eq 46, 3) := by decide +kernel
theorem dX1_gather_38 : decode cX1_gather 38 = .ok (.aload_n 0, 1) := by decide +kernel
theorem dX1_gather_39 : decode cX1_gather 39 = .ok (.getfield 34, 3) := by decide +kernel
theorem dX1_gather_42 : decode cX1_gather 42 = .ok (.aload_n 0, 1) := by decide +kernel
theorem dX1_gather_43 : decode cX1_gather 43 = .ok (.getfield 21, 3) := by decide +kernel
theorem dX1_gather_46 : decode cX1_gather 46 = .ok (.getfield 107, 3) := by decide +kernel
theorem dX1_gather_49 : decode cX1_gather 49 = .ok (.iload 4, 2) := by decide +kernel
theorem dX1_gather_51 : decode cX1_gather 51 = .ok (.invokevirtual 64, 3) := by decide +kernel
theorem dX1_gather_54 : decode cX1_gather 54 = .ok (.aload_n 0, 1) := by decide +kernel
theorem dX1_gather_55 : decode cX1_gather 55 = .ok (.getfield 21, 3) := by decide +kernel
theorem dX1_gather_58 : decode cX1_gather 58 = .ok (.getfield 126, 3) := by decide +kernel
theorem dX1_gather_61 : decode cX1_gather 61 = .ok (.iload 4, 2) := by decide +kernel
theorem dX1_gather_63 : decode cX1_gather 63 = .ok (.invokevirtual 64, 3) := by decide +kernel
theorem dX1_gather_66 : decode cX1_gather 66 = .ok (.aload_n 0, 1) := by decide +kernel
theorem dX1_gather_67 : decode cX1_gather 67 = .ok (.getfield 21, 3) := by decide +kernel
theorem dX1_gather_70 : decode cX1_gather 70 = .ok (.getfield 129, 3) := by decide +kernel
theorem dX1_gather_73 : decode cX1_gather 73 = .ok (.iload 4, 2) := by decide +kernel
theorem dX1_gather_75 : decode cX1_gather 75 = .ok (.invokevirtual 64, 3) := by decide +kernel
theorem dX1_gather_78 : decode cX1_gather 78 = .ok (.invokevirtual 80, 3) := by decide +kernel
theorem dX1_gather_81 : decode cX1_gather 81 = .ok (.iinc 4 1, 3) := by decide +kernel
theorem dX1_gather_84 : decode cX1_gather 84 = .ok (.goto (-65), 3) := by decide +kernel
theorem dX1_gather_87 : decode cX1_gather 87 = .ok (.return_, 1) := by decide +kernel
theorem dX1_replaceUp_0 : decode cX1_replaceUp 0 = .ok (.aload_n 0, 1) := by decide +kernel
theorem dX1_replaceUp_1 : decode cX1_replaceUp 1 = .ok (.getfield 27, 3) := by decide +kernel
theorem dX1_replaceUp_4 : decode cX1_replaceUp 4 = .ok (.getfield 43, 3) := by decide +kernel
theorem dX1_replaceUp_7 : decode cX1_replaceUp 7 = .ok (.iconst 1, 1) := by decide +kernel
theorem dX1_replaceUp_8 : decode cX1_replaceUp 8 = .ok (.isub, 1) := by decide +kernel
theorem dX1_replaceUp_9 : decode cX1_replaceUp 9 = .ok (.istore_n 2, 1) := by decide +kernel
theorem dX1_replaceUp_10 : decode cX1_replaceUp 10 = .ok (.iload_n 2, 1) := by decide +kernel
theorem dX1_replaceUp_11 : decode cX1_replaceUp 11 = .ok (.ifCond .lt 90, 3) := by decide +kernel
theorem dX1_replaceUp_14 : decode cX1_replaceUp 14 = .ok (.aload_n 0, 1) := by decide +kernel
theorem dX1_replaceUp_15 : decode cX1_replaceUp 15 = .ok (.getfield 27, 3) := by decide +kernel
theorem dX1_replaceUp_18 : decode cX1_replaceUp 18 = .ok (.iload_n 2, 1) := by decide +kernel
theorem dX1_replaceUp_19 : decode cX1_replaceUp 19 = .ok (.invokevirtual 64, 3) := by decide +kernel
theorem dX1_replaceUp_22 : decode cX1_replaceUp 22 = .ok (.istore_n 3, 1) := by decide +kernel
theorem dX1_replaceUp_23 : decode cX1_replaceUp 23 = .ok (.iload_n 2, 1) := by decide +kernel
theorem dX1_replaceUp_24 : decode cX1_replaceUp 24 = .ok (.ifCond .le 19, 3) := by decide +kernel
theorem dX1_replaceUp_27 : decode cX1_replaceUp 27 = .ok (.aload_n 0, 1) := by decide +kernel
theorem dX1_replaceUp_28 : decode cX1_replaceUp 28 = .ok (.iload_n 3, 1) := by decide +kernel
theorem dX1_replaceUp_29 : decode cX1_replaceUp 29 = .ok (.aload_n 0, 1) := by decide +kernel
theorem dX1_replaceUp_30 : decode cX1_replaceUp 30 = .ok (.getfield 27, 3) := by decide +kernel
theorem dX1_replaceUp_33 : decode cX1_replaceUp 33 = .ok (.iload_n 2, 1) := by decide +kernel
theorem dX1_replaceUp_34 : decode cX1_replaceUp 34 = .ok (.iconst 1, 1) := by decide +kernel
theorem dX1_replaceUp_35 : decode cX1_replaceUp 35 = .ok (.isub, 1) := by decide +kernel
theorem dX1_replaceUp_36 : decode cX1_replaceUp 36 = .ok (.invokevirtual 64, 3) := by decide +kernel
theorem dX1_replaceUp_39 : decode cX1_replaceUp 39 = .ok (.iload_n 1, 1) := by decide +kernel
theorem dX1_replaceUp_40 : decode cX1_replaceUp 40 = .ok (.invokevirtual 132, 3) := by decide +kernel
theorem dX1_replaceUp_43 : decode cX1_replaceUp 43 = .ok (.aload_n 0, 1) := by decide +kernel
theorem dX1_replaceUp_44 : decode cX1_replaceUp 44 = .ok (.getfield 21, 3) := by decide +kernel
theorem dX1_replaceUp_47 : decode cX1_replaceUp 47 = .ok (.getfield 135, 3) := by decide +kernel
theorem dX1_replaceUp_50 : decode cX1_replaceUp 50 = .ok (.iload_n 3, 1) := by decide +kernel
theorem dX1_replaceUp_51 : decode cX1_replaceUp 51 = .ok (.iload_n 1, 1) := by decide +kernel
theorem dX1_replaceUp_52 : decode cX1_replaceUp 52 = .ok (.invokevirtual 113, 3) := by decide +kernel
theorem dX1_replaceUp_55 : decode cX1_replaceUp 55 = .ok (.aload_n 0, 1) := by decide +kernel
theorem dX1_replaceUp_56 : decode cX1_replaceUp 56 = .ok (.aload_n 0, 1) := by decide +kernel
theorem dX1_replaceUp_57 : decode cX1_replaceUp 57 = .ok (.getfield 21, 3) := by decide +kernel
theorem dX1_replaceUp_60 : decode cX1_replaceUp 60 = .ok (.getfield 38, 3) := by decide +kernel
theorem dX1_replaceUp_63 : decode cX1_replaceUp 63 = .ok (.iload_n 3, 1) := by decide +kernel
theorem dX1_replaceUp_64 : decode cX1_replaceUp 64 = .ok (.invokevirtual 64, 3) := by decide +kernel
theorem dX1_replaceUp_67 : decode cX1_replaceUp 67 = .ok (.iload_n 1, 1) := by decide +kernel
theorem dX1_replaceUp_68 : decode cX1_replaceUp 68 = .ok (.invokevirtual 138, 3) := by decide +kernel
theorem dX1_replaceUp_71 : decode cX1_replaceUp 71 = .ok (.iload_n 2, 1) := by decide +kernel
theorem dX1_replaceUp_72 : decode cX1_replaceUp 72 = .ok (.ifCond .ne 11, 3) := by decide +kernel
theorem dX1_replaceUp_75 : decode cX1_replaceUp 75 = .ok (.aload_n 0, 1) := by decide +kernel
theorem dX1_replaceUp_76 : decode cX1_replaceUp 76 = .ok (.iload_n 1, 1) := by decide +kernel
theorem dX1_replaceUp_77 : decode cX1_replaceUp 77 = .ok (.invokevirtual 141, 3) := by decide +kernel
theorem dX1_replaceUp_80 : decode cX1_replaceUp 80 = .ok (.goto 15, 3) := by decide +kernel
theorem dX1_replaceUp_83 : decode cX1_replaceUp 83 = .ok (.aload_n 0, 1) := by decide +kernel
theorem dX1_replaceUp_84 : decode cX1_replaceUp 84 = .ok (.iload_n 2, 1) := by decide +kernel
theorem dX1_replaceUp_85 : decode cX1_replaceUp 85 = .ok (.iconst 1, 1) := by decide +kernel
theorem dX1_replaceUp_86 : decode cX1_replaceUp 86 = .ok (.isub, 1) := by decide +kernel
theorem dX1_replaceUp_87 : decode cX1_replaceUp 87 = .ok (.iload_n 1, 1) := by decide +kernel
theorem dX1_replaceUp_88 : decode cX1_replaceUp 88 = .ok (.invokevirtual 144, 3) := by decide +kernel
theorem dX1_replaceUp_91 : decode cX1_replaceUp 91 = .ok (.ifCond .ne 4, 3) := by decide +kernel
theorem dX1_replaceUp_94 : decode cX1_replaceUp 94 = .ok (.return_, 1) := by decide +kernel
theorem dX1_replaceUp_95 : decode cX1_replaceUp 95 = .ok (.iinc 2 (-1), 3) := by decide +kernel
theorem dX1_replaceUp_98 : decode cX1_replaceUp 98 = .ok (.goto (-88), 3) := by decide +kernel
theorem dX1_replaceUp_101 : decode cX1_replaceUp 101 = .ok (.return_, 1) := by decide +kernel
theorem dX1_leaveAbove_0 : decode cX1_leaveAbove 0 = .ok (.aload_n 0, 1) := by decide +kernel
theorem dX1_leaveAbove_1 : decode cX1_leaveAbove 1 = .ok (.iload_n 2, 1) := by decide +kernel
theorem dX1_leaveAbove_2 : decode cX1_leaveAbove 2 = .ok (.iload_n 1, 1) := by decide +kernel
theorem dX1_leaveAbove_3 : decode cX1_leaveAbove 3 = .ok (.iload_n 3, 1) := by decide +kernel
theorem dX1_leaveAbove_4 : decode cX1_leaveAbove 4 = .ok (.invokevirtual 147, 3) := by decide +kernel
theorem dX1_leaveAbove_7 : decode cX1_leaveAbove 7 = .ok (.istore 4, 2) := by decide +kernel
theorem dX1_leaveAbove_9 : decode cX1_leaveAbove 9 = .ok (.aload_n 0, 1) := by decide +kernel
theorem dX1_leaveAbove_10 : decode cX1_leaveAbove 10 = .ok (.aload_n 0, 1) := by decide +kernel
theorem dX1_leaveAbove_11 : decode cX1_leaveAbove 11 = .ok (.getfield 21, 3) := by decide +kernel
theorem dX1_leaveAbove_14 : decode cX1_leaveAbove 14 = .ok (.getfield 107, 3) := by decide +kernel
theorem dX1_leaveAbove_17 : decode cX1_leaveAbove 17 = .ok (.iload 4, 2) := by decide +kernel
theorem dX1_leaveAbove_19 : decode cX1_leaveAbove 19 = .ok (.invokevirtual 64, 3) := by decide +kernel
theorem dX1_leaveAbove_22 : decode cX1_leaveAbove 22 = .ok (.putfield 150, 3) := by decide +kernel
theorem dX1_leaveAbove_25 : decode cX1_leaveAbove 25 = .ok (.iconst (-1), 1) := by decide +kernel
theorem dX1_leaveAbove_26 : decode cX1_leaveAbove 26 = .ok (.istore 5, 2) := by decide +kernel
theorem dX1_leaveAbove_28 : decode cX1_leaveAbove 28 = .ok (.aload_n 0, 1) := by decide +kernel
theorem dX1_leaveAbove_29 : decode cX1_leaveAbove 29 = .ok (.getfield 34, 3) := by decide +kernel
theorem dX1_leaveAbove_32 : decode cX1_leaveAbove 32 = .ok (.getfield 75, 3) := by decide +kernel
theorem dX1_leaveAbove_35 : decode cX1_leaveAbove 35 = .ok (.aload_n 0, 1) := by decide +kernel
theorem dX1_leaveAbove_36 : decode cX1_leaveAbove 36 = .ok (.getfield 21, 3) := by decide +kernel
theorem dX1_leaveAbove_39 : decode cX1_leaveAbove 39 = .ok (.invokevirtual 97, 3) := by decide +kernel
theorem dX1_leaveAbove_42 : decode cX1_leaveAbove 42 = .ok (.iconst 1, 1) := by decide +kernel
theorem dX1_leaveAbove_43 : decode cX1_leaveAbove 43 = .ok (.iadd, 1) := by decide +kernel
theorem dX1_leaveAbove_44 : decode cX1_leaveAbove 44 = .ok (.if_icmp .ge 41, 3) := by decide +kernel
theorem dX1_leaveAbove_47 : decode cX1_leaveAbove 47 = .ok (.aload_n 0, 1) := by decide +kernel
theorem dX1_leaveAbove_48 : decode cX1_leaveAbove 48 = .ok (.getfield 21, 3) := by decide +kernel
theorem dX1_leaveAbove_51 : decode cX1_leaveAbove 51 = .ok (.iload_n 2, 1) := by decide +kernel
theorem dX1_leaveAbove_52 : decode cX1_leaveAbove 52 = .ok (.aload_n 0, 1) := by decide +kernel
theorem dX1_leaveAbove_53 : decode cX1_leaveAbove 53 = .ok (.getfield 150, 3) := by decide +kernel
theorem dX1_leaveAbove_56 : decode cX1_leaveAbove 56 = .ok (.iload_n 3, 1) := by decide +kernel
theorem dX1_leaveAbove_57 : decode cX1_leaveAbove 57 = .ok (.invokevirtual 153, 3) := by decide +kernel
theorem dX1_leaveAbove_60 : decode cX1_leaveAbove 60 = .ok (.istore 5, 2) := by decide +kernel
theorem dX1_leaveAbove_62 : decode cX1_leaveAbove 62 = .ok (.iload 5, 2) := by decide +kernel
theorem dX1_leaveAbove_64 : decode cX1_leaveAbove 64 = .ok (.iconst (-1), 1) := by decide +kernel
theorem dX1_leaveAbove_65 : decode cX1_leaveAbove 65 = .ok (.if_icmp .ne 20, 3) := by decide +kernel
theorem dX1_leaveAbove_68 : decode cX1_leaveAbove 68 = .ok (.aload_n 0, 1) := by decide +kernel
theorem dX1_leaveAbove_69 : decode cX1_leaveAbove 69 = .ok (.getfield 21, 3) := by decide +kernel
theorem dX1_leaveAbove_72 : decode cX1_leaveAbove 72 = .ok (.iload_n 2, 1) := by decide +kernel
theorem dX1_leaveAbove_73 : decode cX1_leaveAbove 73 = .ok (.aload_n 0, 1) := by decide +kernel
theorem dX1_leaveAbove_74 : decode cX1_leaveAbove 74 = .ok (.getfield 150, 3) := by decide +kernel
theorem dX1_leaveAbove_77 : decode cX1_leaveAbove 77 = .ok (.iconst 1, 1) := by decide +kernel
theorem dX1_leaveAbove_78 : decode cX1_leaveAbove 78 = .ok (.isub, 1) := by decide +kernel
theorem dX1_leaveAbove_79 : decode cX1_leaveAbove 79 = .ok (.iload_n 3, 1) := by decide +kernel
theorem dX1_leaveAbove_80 : decode cX1_leaveAbove 80 = .ok (.invokevirtual 104, 3) := by decide +kernel
theorem dX1_leaveAbove_83 : decode cX1_leaveAbove 83 = .ok (.istore 5, 2) := by decide +kernel
theorem dX1_leaveAbove_85 : decode cX1_leaveAbove 85 = .ok (.iload 5, 2) := by decide +kernel
theorem dX1_leaveAbove_87 : decode cX1_leaveAbove 87 = .ok (.iconst (-1), 1) := by decide +kernel
theorem dX1_leaveAbove_88 : decode cX1_leaveAbove 88 = .ok (.if_icmp .eq 73, 3) := by decide +kernel
theorem dX1_leaveAbove_91 : decode cX1_leaveAbove 91 = .ok (.aload_n 0, 1) := by decide +kernel
theorem dX1_leaveAbove_92 : decode cX1_leaveAbove 92 = .ok (.getfield 21, 3) := by decide +kernel
theorem dX1_leaveAbove_95 : decode cX1_leaveAbove 95 = .ok (.getfield 126, 3) := by decide +kernel
theorem dX1_leaveAbove_98 : decode cX1_leaveAbove 98 = .ok (.iload 5, 2) := by decide +kernel
theorem dX1_leaveAbove_100 : decode cX1_leaveAbove 100 = .ok (.invokevirtual 64, 3) := by decide +kernel
theorem dX1_leaveAbove_103 : decode cX1_leaveAbove 103 = .ok (.istore 6, 2) := by decide +kernel
theorem dX1_leaveAbove_105 : decode cX1_leaveAbove 105 = .ok (.aload_n 0, 1) := by decide +kernel
theorem dX1_leaveAbove_106 : decode cX1_leaveAbove 106 = .ok (.iload 6, 2) := by decide +kernel
theorem dX1_leaveAbove_108 : decode cX1_leaveAbove 108 = .ok (.iload_n 3, 1) := by decide +kernel
theorem dX1_leaveAbove_109 : decode cX1_leaveAbove 109 = .ok (.invokevirtual 76, 3) := by decide +kernel
theorem dX1_leaveAbove_112 : decode cX1_leaveAbove 112 = .ok (.aload_n 0, 1) := by decide +kernel
theorem dX1_leaveAbove_113 : decode cX1_leaveAbove 113 = .ok (.getfield 21, 3) := by decide +kernel
theorem dX1_leaveAbove_116 : decode cX1_leaveAbove 116 = .ok (.getfield 135, 3) := by decide +kernel
theorem dX1_leaveAbove_119 : decode cX1_leaveAbove 119 = .ok (.iload 6, 2) := by decide +kernel
theorem dX1_leaveAbove_121 : decode cX1_leaveAbove 121 = .ok (.iload_n 3, 1) := by decide +kernel
theorem dX1_leaveAbove_122 : decode cX1_leaveAbove 122 = .ok (.invokevirtual 113, 3) := by decide +kernel
theorem dX1_leaveAbove_125 : decode cX1_leaveAbove 125 = .ok (.aload_n 0, 1) := by decide +kernel
theorem dX1_leaveAbove_126 : decode cX1_leaveAbove 126 = .ok (.getfield 21, 3) := by decide +kernel
theorem dX1_leaveAbove_129 : decode cX1_leaveAbove 129 = .ok (.getfield 110, 3) := by decide +kernel
theorem dX1_leaveAbove_132 : decode cX1_leaveAbove 132 = .ok (.iload 5, 2) := by decide +kernel
theorem dX1_leaveAbove_134 : decode cX1_leaveAbove 134 = .ok (.iload_n 3, 1) := by decide +kernel
theorem dX1_leaveAbove_135 : decode cX1_leaveAbove 135 = .ok (.invokevirtual 113, 3) := by decide +kernel
theorem dX1_leaveAbove_138 : decode cX1_leaveAbove 138 = .ok (.aload_n 0, 1) := by decide +kernel
theorem dX1_leaveAbove_139 : decode cX1_leaveAbove 139 = .ok (.aload_n 0, 1) := by decide +kernel
theorem dX1_leaveAbove_140 : decode cX1_leaveAbove 140 = .ok (.getfield 150, 3) := by decide +kernel
theorem dX1_leaveAbove_143 : decode cX1_leaveAbove 143 = .ok (.aload_n 0, 1) := by decide +kernel
theorem dX1_leaveAbove_144 : decode cX1_leaveAbove 144 = .ok (.getfield 21, 3) := by decide +kernel
theorem dX1_leaveAbove_147 : decode cX1_leaveAbove 147 = .ok (.getfield 107, 3) := by decide +kernel
theorem dX1_leaveAbove_150 : decode cX1_leaveAbove 150 = .ok (.iload 5, 2) := by decide +kernel
theorem dX1_leaveAbove_152 : decode cX1_leaveAbove 152 = .ok (.invokevirtual 64, 3) := by decide +kernel
theorem dX1_leaveAbove_155 : decode cX1_leaveAbove 155 = .ok (.invokestatic 156, 3) := by decide +kernel
theorem dX1_leaveAbove_158 : decode cX1_leaveAbove 158 = .ok (.putfield 150, 3) := by decide +kernel
theorem dX1_leaveAbove_161 : decode cX1_leaveAbove 161 = .ok (.aload_n 0, 1) := by decide +kernel
theorem dX1_leaveAbove_162 : decode cX1_leaveAbove 162 = .ok (.getfield 21, 3) := by decide +kernel
theorem dX1_leaveAbove_165 : decode cX1_leaveAbove 165 = .ok (.getfield 110, 3) := by decide +kernel
theorem dX1_leaveAbove_168 : decode cX1_leaveAbove 168 = .ok (.iload 4, 2) := by decide +kernel
theorem dX1_leaveAbove_170 : decode cX1_leaveAbove 170 = .ok (.iload_n 3, 1) := by decide +kernel
theorem dX1_leaveAbove_171 : decode cX1_leaveAbove 171 = .ok (.invokevirtual 113, 3) := by decide +kernel
theorem dX1_leaveAbove_174 : decode cX1_leaveAbove 174 = .ok (.return_, 1) := by decide +kernel
theorem dX1_slotOf_0 : decode cX1_slotOf 0 = .ok (.aload_n 0, 1) := by decide +kernel
theorem dX1_slotOf_1 : decode cX1_slotOf 1 = .ok (.getfield 21, 3) := by decide +kernel
theorem dX1_slotOf_4 : decode cX1_slotOf 4 = .ok (.iload_n 1, 1) := by decide +kernel
theorem dX1_slotOf_5 : decode cX1_slotOf 5 = .ok (.invokevirtual 116, 3) := by decide +kernel
theorem dX1_slotOf_8 : decode cX1_slotOf 8 = .ok (.istore 4, 2) := by decide +kernel
theorem dX1_slotOf_10 : decode cX1_slotOf 10 = .ok (.aload_n 0, 1) := by decide +kernel
theorem dX1_slotOf_11 : decode cX1_slotOf 11 = .ok (.getfield 21, 3) := by decide +kernel
theorem dX1_slotOf_14 : decode cX1_slotOf 14 = .ok (.iload_n 1, 1) := by decide +kernel
theorem dX1_slotOf_15 : decode cX1_slotOf 15 = .ok (.invokevirtual 119, 3) := by decide +kernel
theorem dX1_slotOf_18 : decode cX1_slotOf 18 = .ok (.istore 5, 2) := by decide +kernel
theorem dX1_slotOf_20 : decode cX1_slotOf 20 = .ok (.iload 5, 2) := by decide +kernel
theorem dX1_slotOf_22 : decode cX1_slotOf 22 = .ok (.iload 4, 2) := by decide +kernel
theorem dX1_slotOf_24 : decode cX1_slotOf 24 = .ok (.if_icmp .ge 41, 3) := by decide +kernel
theorem dX1_slotOf_27 : decode cX1_slotOf 27 = .ok (.aload_n 0, 1) := by decide +kernel
theorem dX1_slotOf_28 : decode cX1_slotOf 28 = .ok (.getfield 21, 3) := by decide +kernel
theorem dX1_slotOf_31 : decode cX1_slotOf 31 = .ok (.getfield 126, 3) := by decide +kernel
theorem dX1_slotOf_34 : decode cX1_slotOf 34 = .ok (.iload 5, 2) := by decide +kernel
theorem dX1_slotOf_36 : decode cX1_slotOf 36 = .ok (.invokevirtual 64, 3) := by decide +kernel
theorem dX1_slotOf_39 : decode cX1_slotOf 39 = .ok (.iload_n 2, 1) := by decide +kernel
theorem dX1_slotOf_40 : decode cX1_slotOf 40 = .ok (.if_icmp .ne 19, 3) := by decide +kernel
theorem dX1_slotOf_43 : decode cX1_slotOf 43 = .ok (.aload_n 0, 1) := by decide +kernel
theorem dX1_slotOf_44 : decode cX1_slotOf 44 = .ok (.getfield 21, 3) := by decide +kernel
theorem dX1_slotOf_47 : decode cX1_slotOf 47 = .ok (.iload 5, 2) := by decide +kernel
theorem dX1_slotOf_49 : decode cX1_slotOf 49 = .ok (.iload_n 3, 1) := by decide +kernel
theorem dX1_slotOf_50 : decode cX1_slotOf 50 = .ok (.invokevirtual 122, 3) := by decide +kernel
theorem dX1_slotOf_53 : decode cX1_slotOf 53 = .ok (.ifCond .eq 6, 3) := by decide +kernel
theorem dX1_slotOf_56 : decode cX1_slotOf 56 = .ok (.iload 5, 2) := by decide +kernel
theorem dX1_slotOf_58 : decode cX1_slotOf 58 = .ok (.ireturn, 1) := by decide +kernel
theorem dX1_slotOf_59 : decode cX1_slotOf 59 = .ok (.iinc 5 1, 3) := by decide +kernel
theorem dX1_slotOf_62 : decode cX1_slotOf 62 = .ok (.goto (-42), 3) := by decide +kernel
theorem dX1_slotOf_65 : decode cX1_slotOf 65 = .ok (.iconst (-1), 1) := by decide +kernel
theorem dX1_slotOf_66 : decode cX1_slotOf 66 = .ok (.ireturn, 1) := by decide +kernel
theorem dX1_makePages_0 : decode cX1_makePages 0 = .ok (.aload_n 0, 1) := by decide +kernel
theorem dX1_makePages_1 : decode cX1_makePages 1 = .ok (.getfield 34, 3) := by decide +kernel
theorem dX1_makePages_4 : decode cX1_makePages 4 = .ok (.getfield 75, 3) := by decide +kernel
theorem dX1_makePages_7 : decode cX1_makePages 7 = .ok (.aload_n 0, 1) := by decide +kernel
theorem dX1_makePages_8 : decode cX1_makePages 8 = .ok (.getfield 21, 3) := by decide +kernel
theorem dX1_makePages_11 : decode cX1_makePages 11 = .ok (.getfield 68, 3) := by decide +kernel
theorem dX1_makePages_14 : decode cX1_makePages 14 = .ok (.iconst 2, 1) := by decide +kernel
theorem dX1_makePages_15 : decode cX1_makePages 15 = .ok (.isub, 1) := by decide +kernel
theorem dX1_makePages_16 : decode cX1_makePages 16 = .ok (.if_icmp .le 7, 3) := by decide +kernel
theorem dX1_makePages_19 : decode cX1_makePages 19 = .ok (.iconst 1, 1) := by decide +kernel
theorem dX1_makePages_20 : decode cX1_makePages 20 = .ok (.goto 4, 3) := by decide +kernel
theorem dX1_makePages_23 : decode cX1_makePages 23 = .ok (.iconst 0, 1) := by decide +kernel
theorem dX1_makePages_24 : decode cX1_makePages 24 = .ok (.istore_n 3, 1) := by decide +kernel
theorem dX1_makePages_25 : decode cX1_makePages 25 = .ok (.iload_n 3, 1) := by decide +kernel
theorem dX1_makePages_26 : decode cX1_makePages 26 = .ok (.ifCond .eq 15, 3) := by decide +kernel
theorem dX1_makePages_29 : decode cX1_makePages 29 = .ok (.aload_n 0, 1) := by decide +kernel
theorem dX1_makePages_30 : decode cX1_makePages 30 = .ok (.getfield 34, 3) := by decide +kernel
theorem dX1_makePages_33 : decode cX1_makePages 33 = .ok (.getfield 75, 3) := by decide +kernel
theorem dX1_makePages_36 : decode cX1_makePages 36 = .ok (.iconst 2, 1) := by decide +kernel
theorem dX1_makePages_37 : decode cX1_makePages 37 = .ok (.idiv, 1) := by decide +kernel
theorem dX1_makePages_38 : decode cX1_makePages 38 = .ok (.goto 10, 3) := by decide +kernel
theorem dX1_makePages_41 : decode cX1_makePages 41 = .ok (.aload_n 0, 1) := by decide +kernel
theorem dX1_makePages_42 : decode cX1_makePages 42 = .ok (.getfield 34, 3) := by decide +kernel
theorem dX1_makePages_45 : decode cX1_makePages 45 = .ok (.getfield 75, 3) := by decide +kernel
theorem dX1_makePages_48 : decode cX1_makePages 48 = .ok (.istore 4, 2) := by decide +kernel
theorem dX1_makePages_50 : decode cX1_makePages 50 = .ok (.aload_n 0, 1) := by decide +kernel
theorem dX1_makePages_51 : decode cX1_makePages 51 = .ok (.aload_n 0, 1) := by decide +kernel
theorem dX1_makePages_52 : decode cX1_makePages 52 = .ok (.getfield 21, 3) := by decide +kernel
theorem dX1_makePages_55 : decode cX1_makePages 55 = .ok (.iload_n 1, 1) := by decide +kernel
theorem dX1_makePages_56 : decode cX1_makePages 56 = .ok (.iload_n 2, 1) := by decide +kernel
theorem dX1_makePages_57 : decode cX1_makePages 57 = .ok (.invokevirtual 161, 3) := by decide +kernel
theorem dX1_makePages_60 : decode cX1_makePages 60 = .ok (.putfield 164, 3) := by decide +kernel
theorem dX1_makePages_63 : decode cX1_makePages 63 = .ok (.aload_n 0, 1) := by decide +kernel
theorem dX1_makePages_64 : decode cX1_makePages 64 = .ok (.getfield 164, 3) := by decide +kernel
theorem dX1_makePages_67 : decode cX1_makePages 67 = .ok (.istore 5, 2) := by decide +kernel
theorem dX1_makePages_69 : decode cX1_makePages 69 = .ok (.aload_n 0, 1) := by decide +kernel
theorem dX1_makePages_70 : decode cX1_makePages 70 = .ok (.iconst (-1), 1) := by decide +kernel
theorem dX1_makePages_71 : decode cX1_makePages 71 = .ok (.putfield 167, 3) := by decide +kernel
theorem dX1_makePages_74 : decode cX1_makePages 74 = .ok (.iconst 0, 1) := by decide +kernel
theorem dX1_makePages_75 : decode cX1_makePages 75 = .ok (.istore 6, 2) := by decide +kernel
theorem dX1_makePages_77 : decode cX1_makePages 77 = .ok (.iload 6, 2) := by decide +kernel
theorem dX1_makePages_79 : decode cX1_makePages 79 = .ok (.aload_n 0, 1) := by decide +kernel
theorem dX1_makePages_80 : decode cX1_makePages 80 = .ok (.getfield 34, 3) := by decide +kernel
theorem dX1_makePages_83 : decode cX1_makePages 83 = .ok (.getfield 75, 3) := by decide +kernel
theorem dX1_makePages_86 : decode cX1_makePages 86 = .ok (.if_icmp .ge 87, 3) := by decide +kernel
theorem dX1_makePages_89 : decode cX1_makePages 89 = .ok (.iload 6, 2) := by decide +kernel
theorem dX1_makePages_91 : decode cX1_makePages 91 = .ok (.bipush 32, 2) := by decide +kernel
theorem dX1_makePages_93 : decode cX1_makePages 93 = .ok (.if_icmp .ge 80, 3) := by decide +kernel
theorem dX1_makePages_96 : decode cX1_makePages 96 = .ok (.iload 6, 2) := by decide +kernel
theorem dX1_makePages_98 : decode cX1_makePages 98 = .ok (.iload 4, 2) := by decide +kernel
theorem dX1_makePages_100 : decode cX1_makePages 100 = .ok (.if_icmp .ne 28, 3) := by decide +kernel
theorem dX1_makePages_103 : decode cX1_makePages 103 = .ok (.aload_n 0, 1) := by decide +kernel
theorem dX1_makePages_104 : decode cX1_makePages 104 = .ok (.getfield 21, 3) := by decide +kernel
theorem dX1_makePages_107 : decode cX1_makePages 107 = .ok (.iload_n 1, 1) := by decide +kernel
theorem dX1_makePages_108 : decode cX1_makePages 108 = .ok (.iload_n 2, 1) := by decide +kernel
theorem dX1_makePages_109 : decode cX1_makePages 109 = .ok (.invokevirtual 161, 3) := by decide +kernel
theorem dX1_makePages_112 : decode cX1_makePages 112 = .ok (.istore 5, 2) := by decide +kernel
theorem dX1_makePages_114 : decode cX1_makePages 114 = .ok (.aload_n 0, 1) := by decide +kernel
theorem dX1_makePages_115 : decode cX1_makePages 115 = .ok (.aload_n 0, 1) := by decide +kernel
theorem dX1_makePages_116 : decode cX1_makePages 116 = .ok (.getfield 34, 3) := by decide +kernel
theorem dX1_makePages_119 : decode cX1_makePages 119 = .ok (.getfield 170, 3) := by decide +kernel
theorem dX1_makePages_122 : decode cX1_makePages 122 = .ok (.iload 6, 2) := by decide +kernel
theorem dX1_makePages_124 : decode cX1_makePages 124 = .ok (.iaload, 1) := by decide +kernel
theorem dX1_makePages_125 : decode cX1_makePages 125 = .ok (.putfield 167, 3) := by decide +kernel
theorem dX1_makePages_128 : decode cX1_makePages 128 = .ok (.aload_n 0, 1) := by decide +kernel
theorem dX1_makePages_129 : decode cX1_makePages 129 = .ok (.getfield 21, 3) := by decide +kernel
theorem dX1_makePages_132 : decode cX1_makePages 132 = .ok (.iload 5, 2) := by decide +kernel
theorem dX1_makePages_134 : decode cX1_makePages 134 = .ok (.aload_n 0, 1) := by decide +kernel
theorem dX1_makePages_135 : decode cX1_makePages 135 = .ok (.getfield 34, 3) := by decide +kernel
theorem dX1_makePages_138 : decode cX1_makePages 138 = .ok (.getfield 170, 3) := by decide +kernel
theorem dX1_makePages_141 : decode cX1_makePages 141 = .ok (.iload 6, 2) := by decide +kernel
theorem dX1_makePages_143 : decode cX1_makePages 143 = .ok (.iaload, 1) := by decide +kernel
theorem dX1_makePages_144 : decode cX1_makePages 144 = .ok (.aload_n 0, 1) := by decide +kernel
theorem dX1_makePages_145 : decode cX1_makePages 145 = .ok (.getfield 34, 3) := by decide +kernel
theorem dX1_makePages_148 : decode cX1_makePages 148 = .ok (.getfield 173, 3) := by decide +kernel
theorem dX1_makePages_151 : decode cX1_makePages 151 = .ok (.iload 6, 2) := by decide +kernel
theorem dX1_makePages_153 : decode cX1_makePages 153 = .ok (.iaload, 1) := by decide +kernel
theorem dX1_makePages_154 : decode cX1_makePages 154 = .ok (.aload_n 0, 1) := by decide +kernel
theorem dX1_makePages_155 : decode cX1_makePages 155 = .ok (.getfield 34, 3) := by decide +kernel
theorem dX1_makePages_158 : decode cX1_makePages 158 = .ok (.getfield 175, 3) := by decide +kernel
theorem dX1_makePages_161 : decode cX1_makePages 161 = .ok (.iload 6, 2) := by decide +kernel
theorem dX1_makePages_163 : decode cX1_makePages 163 = .ok (.iaload, 1) := by decide +kernel
theorem dX1_makePages_164 : decode cX1_makePages 164 = .ok (.invokevirtual 71, 3) := by decide +kernel
theorem dX1_makePages_167 : decode cX1_makePages 167 = .ok (.iinc 6 1, 3) := by decide +kernel
theorem dX1_makePages_170 : decode cX1_makePages 170 = .ok (.goto (-93), 3) := by decide +kernel
theorem dX1_makePages_173 : decode cX1_makePages 173 = .ok (.return_, 1) := by decide +kernel
theorem dX1_handUp_0 : decode cX1_handUp 0 = .ok (.aload_n 0, 1) := by decide +kernel
theorem dX1_handUp_1 : decode cX1_handUp 1 = .ok (.getfield 27, 3) := by decide +kernel
theorem dX1_handUp_4 : decode cX1_handUp 4 = .ok (.iload_n 1, 1) := by decide +kernel
theorem dX1_handUp_5 : decode cX1_handUp 5 = .ok (.invokevirtual 64, 3) := by decide +kernel
theorem dX1_handUp_8 : decode cX1_handUp 8 = .ok (.istore_n 3, 1) := by decide +kernel
theorem dX1_handUp_9 : decode cX1_handUp 9 = .ok (.aload_n 0, 1) := by decide +kernel
theorem dX1_handUp_10 : decode cX1_handUp 10 = .ok (.getfield 167, 3) := by decide +kernel
theorem dX1_handUp_13 : decode cX1_handUp 13 = .ok (.iconst (-1), 1) := by decide +kernel
theorem dX1_handUp_14 : decode cX1_handUp 14 = .ok (.if_icmp .ne 7, 3) := by decide +kernel
theorem dX1_handUp_17 : decode cX1_handUp 17 = .ok (.iconst 1, 1) := by decide +kernel
theorem dX1_handUp_18 : decode cX1_handUp 18 = .ok (.goto 4, 3) := by decide +kernel
theorem dX1_handUp_21 : decode cX1_handUp 21 = .ok (.iconst 2, 1) := by decide +kernel
theorem dX1_handUp_22 : decode cX1_handUp 22 = .ok (.istore 4, 2) := by decide +kernel
theorem dX1_handUp_24 : decode cX1_handUp 24 = .ok (.aload_n 0, 1) := by decide +kernel
theorem dX1_handUp_25 : decode cX1_handUp 25 = .ok (.getfield 21, 3) := by decide +kernel
theorem dX1_handUp_28 : decode cX1_handUp 28 = .ok (.getfield 61, 3) := by decide +kernel
theorem dX1_handUp_31 : decode cX1_handUp 31 = .ok (.iload_n 3, 1) := by decide +kernel
theorem dX1_handUp_32 : decode cX1_handUp 32 = .ok (.invokevirtual 64, 3) := by decide +kernel
theorem dX1_handUp_35 : decode cX1_handUp 35 = .ok (.iload 4, 2) := by decide +kernel
theorem dX1_handUp_37 : decode cX1_handUp 37 = .ok (.iadd, 1) := by decide +kernel
theorem dX1_handUp_38 : decode cX1_handUp 38 = .ok (.aload_n 0, 1) := by decide +kernel
theorem dX1_handUp_39 : decode cX1_handUp 39 = .ok (.getfield 21, 3) := by decide +kernel
theorem dX1_handUp_42 : decode cX1_handUp 42 = .ok (.getfield 68, 3) := by decide +kernel
theorem dX1_handUp_45 : decode cX1_handUp 45 = .ok (.if_icmp .le 59, 3) := by decide +kernel
theorem dX1_handUp_48 : decode cX1_handUp 48 = .ok (.aload_n 0, 1) := by decide +kernel
theorem dX1_handUp_49 : decode cX1_handUp 49 = .ok (.getfield 34, 3) := by decide +kernel
theorem dX1_handUp_52 : decode cX1_handUp 52 = .ok (.iconst 0, 1) := by decide +kernel
theorem dX1_handUp_53 : decode cX1_handUp 53 = .ok (.putfield 75, 3) := by decide +kernel
theorem dX1_handUp_56 : decode cX1_handUp 56 = .ok (.aload_n 0, 1) := by decide +kernel
theorem dX1_handUp_57 : decode cX1_handUp 57 = .ok (.iload_n 3, 1) := by decide +kernel
theorem dX1_handUp_58 : decode cX1_handUp 58 = .ok (.iload_n 2, 1) := by decide +kernel
theorem dX1_handUp_59 : decode cX1_handUp 59 = .ok (.invokevirtual 76, 3) := by decide +kernel
theorem dX1_handUp_62 : decode cX1_handUp 62 = .ok (.aload_n 0, 1) := by decide +kernel
theorem dX1_handUp_63 : decode cX1_handUp 63 = .ok (.getfield 34, 3) := by decide +kernel
theorem dX1_handUp_66 : decode cX1_handUp 66 = .ok (.aload_n 0, 1) := by decide +kernel
theorem dX1_handUp_67 : decode cX1_handUp 67 = .ok (.getfield 150, 3) := by decide +kernel
theorem dX1_handUp_70 : decode cX1_handUp 70 = .ok (.aload_n 0, 1) := by decide +kernel
theorem dX1_handUp_71 : decode cX1_handUp 71 = .ok (.getfield 164, 3) := by decide +kernel
theorem dX1_handUp_74 : decode cX1_handUp 74 = .ok (.iload_n 2, 1) := by decide +kernel
theorem dX1_handUp_75 : decode cX1_handUp 75 = .ok (.invokevirtual 80, 3) := by decide +kernel
theorem dX1_handUp_78 : decode cX1_handUp 78 = .ok (.iload 4, 2) := by decide +kernel
theorem dX1_handUp_80 : decode cX1_handUp 80 = .ok (.iconst 2, 1) := by decide +kernel
theorem dX1_handUp_81 : decode cX1_handUp 81 = .ok (.if_icmp .ne 21, 3) := by decide +kernel
theorem dX1_handUp_84 : decode cX1_handUp 84 = .ok (.aload_n 0, 1) := by decide +kernel
theorem dX1_handUp_85 : decode cX1_handUp 85 = .ok (.getfield 34, 3) := by decide +kernel
theorem dX1_handUp_88 : decode cX1_handUp 88 = .ok (.aload_n 0, 1) := by decide +kernel
theorem dX1_handUp_89 : decode cX1_handUp 89 = .ok (.getfield 167, 3) := by decide +kernel
theorem dX1_handUp_92 : decode cX1_handUp 92 = .ok (.aload_n 0, 1) := by decide +kernel
theorem dX1_handUp_93 : decode cX1_handUp 93 = .ok (.getfield 164, 3) := by decide +kernel
theorem dX1_handUp_96 : decode cX1_handUp 96 = .ok (.iconst 1, 1) := by decide +kernel
theorem dX1_handUp_97 : decode cX1_handUp 97 = .ok (.iadd, 1) := by decide +kernel
theorem dX1_handUp_98 : decode cX1_handUp 98 = .ok (.iload_n 2, 1) := by decide +kernel
theorem dX1_handUp_99 : decode cX1_handUp 99 = .ok (.invokevirtual 80, 3) := by decide +kernel
theorem dX1_handUp_102 : decode cX1_handUp 102 = .ok (.iconst 1, 1) := by decide +kernel
theorem dX1_handUp_103 : decode cX1_handUp 103 = .ok (.ireturn, 1) := by decide +kernel
theorem dX1_handUp_104 : decode cX1_handUp 104 = .ok (.aload_n 0, 1) := by decide +kernel
theorem dX1_handUp_105 : decode cX1_handUp 105 = .ok (.getfield 21, 3) := by decide +kernel
theorem dX1_handUp_108 : decode cX1_handUp 108 = .ok (.iload_n 3, 1) := by decide +kernel
theorem dX1_handUp_109 : decode cX1_handUp 109 = .ok (.aload_n 0, 1) := by decide +kernel
theorem dX1_handUp_110 : decode cX1_handUp 110 = .ok (.getfield 150, 3) := by decide +kernel
theorem dX1_handUp_113 : decode cX1_handUp 113 = .ok (.aload_n 0, 1) := by decide +kernel
theorem dX1_handUp_114 : decode cX1_handUp 114 = .ok (.getfield 164, 3) := by decide +kernel
theorem dX1_handUp_117 : decode cX1_handUp 117 = .ok (.iload_n 2, 1) := by decide +kernel
theorem dX1_handUp_118 : decode cX1_handUp 118 = .ok (.invokevirtual 71, 3) := by decide +kernel
theorem dX1_handUp_121 : decode cX1_handUp 121 = .ok (.iload 4, 2) := by decide +kernel
theorem dX1_handUp_123 : decode cX1_handUp 123 = .ok (.iconst 2, 1) := by decide +kernel
theorem dX1_handUp_124 : decode cX1_handUp 124 = .ok (.if_icmp .ne 22, 3) := by decide +kernel
theorem dX1_handUp_127 : decode cX1_handUp 127 = .ok (.aload_n 0, 1) := by decide +kernel
theorem dX1_handUp_128 : decode cX1_handUp 128 = .ok (.getfield 21, 3) := by decide +kernel
theorem dX1_handUp_131 : decode cX1_handUp 131 = .ok (.iload_n 3, 1) := by decide +kernel
theorem dX1_handUp_132 : decode cX1_handUp 132 = .ok (.aload_n 0, 1) := by decide +kernel
theorem dX1_handUp_133 : decode cX1_handUp 133 = .ok (.getfield 167, 3) := by decide +kernel
theorem dX1_handUp_136 : decode cX1_handUp 136 = .ok (.aload_n 0, 1) := by decide +kernel
theorem dX1_handUp_137 : decode cX1_handUp 137 = .ok (.getfield 164, 3) := by decide +kernel
theorem dX1_handUp_140 : decode cX1_handUp 140 = .ok (.iconst 1, 1) := by decide +kernel
theorem dX1_handUp_141 : decode cX1_handUp 141 = .ok (.iadd, 1) := by decide +kernel
theorem dX1_handUp_142 : decode cX1_handUp 142 = .ok (.iload_n 2, 1) := by decide +kernel
theorem dX1_handUp_143 : decode cX1_handUp 143 = .ok (.invokevirtual 71, 3) := by decide +kernel
theorem dX1_handUp_146 : decode cX1_handUp 146 = .ok (.aload_n 0, 1) := by decide +kernel
theorem dX1_handUp_147 : decode cX1_handUp 147 = .ok (.getfield 21, 3) := by decide +kernel
theorem dX1_handUp_150 : decode cX1_handUp 150 = .ok (.iload_n 3, 1) := by decide +kernel
theorem dX1_handUp_151 : decode cX1_handUp 151 = .ok (.iload_n 2, 1) := by decide +kernel
theorem dX1_handUp_152 : decode cX1_handUp 152 = .ok (.invokevirtual 94, 3) := by decide +kernel
theorem dX1_handUp_155 : decode cX1_handUp 155 = .ok (.istore 5, 2) := by decide +kernel
theorem dX1_handUp_157 : decode cX1_handUp 157 = .ok (.iload_n 1, 1) := by decide +kernel
theorem dX1_handUp_158 : decode cX1_handUp 158 = .ok (.ifCond .ne 35, 3) := by decide +kernel
theorem dX1_handUp_161 : decode cX1_handUp 161 = .ok (.iload 5, 2) := by decide +kernel
theorem dX1_handUp_163 : decode cX1_handUp 163 = .ok (.iconst 1, 1) := by decide +kernel
theorem dX1_handUp_164 : decode cX1_handUp 164 = .ok (.if_icmp .ne 27, 3) := by decide +kernel
theorem dX1_handUp_167 : decode cX1_handUp 167 = .ok (.aload_n 0, 1) := by decide +kernel
theorem dX1_handUp_168 : decode cX1_handUp 168 = .ok (.getfield 21, 3) := by decide +kernel
theorem dX1_handUp_171 : decode cX1_handUp 171 = .ok (.getfield 135, 3) := by decide +kernel
theorem dX1_handUp_174 : decode cX1_handUp 174 = .ok (.iload_n 3, 1) := by decide +kernel
theorem dX1_handUp_175 : decode cX1_handUp 175 = .ok (.iload_n 2, 1) := by decide +kernel
theorem dX1_handUp_176 : decode cX1_handUp 176 = .ok (.invokevirtual 113, 3) := by decide +kernel
theorem dX1_handUp_179 : decode cX1_handUp 179 = .ok (.aload_n 0, 1) := by decide +kernel
theorem dX1_handUp_180 : decode cX1_handUp 180 = .ok (.getfield 9, 3) := by decide +kernel
theorem dX1_handUp_183 : decode cX1_handUp 183 = .ok (.aload_n 0, 1) := by decide +kernel
theorem dX1_handUp_184 : decode cX1_handUp 184 = .ok (.getfield 164, 3) := by decide +kernel
theorem dX1_handUp_187 : decode cX1_handUp 187 = .ok (.iload_n 2, 1) := by decide +kernel
theorem dX1_handUp_188 : decode cX1_handUp 188 = .ok (.invokevirtual 177, 3) := by decide +kernel
theorem dX1_handUp_191 : decode cX1_handUp 191 = .ok (.iconst 0, 1) := by decide +kernel
theorem dX1_handUp_192 : decode cX1_handUp 192 = .ok (.ireturn, 1) := by decide +kernel
theorem dX1_handUp_193 : decode cX1_handUp 193 = .ok (.iload 5, 2) := by decide +kernel
theorem dX1_handUp_195 : decode cX1_handUp 195 = .ok (.aload_n 0, 1) := by decide +kernel
theorem dX1_handUp_196 : decode cX1_handUp 196 = .ok (.getfield 21, 3) := by decide +kernel
theorem dX1_handUp_199 : decode cX1_handUp 199 = .ok (.invokevirtual 97, 3) := by decide +kernel
theorem dX1_handUp_202 : decode cX1_handUp 202 = .ok (.if_icmp .lt 5, 3) := by decide +kernel
theorem dX1_handUp_205 : decode cX1_handUp 205 = .ok (.iconst 0, 1) := by decide +kernel
theorem dX1_handUp_206 : decode cX1_handUp 206 = .ok (.ireturn, 1) := by decide +kernel
theorem dX1_handUp_207 : decode cX1_handUp 207 = .ok (.aload_n 0, 1) := by decide +kernel
theorem dX1_handUp_208 : decode cX1_handUp 208 = .ok (.getfield 34, 3) := by decide +kernel
theorem dX1_handUp_211 : decode cX1_handUp 211 = .ok (.iconst 0, 1) := by decide +kernel
theorem dX1_handUp_212 : decode cX1_handUp 212 = .ok (.putfield 75, 3) := by decide +kernel
theorem dX1_handUp_215 : decode cX1_handUp 215 = .ok (.aload_n 0, 1) := by decide +kernel
theorem dX1_handUp_216 : decode cX1_handUp 216 = .ok (.iload_n 3, 1) := by decide +kernel
theorem dX1_handUp_217 : decode cX1_handUp 217 = .ok (.iload_n 2, 1) := by decide +kernel
theorem dX1_handUp_218 : decode cX1_handUp 218 = .ok (.invokevirtual 76, 3) := by decide +kernel
theorem dX1_handUp_221 : decode cX1_handUp 221 = .ok (.iconst 1, 1) := by decide +kernel
theorem dX1_handUp_222 : decode cX1_handUp 222 = .ok (.ireturn, 1) := by decide +kernel
theorem dX1_crown_0 : decode cX1_crown 0 = .ok (.aload_n 0, 1) := by decide +kernel
theorem dX1_crown_1 : decode cX1_crown 1 = .ok (.getfield 164, 3) := by decide +kernel
theorem dX1_crown_4 : decode cX1_crown 4 = .ok (.istore_n 2, 1) := by decide +kernel
theorem dX1_crown_5 : decode cX1_crown 5 = .ok (.aload_n 0, 1) := by decide +kernel
theorem dX1_crown_6 : decode cX1_crown 6 = .ok (.getfield 167, 3) := by decide +kernel
theorem dX1_crown_9 : decode cX1_crown 9 = .ok (.iconst (-1), 1) := by decide +kernel
theorem dX1_crown_10 : decode cX1_crown 10 = .ok (.if_icmp .eq 46, 3) := by decide +kernel
theorem dX1_crown_13 : decode cX1_crown 13 = .ok (.aload_n 0, 1) := by decide +kernel
theorem dX1_crown_14 : decode cX1_crown 14 = .ok (.getfield 21, 3) := by decide +kernel
theorem dX1_crown_17 : decode cX1_crown 17 = .ok (.iconst 0, 1) := by decide +kernel
theorem dX1_crown_18 : decode cX1_crown 18 = .ok (.iload_n 1, 1) := by decide +kernel
theorem dX1_crown_19 : decode cX1_crown 19 = .ok (.invokevirtual 161, 3) := by decide +kernel
theorem dX1_crown_22 : decode cX1_crown 22 = .ok (.istore_n 2, 1) := by decide +kernel
theorem dX1_crown_23 : decode cX1_crown 23 = .ok (.aload_n 0, 1) := by decide +kernel
theorem dX1_crown_24 : decode cX1_crown 24 = .ok (.getfield 21, 3) := by decide +kernel
theorem dX1_crown_27 : decode cX1_crown 27 = .ok (.iload_n 2, 1) := by decide +kernel
theorem dX1_crown_28 : decode cX1_crown 28 = .ok (.iconst 0, 1) := by decide +kernel
theorem dX1_crown_29 : decode cX1_crown 29 = .ok (.aload_n 0, 1) := by decide +kernel
theorem dX1_crown_30 : decode cX1_crown 30 = .ok (.getfield 164, 3) := by decide +kernel
theorem dX1_crown_33 : decode cX1_crown 33 = .ok (.iload_n 1, 1) := by decide +kernel
theorem dX1_crown_34 : decode cX1_crown 34 = .ok (.invokevirtual 71, 3) := by decide +kernel
theorem dX1_crown_37 : decode cX1_crown 37 = .ok (.aload_n 0, 1) := by decide +kernel
theorem dX1_crown_38 : decode cX1_crown 38 = .ok (.getfield 21, 3) := by decide +kernel
theorem dX1_crown_41 : decode cX1_crown 41 = .ok (.iload_n 2, 1) := by decide +kernel
theorem dX1_crown_42 : decode cX1_crown 42 = .ok (.aload_n 0, 1) := by decide +kernel
theorem dX1_crown_43 : decode cX1_crown 43 = .ok (.getfield 167, 3) := by decide +kernel
theorem dX1_crown_46 : decode cX1_crown 46 = .ok (.aload_n 0, 1) := by decide +kernel
theorem dX1_crown_47 : decode cX1_crown 47 = .ok (.getfield 164, 3) := by decide +kernel
theorem dX1_crown_50 : decode cX1_crown 50 = .ok (.iconst 1, 1) := by decide +kernel
theorem dX1_crown_51 : decode cX1_crown 51 = .ok (.iadd, 1) := by decide +kernel
theorem dX1_crown_52 : decode cX1_crown 52 = .ok (.iload_n 1, 1) := by decide +kernel
theorem dX1_crown_53 : decode cX1_crown 53 = .ok (.invokevirtual 71, 3) := by decide +kernel
theorem dX1_crown_56 : decode cX1_crown 56 = .ok (.aload_n 0, 1) := by decide +kernel
theorem dX1_crown_57 : decode cX1_crown 57 = .ok (.getfield 9, 3) := by decide +kernel
theorem dX1_crown_60 : decode cX1_crown 60 = .ok (.iload_n 2, 1) := by decide +kernel
theorem dX1_crown_61 : decode cX1_crown 61 = .ok (.iload_n 1, 1) := by decide +kernel
theorem dX1_crown_62 : decode cX1_crown 62 = .ok (.invokevirtual 177, 3) := by decide +kernel
theorem dX1_crown_65 : decode cX1_crown 65 = .ok (.return_, 1) := by decide +kernel
theorem dX3_init_0 : decode cX3_init 0 = .ok (.aload_n 0, 1) := by decide +kernel
theorem dX3_init_1 : decode cX3_init 1 = .ok (.invokespecial 3, 3) := by decide +kernel
theorem dX3_init_4 : decode cX3_init 4 = .ok (.aload_n 0, 1) := by decide +kernel
theorem dX3_init_5 : decode cX3_init 5 = .ok (.aload_n 1, 1) := by decide +kernel
theorem dX3_init_6 : decode cX3_init 6 = .ok (.putfield 9, 3) := by decide +kernel
theorem dX3_init_9 : decode cX3_init 9 = .ok (.aload_n 0, 1) := by decide +kernel
theorem dX3_init_10 : decode cX3_init 10 = .ok (.new 15, 3) := by decide +kernel
theorem dX3_init_13 : decode cX3_init 13 = .ok (.dup, 1) := by decide +kernel
theorem dX3_init_14 : decode cX3_init 14 = .ok (.sipush 1000, 3) := by decide +kernel
theorem dX3_init_17 : decode cX3_init 17 = .ok (.invokespecial 17, 3) := by decide +kernel
theorem dX3_init_20 : decode cX3_init 20 = .ok (.putfield 20, 3) := by decide +kernel
theorem dX3_init_23 : decode cX3_init 23 = .ok (.aload_n 0, 1) := by decide +kernel
theorem dX3_init_24 : decode cX3_init 24 = .ok (.new 15, 3) := by decide +kernel
theorem dX3_init_27 : decode cX3_init 27 = .ok (.dup, 1) := by decide +kernel
theorem dX3_init_28 : decode cX3_init 28 = .ok (.sipush 1000, 3) := by decide +kernel
theorem dX3_init_31 : decode cX3_init 31 = .ok (.invokespecial 17, 3) := by decide +kernel
theorem dX3_init_34 : decode cX3_init 34 = .ok (.putfield 24, 3) := by decide +kernel
theorem dX3_init_37 : decode cX3_init 37 = .ok (.return_, 1) := by decide +kernel
theorem dX3_fillTable_0 : decode cX3_fillTable 0 = .ok (.aload_n 1, 1) := by decide +kernel
theorem dX3_fillTable_1 : decode cX3_fillTable 1 = .ok (.sipush 1000, 3) := by decide +kernel
theorem dX3_fillTable_4 : decode cX3_fillTable 4 = .ok (.iconst (-1), 1) := by decide +kernel
theorem dX3_fillTable_5 : decode cX3_fillTable 5 = .ok (.invokevirtual 27, 3) := by decide +kernel
theorem dX3_fillTable_8 : decode cX3_fillTable 8 = .ok (.iconst 1, 1) := by decide +kernel
theorem dX3_fillTable_9 : decode cX3_fillTable 9 = .ok (.istore_n 3, 1) := by decide +kernel
theorem dX3_fillTable_10 : decode cX3_fillTable 10 = .ok (.iload_n 3, 1) := by decide +kernel
theorem dX3_fillTable_11 : decode cX3_fillTable 11 = .ok (.iload_n 2, 1) := by decide +kernel
theorem dX3_fillTable_12 : decode cX3_fillTable 12 = .ok (.if_icmp .gt 44, 3) := by decide +kernel
theorem dX3_fillTable_15 : decode cX3_fillTable 15 = .ok (.aload_n 1, 1) := by decide +kernel
theorem dX3_fillTable_16 : decode cX3_fillTable 16 = .ok (.aload_n 0, 1) := by decide +kernel
theorem dX3_fillTable_17 : decode cX3_fillTable 17 = .ok (.getfield 9, 3) := by decide +kernel
theorem dX3_fillTable_20 : decode cX3_fillTable 20 = .ok (.getfield 31, 3) := by decide +kernel
theorem dX3_fillTable_23 : decode cX3_fillTable 23 = .ok (.iload_n 3, 1) := by decide +kernel
theorem dX3_fillTable_24 : decode cX3_fillTable 24 = .ok (.invokevirtual 36, 3) := by decide +kernel
theorem dX3_fillTable_27 : decode cX3_fillTable 27 = .ok (.aload_n 0, 1) := by decide +kernel
theorem dX3_fillTable_28 : decode cX3_fillTable 28 = .ok (.getfield 9, 3) := by decide +kernel
theorem dX3_fillTable_31 : decode cX3_fillTable 31 = .ok (.getfield 40, 3) := by decide +kernel
theorem dX3_fillTable_34 : decode cX3_fillTable 34 = .ok (.iload_n 3, 1) := by decide +kernel
theorem dX3_fillTable_35 : decode cX3_fillTable 35 = .ok (.invokevirtual 36, 3) := by decide +kernel
theorem dX3_fillTable_38 : decode cX3_fillTable 38 = .ok (.iconst 1, 1) := by decide +kernel
theorem dX3_fillTable_39 : decode cX3_fillTable 39 = .ok (.if_icmp .ne 7, 3) := by decide +kernel
theorem dX3_fillTable_42 : decode cX3_fillTable 42 = .ok (.iload_n 3, 1) := by decide +kernel
theorem dX3_fillTable_43 : decode cX3_fillTable 43 = .ok (.goto 4, 3) := by decide +kernel
theorem dX3_fillTable_46 : decode cX3_fillTable 46 = .ok (.iconst (-1), 1) := by decide +kernel
theorem dX3_fillTable_47 : decode cX3_fillTable 47 = .ok (.invokevirtual 43, 3) := by decide +kernel
theorem dX3_fillTable_50 : decode cX3_fillTable 50 = .ok (.iinc 3 1, 3) := by decide +kernel
theorem dX3_fillTable_53 : decode cX3_fillTable 53 = .ok (.goto (-43), 3) := by decide +kernel
theorem dX3_fillTable_56 : decode cX3_fillTable 56 = .ok (.return_, 1) := by decide +kernel
theorem dX3_livingIn_0 : decode cX3_livingIn 0 = .ok (.iconst 0, 1) := by decide +kernel
theorem dX3_livingIn_1 : decode cX3_livingIn 1 = .ok (.istore 4, 2) := by decide +kernel
theorem dX3_livingIn_3 : decode cX3_livingIn 3 = .ok (.iconst 1, 1) := by decide +kernel
theorem dX3_livingIn_4 : decode cX3_livingIn 4 = .ok (.istore 5, 2) := by decide +kernel
theorem dX3_livingIn_6 : decode cX3_livingIn 6 = .ok (.iload 5, 2) := by decide +kernel
theorem dX3_livingIn_8 : decode cX3_livingIn 8 = .ok (.iload_n 3, 1) := by decide +kernel
theorem dX3_livingIn_9 : decode cX3_livingIn 9 = .ok (.if_icmp .gt 51, 3) := by decide +kernel
theorem dX3_livingIn_12 : decode cX3_livingIn 12 = .ok (.aload_n 0, 1) := by decide +kernel
theorem dX3_livingIn_13 : decode cX3_livingIn 13 = .ok (.getfield 9, 3) := by decide +kernel
theorem dX3_livingIn_16 : decode cX3_livingIn 16 = .ok (.getfield 31, 3) := by decide +kernel
theorem dX3_livingIn_19 : decode cX3_livingIn 19 = .ok (.iload 5, 2) := by decide +kernel
theorem dX3_livingIn_21 : decode cX3_livingIn 21 = .ok (.invokevirtual 36, 3) := by decide +kernel
theorem dX3_livingIn_24 : decode cX3_livingIn 24 = .ok (.istore 6, 2) := by decide +kernel
theorem dX3_livingIn_26 : decode cX3_livingIn 26 = .ok (.iload 6, 2) := by decide +kernel
theorem dX3_livingIn_28 : decode cX3_livingIn 28 = .ok (.iload_n 1, 1) := by decide +kernel
theorem dX3_livingIn_29 : decode cX3_livingIn 29 = .ok (.if_icmp .lt 25, 3) := by decide +kernel
theorem dX3_livingIn_32 : decode cX3_livingIn 32 = .ok (.iload 6, 2) := by decide +kernel
theorem dX3_livingIn_34 : decode cX3_livingIn 34 = .ok (.iload_n 2, 1) := by decide +kernel
theorem dX3_livingIn_35 : decode cX3_livingIn 35 = .ok (.if_icmp .gt 19, 3) := by decide +kernel
theorem dX3_livingIn_38 : decode cX3_livingIn 38 = .ok (.aload_n 0, 1) := by decide +kernel
theorem dX3_livingIn_39 : decode cX3_livingIn 39 = .ok (.getfield 9, 3) := by decide +kernel
theorem dX3_livingIn_42 : decode cX3_livingIn 42 = .ok (.iload 5, 2) := by decide +kernel
theorem dX3_livingIn_44 : decode cX3_livingIn 44 = .ok (.iload_n 3, 1) := by decide +kernel
theorem dX3_livingIn_45 : decode cX3_livingIn 45 = .ok (.invokevirtual 46, 3) := by decide +kernel
theorem dX3_livingIn_48 : decode cX3_livingIn 48 = .ok (.ifCond .eq 6, 3) := by decide +kernel
theorem dX3_livingIn_51 : decode cX3_livingIn 51 = .ok (.iinc 4 1, 3) := by decide +kernel
theorem dX3_livingIn_54 : decode cX3_livingIn 54 = .ok (.iinc 5 1, 3) := by decide +kernel
theorem dX3_livingIn_57 : decode cX3_livingIn 57 = .ok (.goto (-51), 3) := by decide +kernel
theorem dX3_livingIn_60 : decode cX3_livingIn 60 = .ok (.iload 4, 2) := by decide +kernel
theorem dX3_livingIn_62 : decode cX3_livingIn 62 = .ok (.ireturn, 1) := by decide +kernel
theorem dX3_totalIn_0 : decode cX3_totalIn 0 = .ok (.iconst 0, 1) := by decide +kernel
theorem dX3_totalIn_1 : decode cX3_totalIn 1 = .ok (.istore 4, 2) := by decide +kernel
theorem dX3_totalIn_3 : decode cX3_totalIn 3 = .ok (.iconst 1, 1) := by decide +kernel
theorem dX3_totalIn_4 : decode cX3_totalIn 4 = .ok (.istore 5, 2) := by decide +kernel
theorem dX3_totalIn_6 : decode cX3_totalIn 6 = .ok (.iload 5, 2) := by decide +kernel
theorem dX3_totalIn_8 : decode cX3_totalIn 8 = .ok (.iload_n 3, 1) := by decide +kernel
theorem dX3_totalIn_9 : decode cX3_totalIn 9 = .ok (.if_icmp .gt 65, 3) := by decide +kernel
theorem dX3_totalIn_12 : decode cX3_totalIn 12 = .ok (.aload_n 0, 1) := by decide +kernel
theorem dX3_totalIn_13 : decode cX3_totalIn 13 = .ok (.getfield 9, 3) := by decide +kernel
theorem dX3_totalIn_16 : decode cX3_totalIn 16 = .ok (.getfield 31, 3) := by decide +kernel
theorem dX3_totalIn_19 : decode cX3_totalIn 19 = .ok (.iload 5, 2) := by decide +kernel
theorem dX3_totalIn_21 : decode cX3_totalIn 21 = .ok (.invokevirtual 36, 3) := by decide +kernel
theorem dX3_totalIn_24 : decode cX3_totalIn 24 = .ok (.istore 6, 2) := by decide +kernel
theorem dX3_totalIn_26 : decode cX3_totalIn 26 = .ok (.iload 6, 2) := by decide +kernel
theorem dX3_totalIn_28 : decode cX3_totalIn 28 = .ok (.iload_n 1, 1) := by decide +kernel
theorem dX3_totalIn_29 : decode cX3_totalIn 29 = .ok (.if_icmp .lt 39, 3) := by decide +kernel
theorem dX3_totalIn_32 : decode cX3_totalIn 32 = .ok (.iload 6, 2) := by decide +kernel
theorem dX3_totalIn_34 : decode cX3_totalIn 34 = .ok (.iload_n 2, 1) := by decide +kernel
theorem dX3_totalIn_35 : decode cX3_totalIn 35 = .ok (.if_icmp .gt 33, 3) := by decide +kernel
theorem dX3_totalIn_38 : decode cX3_totalIn 38 = .ok (.aload_n 0, 1) := by decide +kernel
theorem dX3_totalIn_39 : decode cX3_totalIn 39 = .ok (.getfield 9, 3) := by decide +kernel
theorem dX3_totalIn_42 : decode cX3_totalIn 42 = .ok (.iload 5, 2) := by decide +kernel
theorem dX3_totalIn_44 : decode cX3_totalIn 44 = .ok (.iload_n 3, 1) := by decide +kernel
theorem dX3_totalIn_45 : decode cX3_totalIn 45 = .ok (.invokevirtual 46, 3) := by decide +kernel
theorem dX3_totalIn_48 : decode cX3_totalIn 48 = .ok (.ifCond .eq 20, 3) := by decide +kernel
theorem dX3_totalIn_51 : decode cX3_totalIn 51 = .ok (.iload 4, 2) := by decide +kernel
theorem dX3_totalIn_53 : decode cX3_totalIn 53 = .ok (.aload_n 0, 1) := by decide +kernel
theorem dX3_totalIn_54 : decode cX3_totalIn 54 = .ok (.getfield 9, 3) := by decide +kernel
theorem dX3_totalIn_57 : decode cX3_totalIn 57 = .ok (.getfield 50, 3) := by decide +kernel
theorem dX3_totalIn_60 : decode cX3_totalIn 60 = .ok (.iload 5, 2) := by decide +kernel
theorem dX3_totalIn_62 : decode cX3_totalIn 62 = .ok (.invokevirtual 36, 3) := by decide +kernel
theorem dX3_totalIn_65 : decode cX3_totalIn 65 = .ok (.iadd, 1) := by decide +kernel
theorem dX3_totalIn_66 : decode cX3_totalIn 66 = .ok (.istore 4, 2) := by decide +kernel
theorem dX3_totalIn_68 : decode cX3_totalIn 68 = .ok (.iinc 5 1, 3) := by decide +kernel
theorem dX3_totalIn_71 : decode cX3_totalIn 71 = .ok (.goto (-65), 3) := by decide +kernel
theorem dX3_totalIn_74 : decode cX3_totalIn 74 = .ok (.iload 4, 2) := by decide +kernel
theorem dX3_totalIn_76 : decode cX3_totalIn 76 = .ok (.ireturn, 1) := by decide +kernel
theorem dX3_keyByRank_0 : decode cX3_keyByRank 0 = .ok (.aload_n 0, 1) := by decide +kernel
theorem dX3_keyByRank_1 : decode cX3_keyByRank 1 = .ok (.aload_n 0, 1) := by decide +kernel
theorem dX3_keyByRank_2 : decode cX3_keyByRank 2 = .ok (.getfield 20, 3) := by decide +kernel
theorem dX3_keyByRank_5 : decode cX3_keyByRank 5 = .ok (.iload_n 2, 1) := by decide +kernel
theorem dX3_keyByRank_6 : decode cX3_keyByRank 6 = .ok (.invokevirtual 53, 3) := by decide +kernel
theorem dX3_keyByRank_9 : decode cX3_keyByRank 9 = .ok (.iload_n 1, 1) := by decide +kernel
theorem dX3_keyByRank_10 : decode cX3_keyByRank 10 = .ok (.istore_n 3, 1) := by decide +kernel
theorem dX3_keyByRank_11 : decode cX3_keyByRank 11 = .ok (.iconst 0, 1) := by decide +kernel
theorem dX3_keyByRank_12 : decode cX3_keyByRank 12 = .ok (.istore 4, 2) := by decide +kernel
theorem dX3_keyByRank_14 : decode cX3_keyByRank 14 = .ok (.iload 4, 2) := by decide +kernel
theorem dX3_keyByRank_16 : decode cX3_keyByRank 16 = .ok (.sipush 1000, 3) := by decide +kernel
theorem dX3_keyByRank_19 : decode cX3_keyByRank 19 = .ok (.if_icmp .ge 32, 3) := by decide +kernel
theorem dX3_keyByRank_22 : decode cX3_keyByRank 22 = .ok (.aload_n 0, 1) := by decide +kernel
theorem dX3_keyByRank_23 : decode cX3_keyByRank 23 = .ok (.getfield 20, 3) := by decide +kernel
theorem dX3_keyByRank_26 : decode cX3_keyByRank 26 = .ok (.iload 4, 2) := by decide +kernel
theorem dX3_keyByRank_28 : decode cX3_keyByRank 28 = .ok (.invokevirtual 36, 3) := by decide +kernel
theorem dX3_keyByRank_31 : decode cX3_keyByRank 31 = .ok (.iconst (-1), 1) := by decide +kernel
theorem dX3_keyByRank_32 : decode cX3_keyByRank 32 = .ok (.if_icmp .eq 13, 3) := by decide +kernel
theorem dX3_keyByRank_35 : decode cX3_keyByRank 35 = .ok (.iload_n 3, 1) := by decide +kernel
theorem dX3_keyByRank_36 : decode cX3_keyByRank 36 = .ok (.ifCond .ne 6, 3) := by decide +kernel
theorem dX3_keyByRank_39 : decode cX3_keyByRank 39 = .ok (.iload 4, 2) := by decide +kernel
theorem dX3_keyByRank_41 : decode cX3_keyByRank 41 = .ok (.ireturn, 1) := by decide +kernel
theorem dX3_keyByRank_42 : decode cX3_keyByRank 42 = .ok (.iinc 3 (-1), 3) := by decide +kernel
theorem dX3_keyByRank_45 : decode cX3_keyByRank 45 = .ok (.iinc 4 1, 3) := by decide +kernel
theorem dX3_keyByRank_48 : decode cX3_keyByRank 48 = .ok (.goto (-34), 3) := by decide +kernel
theorem dX3_keyByRank_51 : decode cX3_keyByRank 51 = .ok (.bipush (-2), 2) := by decide +kernel
theorem dX3_keyByRank_53 : decode cX3_keyByRank 53 = .ok (.ireturn, 1) := by decide +kernel
theorem dX3_fromKeyUp_0 : decode cX3_fromKeyUp 0 = .ok (.bipush (-2), 2) := by decide +kernel
theorem dX3_fromKeyUp_2 : decode cX3_fromKeyUp 2 = .ok (.istore_n 3, 1) := by decide +kernel
theorem dX3_fromKeyUp_3 : decode cX3_fromKeyUp 3 = .ok (.iconst 1, 1) := by decide +kernel
theorem dX3_fromKeyUp_4 : decode cX3_fromKeyUp 4 = .ok (.istore 4, 2) := by decide +kernel
theorem dX3_fromKeyUp_6 : decode cX3_fromKeyUp 6 = .ok (.iload 4, 2) := by decide +kernel
theorem dX3_fromKeyUp_8 : decode cX3_fromKeyUp 8 = .ok (.iload_n 2, 1) := by decide +kernel
theorem dX3_fromKeyUp_9 : decode cX3_fromKeyUp 9 = .ok (.if_icmp .gt 57, 3) := by decide +kernel
theorem dX3_fromKeyUp_12 : decode cX3_fromKeyUp 12 = .ok (.aload_n 0, 1) := by decide +kernel
theorem dX3_fromKeyUp_13 : decode cX3_fromKeyUp 13 = .ok (.getfield 9, 3) := by decide +kernel
theorem dX3_fromKeyUp_16 : decode cX3_fromKeyUp 16 = .ok (.getfield 31, 3) := by decide +kernel
theorem dX3_fromKeyUp_19 : decode cX3_fromKeyUp 19 = .ok (.iload 4, 2) := by decide +kernel
theorem dX3_fromKeyUp_21 : decode cX3_fromKeyUp 21 = .ok (.invokevirtual 36, 3) := by decide +kernel
theorem dX3_fromKeyUp_24 : decode cX3_fromKeyUp 24 = .ok (.istore 5, 2) := by decide +kernel
theorem dX3_fromKeyUp_26 : decode cX3_fromKeyUp 26 = .ok (.iload 5, 2) := by decide +kernel
theorem dX3_fromKeyUp_28 : decode cX3_fromKeyUp 28 = .ok (.iload_n 1, 1) := by decide +kernel
theorem dX3_fromKeyUp_29 : decode cX3_fromKeyUp 29 = .ok (.if_icmp .lt 31, 3) := by decide +kernel
theorem dX3_fromKeyUp_32 : decode cX3_fromKeyUp 32 = .ok (.iload_n 3, 1) := by decide +kernel
theorem dX3_fromKeyUp_33 : decode cX3_fromKeyUp 33 = .ok (.bipush (-2), 2) := by decide +kernel
theorem dX3_fromKeyUp_35 : decode cX3_fromKeyUp 35 = .ok (.if_icmp .eq 9, 3) := by decide +kernel
theorem dX3_fromKeyUp_38 : decode cX3_fromKeyUp 38 = .ok (.iload 5, 2) := by decide +kernel
theorem dX3_fromKeyUp_40 : decode cX3_fromKeyUp 40 = .ok (.iload_n 3, 1) := by decide +kernel
theorem dX3_fromKeyUp_41 : decode cX3_fromKeyUp 41 = .ok (.if_icmp .ge 19, 3) := by decide +kernel
theorem dX3_fromKeyUp_44 : decode cX3_fromKeyUp 44 = .ok (.aload_n 0, 1) := by decide +kernel
theorem dX3_fromKeyUp_45 : decode cX3_fromKeyUp 45 = .ok (.getfield 9, 3) := by decide +kernel
theorem dX3_fromKeyUp_48 : decode cX3_fromKeyUp 48 = .ok (.iload 4, 2) := by decide +kernel
theorem dX3_fromKeyUp_50 : decode cX3_fromKeyUp 50 = .ok (.iload_n 2, 1) := by decide +kernel
theorem dX3_fromKeyUp_51 : decode cX3_fromKeyUp 51 = .ok (.invokevirtual 46, 3) := by decide +kernel
theorem dX3_fromKeyUp_54 : decode cX3_fromKeyUp 54 = .ok (.ifCond .eq 6, 3) := by decide +kernel
theorem dX3_fromKeyUp_57 : decode cX3_fromKeyUp 57 = .ok (.iload 5, 2) := by decide +kernel
theorem dX3_fromKeyUp_59 : decode cX3_fromKeyUp 59 = .ok (.istore_n 3, 1) := by decide +kernel
theorem dX3_fromKeyUp_60 : decode cX3_fromKeyUp 60 = .ok (.iinc 4 1, 3) := by decide +kernel
theorem dX3_fromKeyUp_63 : decode cX3_fromKeyUp 63 = .ok (.goto (-57), 3) := by decide +kernel
theorem dX3_fromKeyUp_66 : decode cX3_fromKeyUp 66 = .ok (.iload_n 3, 1) := by decide +kernel
theorem dX3_fromKeyUp_67 : decode cX3_fromKeyUp 67 = .ok (.ireturn, 1) := by decide +kernel
theorem dX3_fromKeyDown_0 : decode cX3_fromKeyDown 0 = .ok (.bipush (-2), 2) := by decide +kernel
theorem dX3_fromKeyDown_2 : decode cX3_fromKeyDown 2 = .ok (.istore_n 3, 1) := by decide +kernel
theorem dX3_fromKeyDown_3 : decode cX3_fromKeyDown 3 = .ok (.iconst 1, 1) := by decide +kernel
theorem dX3_fromKeyDown_4 : decode cX3_fromKeyDown 4 = .ok (.istore 4, 2) := by decide +kernel
theorem dX3_fromKeyDown_6 : decode cX3_fromKeyDown 6 = .ok (.iload 4, 2) := by decide +kernel
theorem dX3_fromKeyDown_8 : decode cX3_fromKeyDown 8 = .ok (.iload_n 2, 1) := by decide +kernel
theorem dX3_fromKeyDown_9 : decode cX3_fromKeyDown 9 = .ok (.if_icmp .gt 51, 3) := by decide +kernel
theorem dX3_fromKeyDown_12 : decode cX3_fromKeyDown 12 = .ok (.aload_n 0, 1) := by decide +kernel
theorem dX3_fromKeyDown_13 : decode cX3_fromKeyDown 13 = .ok (.getfield 9, 3) := by decide +kernel
theorem dX3_fromKeyDown_16 : decode cX3_fromKeyDown 16 = .ok (.getfield 31, 3) := by decide +kernel
theorem dX3_fromKeyDown_19 : decode cX3_fromKeyDown 19 = .ok (.iload 4, 2) := by decide +kernel
theorem dX3_fromKeyDown_21 : decode cX3_fromKeyDown 21 = .ok (.invokevirtual 36, 3) := by decide +kernel
theorem dX3_fromKeyDown_24 : decode cX3_fromKeyDown 24 = .ok (.istore 5, 2) := by decide +kernel
theorem dX3_fromKeyDown_26 : decode cX3_fromKeyDown 26 = .ok (.iload 5, 2) := by decide +kernel
theorem dX3_fromKeyDown_28 : decode cX3_fromKeyDown 28 = .ok (.iload_n 1, 1) := by decide +kernel
theorem dX3_fromKeyDown_29 : decode cX3_fromKeyDown 29 = .ok (.if_icmp .gt 25, 3) := by decide +kernel
theorem dX3_fromKeyDown_32 : decode cX3_fromKeyDown 32 = .ok (.iload 5, 2) := by decide +kernel
theorem dX3_fromKeyDown_34 : decode cX3_fromKeyDown 34 = .ok (.iload_n 3, 1) := by decide +kernel
theorem dX3_fromKeyDown_35 : decode cX3_fromKeyDown 35 = .ok (.if_icmp .le 19, 3) := by decide +kernel
theorem dX3_fromKeyDown_38 : decode cX3_fromKeyDown 38 = .ok (.aload_n 0, 1) := by decide +kernel
theorem dX3_fromKeyDown_39 : decode cX3_fromKeyDown 39 = .ok (.getfield 9, 3) := by decide +kernel
theorem dX3_fromKeyDown_42 : decode cX3_fromKeyDown 42 = .ok (.iload 4, 2) := by decide +kernel
theorem dX3_fromKeyDown_44 : decode cX3_fromKeyDown 44 = .ok (.iload_n 2, 1) := by decide +kernel
theorem dX3_fromKeyDown_45 : decode cX3_fromKeyDown 45 = .ok (.invokevirtual 46, 3) := by decide +kernel
theorem dX3_fromKeyDown_48 : decode cX3_fromKeyDown 48 = .ok (.ifCond .eq 6, 3) := by decide +kernel
theorem dX3_fromKeyDown_51 : decode cX3_fromKeyDown 51 = .ok (.iload 5, 2) := by decide +kernel
theorem dX3_fromKeyDown_53 : decode cX3_fromKeyDown 53 = .ok (.istore_n 3, 1) := by decide +kernel
theorem dX3_fromKeyDown_54 : decode cX3_fromKeyDown 54 = .ok (.iinc 4 1, 3) := by decide +kernel
theorem dX3_fromKeyDown_57 : decode cX3_fromKeyDown 57 = .ok (.goto (-51), 3) := by decide +kernel
theorem dX3_fromKeyDown_60 : decode cX3_fromKeyDown 60 = .ok (.iload_n 3, 1) := by decide +kernel
theorem dX3_fromKeyDown_61 : decode cX3_fromKeyDown 61 = .ok (.ireturn, 1) := by decide +kernel
theorem dX3_differences_0 : decode cX3_differences 0 = .ok (.aload_n 0, 1) := by decide +kernel
theorem dX3_differences_1 : decode cX3_differences 1 = .ok (.aload_n 0, 1) := by decide +kernel
theorem dX3_differences_2 : decode cX3_differences 2 = .ok (.getfield 20, 3) := by decide +kernel
theorem dX3_differences_5 : decode cX3_differences 5 = .ok (.iload_n 3, 1) := by decide +kernel
theorem dX3_differences_6 : decode cX3_differences 6 = .ok (.invokevirtual 53, 3) := by decide +kernel
theorem dX3_differences_9 : decode cX3_differences 9 = .ok (.aload_n 0, 1) := by decide +kernel
theorem dX3_differences_10 : decode cX3_differences 10 = .ok (.aload_n 0, 1) := by decide +kernel
theorem dX3_differences_11 : decode cX3_differences 11 = .ok (.getfield 24, 3) := by decide +kernel
theorem dX3_differences_14 : decode cX3_differences 14 = .ok (.iload 4, 2) := by decide +kernel
theorem dX3_differences_16 : decode cX3_differences 16 = .ok (.invokevirtual 53, 3) := by decide +kernel
theorem dX3_differences_19 : decode cX3_differences 19 = .ok (.iconst 0, 1) := by decide +kernel
theorem dX3_differences_20 : decode cX3_differences 20 = .ok (.istore 5, 2) := by decide +kernel
theorem dX3_differences_22 : decode cX3_differences 22 = .ok (.iload_n 1, 1) := by decide +kernel
theorem dX3_differences_23 : decode cX3_differences 23 = .ok (.istore 6, 2) := by decide +kernel
theorem dX3_differences_25 : decode cX3_differences 25 = .ok (.iload 6, 2) := by decide +kernel
theorem dX3_differences_27 : decode cX3_differences 27 = .ok (.iload_n 2, 1) := by decide +kernel
theorem dX3_differences_28 : decode cX3_differences 28 = .ok (.if_icmp .gt 104, 3) := by decide +kernel
theorem dX3_differences_31 : decode cX3_differences 31 = .ok (.aload_n 0, 1) := by decide +kernel
theorem dX3_differences_32 : decode cX3_differences 32 = .ok (.getfield 20, 3) := by decide +kernel
theorem dX3_differences_35 : decode cX3_differences 35 = .ok (.iload 6, 2) := by decide +kernel
theorem dX3_differences_37 : decode cX3_differences 37 = .ok (.invokevirtual 36, 3) := by decide +kernel
theorem dX3_differences_40 : decode cX3_differences 40 = .ok (.istore 7, 2) := by decide +kernel
theorem dX3_differences_42 : decode cX3_differences 42 = .ok (.aload_n 0, 1) := by decide +kernel
theorem dX3_differences_43 : decode cX3_differences 43 = .ok (.getfield 24, 3) := by decide +kernel
theorem dX3_differences_46 : decode cX3_differences 46 = .ok (.iload 6, 2) := by decide +kernel
theorem dX3_differences_48 : decode cX3_differences 48 = .ok (.invokevirtual 36, 3) := by decide +kernel
theorem dX3_differences_51 : decode cX3_differences 51 = .ok (.istore 8, 2) := by decide +kernel
theorem dX3_differences_53 : decode cX3_differences 53 = .ok (.iload 7, 2) := by decide +kernel
theorem dX3_differences_55 : decode cX3_differences 55 = .ok (.iconst (-1), 1) := by decide +kernel
theorem dX3_differences_56 : decode cX3_differences 56 = .ok (.if_icmp .ne 7, 3) := by decide +kernel
theorem dX3_differences_59 : decode cX3_differences 59 = .ok (.iconst 1, 1) := by decide +kernel
theorem dX3_differences_60 : decode cX3_differences 60 = .ok (.goto 4, 3) := by decide +kernel
theorem dX3_differences_63 : decode cX3_differences 63 = .ok (.iconst 0, 1) := by decide +kernel
theorem dX3_differences_64 : decode cX3_differences 64 = .ok (.iload 8, 2) := by decide +kernel
theorem dX3_differences_66 : decode cX3_differences 66 = .ok (.iconst (-1), 1) := by decide +kernel
theorem dX3_differences_67 : decode cX3_differences 67 = .ok (.if_icmp .ne 7, 3) := by decide +kernel
theorem dX3_differences_70 : decode cX3_differences 70 = .ok (.iconst 1, 1) := by decide +kernel
theorem dX3_differences_71 : decode cX3_differences 71 = .ok (.goto 4, 3) := by decide +kernel
theorem dX3_differences_74 : decode cX3_differences 74 = .ok (.iconst 0, 1) := by decide +kernel
theorem dX3_differences_75 : decode cX3_differences 75 = .ok (.if_icmp .eq 7, 3) := by decide +kernel
theorem dX3_differences_78 : decode cX3_differences 78 = .ok (.iconst 1, 1) := by decide +kernel
theorem dX3_differences_79 : decode cX3_differences 79 = .ok (.goto 4, 3) := by decide +kernel
theorem dX3_differences_82 : decode cX3_differences 82 = .ok (.iconst 0, 1) := by decide +kernel
theorem dX3_differences_83 : decode cX3_differences 83 = .ok (.istore 9, 2) := by decide +kernel
theorem dX3_differences_85 : decode cX3_differences 85 = .ok (.iload 9, 2) := by decide +kernel
theorem dX3_differences_87 : decode cX3_differences 87 = .ok (.ifCond .ne 36, 3) := by decide +kernel
theorem dX3_differences_90 : decode cX3_differences 90 = .ok (.iload 7, 2) := by decide +kernel
theorem dX3_differences_92 : decode cX3_differences 92 = .ok (.iconst (-1), 1) := by decide +kernel
theorem dX3_differences_93 : decode cX3_differences 93 = .ok (.if_icmp .eq 33, 3) := by decide +kernel
theorem dX3_differences_96 : decode cX3_differences 96 = .ok (.aload_n 0, 1) := by decide +kernel
theorem dX3_differences_97 : decode cX3_differences 97 = .ok (.getfield 9, 3) := by decide +kernel
theorem dX3_differences_100 : decode cX3_differences 100 = .ok (.getfield 50, 3) := by decide +kernel
theorem dX3_differences_103 : decode cX3_differences 103 = .ok (.iload 7, 2) := by decide +kernel
theorem dX3_differences_105 : decode cX3_differences 105 = .ok (.invokevirtual 36, 3) := by decide +kernel
theorem dX3_differences_108 : decode cX3_differences 108 = .ok (.aload_n 0, 1) := by decide +kernel
theorem dX3_differences_109 : decode cX3_differences 109 = .ok (.getfield 9, 3) := by decide +kernel
theorem dX3_differences_112 : decode cX3_differences 112 = .ok (.getfield 50, 3) := by decide +kernel
theorem dX3_differences_115 : decode cX3_differences 115 = .ok (.iload 8, 2) := by decide +kernel
theorem dX3_differences_117 : decode cX3_differences 117 = .ok (.invokevirtual 36, 3) := by decide +kernel
theorem dX3_differences_120 : decode cX3_differences 120 = .ok (.if_icmp .eq 6, 3) := by decide +kernel
theorem dX3_differences_123 : decode cX3_differences 123 = .ok (.iinc 5 1, 3) := by decide +kernel
theorem dX3_differences_126 : decode cX3_differences 126 = .ok (.iinc 6 1, 3) := by decide +kernel
theorem dX3_differences_129 : decode cX3_differences 129 = .ok (.goto (-104), 3) := by decide +kernel
theorem dX3_differences_132 : decode cX3_differences 132 = .ok (.iload 5, 2) := by decide +kernel
theorem dX3_differences_134 : decode cX3_differences 134 = .ok (.ireturn, 1) := by decide +kernel
theorem dX3_livingWithin_0 : decode cX3_livingWithin 0 = .ok (.aload_n 0, 1) := by decide +kernel
theorem dX3_livingWithin_1 : decode cX3_livingWithin 1 = .ok (.aload_n 0, 1) := by decide +kernel
theorem dX3_livingWithin_2 : decode cX3_livingWithin 2 = .ok (.getfield 20, 3) := by decide +kernel
theorem dX3_livingWithin_5 : decode cX3_livingWithin 5 = .ok (.iload_n 3, 1) := by decide +kernel
theorem dX3_livingWithin_6 : decode cX3_livingWithin 6 = .ok (.invokevirtual 53, 3) := by decide +kernel
theorem dX3_livingWithin_9 : decode cX3_livingWithin 9 = .ok (.iload_n 3, 1) := by decide +kernel
theorem dX3_livingWithin_10 : decode cX3_livingWithin 10 = .ok (.iconst 1, 1) := by decide +kernel
theorem dX3_livingWithin_11 : decode cX3_livingWithin 11 = .ok (.iadd, 1) := by decide +kernel
theorem dX3_livingWithin_12 : decode cX3_livingWithin 12 = .ok (.istore 5, 2) := by decide +kernel
theorem dX3_livingWithin_14 : decode cX3_livingWithin 14 = .ok (.iload 5, 2) := by decide +kernel
theorem dX3_livingWithin_16 : decode cX3_livingWithin 16 = .ok (.iload 4, 2) := by decide +kernel
theorem dX3_livingWithin_18 : decode cX3_livingWithin 18 = .ok (.if_icmp .gt 46, 3) := by decide +kernel
theorem dX3_livingWithin_21 : decode cX3_livingWithin 21 = .ok (.aload_n 0, 1) := by decide +kernel
theorem dX3_livingWithin_22 : decode cX3_livingWithin 22 = .ok (.getfield 9, 3) := by decide +kernel
theorem dX3_livingWithin_25 : decode cX3_livingWithin 25 = .ok (.getfield 40, 3) := by decide +kernel
theorem dX3_livingWithin_28 : decode cX3_livingWithin 28 = .ok (.iload 5, 2) := by decide +kernel
theorem dX3_livingWithin_30 : decode cX3_livingWithin 30 = .ok (.invokevirtual 36, 3) := by decide +kernel
theorem dX3_livingWithin_33 : decode cX3_livingWithin 33 = .ok (.iconst 1, 1) := by decide +kernel
theorem dX3_livingWithin_34 : decode cX3_livingWithin 34 = .ok (.if_icmp .ne 24, 3) := by decide +kernel
theorem dX3_livingWithin_37 : decode cX3_livingWithin 37 = .ok (.aload_n 0, 1) := by decide +kernel
theorem dX3_livingWithin_38 : decode cX3_livingWithin 38 = .ok (.getfield 20, 3) := by decide +kernel
theorem dX3_livingWithin_41 : decode cX3_livingWithin 41 = .ok (.aload_n 0, 1) := by decide +kernel
theorem dX3_livingWithin_42 : decode cX3_livingWithin 42 = .ok (.getfield 9, 3) := by decide +kernel
theorem dX3_livingWithin_45 : decode cX3_livingWithin 45 = .ok (.getfield 31, 3) := by decide +kernel
theorem dX3_livingWithin_48 : decode cX3_livingWithin 48 = .ok (.iload 5, 2) := by decide +kernel
theorem dX3_livingWithin_50 : decode cX3_livingWithin 50 = .ok (.invokevirtual 36, 3) := by decide +kernel
theorem dX3_livingWithin_53 : decode cX3_livingWithin 53 = .ok (.iload 5, 2) := by decide +kernel
theorem dX3_livingWithin_55 : decode cX3_livingWithin 55 = .ok (.invokevirtual 43, 3) := by decide +kernel
theorem dX3_livingWithin_58 : decode cX3_livingWithin 58 = .ok (.iinc 5 1, 3) := by decide +kernel
theorem dX3_livingWithin_61 : decode cX3_livingWithin 61 = .ok (.goto (-47), 3) := by decide +kernel
theorem dX3_livingWithin_64 : decode cX3_livingWithin 64 = .ok (.iconst 0, 1) := by decide +kernel
theorem dX3_livingWithin_65 : decode cX3_livingWithin 65 = .ok (.istore 5, 2) := by decide +kernel
theorem dX3_livingWithin_67 : decode cX3_livingWithin 67 = .ok (.iload_n 1, 1) := by decide +kernel
theorem dX3_livingWithin_68 : decode cX3_livingWithin 68 = .ok (.istore 6, 2) := by decide +kernel
theorem dX3_livingWithin_70 : decode cX3_livingWithin 70 = .ok (.iload 6, 2) := by decide +kernel
theorem dX3_livingWithin_72 : decode cX3_livingWithin 72 = .ok (.iload_n 2, 1) := by decide +kernel
theorem dX3_livingWithin_73 : decode cX3_livingWithin 73 = .ok (.if_icmp .gt 25, 3) := by decide +kernel
theorem dX3_livingWithin_76 : decode cX3_livingWithin 76 = .ok (.aload_n 0, 1) := by decide +kernel
theorem dX3_livingWithin_77 : decode cX3_livingWithin 77 = .ok (.getfield 20, 3) := by decide +kernel
theorem dX3_livingWithin_80 : decode cX3_livingWithin 80 = .ok (.iload 6, 2) := by decide +kernel
theorem dX3_livingWithin_82 : decode cX3_livingWithin 82 = .ok (.invokevirtual 36, 3) := by decide +kernel
theorem dX3_livingWithin_85 : decode cX3_livingWithin 85 = .ok (.iconst (-1), 1) := by decide +kernel
theorem dX3_livingWithin_86 : decode cX3_livingWithin 86 = .ok (.if_icmp .eq 6, 3) := by decide +kernel
theorem dX3_livingWithin_89 : decode cX3_livingWithin 89 = .ok (.iinc 5 1, 3) := by decide +kernel
theorem dX3_livingWithin_92 : decode cX3_livingWithin 92 = .ok (.iinc 6 1, 3) := by decide +kernel
theorem dX3_livingWithin_95 : decode cX3_livingWithin 95 = .ok (.goto (-25), 3) := by decide +kernel
theorem dX3_livingWithin_98 : decode cX3_livingWithin 98 = .ok (.iload 5, 2) := by decide +kernel
theorem dX3_livingWithin_100 : decode cX3_livingWithin 100 = .ok (.ireturn, 1) := by decide +kernel
theorem dX3_timesOf_0 : decode cX3_timesOf 0 = .ok (.aload_n 0, 1) := by decide +kernel
theorem dX3_timesOf_1 : decode cX3_timesOf 1 = .ok (.getfield 9, 3) := by decide +kernel
theorem dX3_timesOf_4 : decode cX3_timesOf 4 = .ok (.iload_n 1, 1) := by decide +kernel
theorem dX3_timesOf_5 : decode cX3_timesOf 5 = .ok (.iload_n 2, 1) := by decide +kernel
theorem dX3_timesOf_6 : decode cX3_timesOf 6 = .ok (.invokevirtual 57, 3) := by decide +kernel
theorem dX3_timesOf_9 : decode cX3_timesOf 9 = .ok (.iconst (-1), 1) := by decide +kernel
theorem dX3_timesOf_10 : decode cX3_timesOf 10 = .ok (.if_icmp .eq 7, 3) := by decide +kernel
theorem dX3_timesOf_13 : decode cX3_timesOf 13 = .ok (.iconst 1, 1) := by decide +kernel
theorem dX3_timesOf_14 : decode cX3_timesOf 14 = .ok (.goto 4, 3) := by decide +kernel
theorem dX3_timesOf_17 : decode cX3_timesOf 17 = .ok (.iconst 0, 1) := by decide +kernel
theorem dX3_timesOf_18 : decode cX3_timesOf 18 = .ok (.istore 4, 2) := by decide +kernel
theorem dX3_timesOf_20 : decode cX3_timesOf 20 = .ok (.iload 4, 2) := by decide +kernel
theorem dX3_timesOf_22 : decode cX3_timesOf 22 = .ok (.ifCond .eq 7, 3) := by decide +kernel
theorem dX3_timesOf_25 : decode cX3_timesOf 25 = .ok (.iconst 1, 1) := by decide +kernel
theorem dX3_timesOf_26 : decode cX3_timesOf 26 = .ok (.goto 4, 3) := by decide +kernel
theorem dX3_timesOf_29 : decode cX3_timesOf 29 = .ok (.iconst 0, 1) := by decide +kernel
theorem dX3_timesOf_30 : decode cX3_timesOf 30 = .ok (.istore 5, 2) := by decide +kernel
theorem dX3_timesOf_32 : decode cX3_timesOf 32 = .ok (.iload_n 2, 1) := by decide +kernel
theorem dX3_timesOf_33 : decode cX3_timesOf 33 = .ok (.iconst 1, 1) := by decide +kernel
theorem dX3_timesOf_34 : decode cX3_timesOf 34 = .ok (.iadd, 1) := by decide +kernel
theorem dX3_timesOf_35 : decode cX3_timesOf 35 = .ok (.istore 6, 2) := by decide +kernel
theorem dX3_timesOf_37 : decode cX3_timesOf 37 = .ok (.iload 6, 2) := by decide +kernel
theorem dX3_timesOf_39 : decode cX3_timesOf 39 = .ok (.iload_n 3, 1) := by decide +kernel
theorem dX3_timesOf_40 : decode cX3_timesOf 40 = .ok (.if_icmp .gt 63, 3) := by decide +kernel
theorem dX3_timesOf_43 : decode cX3_timesOf 43 = .ok (.aload_n 0, 1) := by decide +kernel
theorem dX3_timesOf_44 : decode cX3_timesOf 44 = .ok (.getfield 9, 3) := by decide +kernel
theorem dX3_timesOf_47 : decode cX3_timesOf 47 = .ok (.getfield 31, 3) := by decide +kernel
theorem dX3_timesOf_50 : decode cX3_timesOf 50 = .ok (.iload 6, 2) := by decide +kernel
theorem dX3_timesOf_52 : decode cX3_timesOf 52 = .ok (.invokevirtual 36, 3) := by decide +kernel
theorem dX3_timesOf_55 : decode cX3_timesOf 55 = .ok (.iload_n 1, 1) := by decide +kernel
theorem dX3_timesOf_56 : decode cX3_timesOf 56 = .ok (.if_icmp .ne 26, 3) := by decide +kernel
theorem dX3_timesOf_59 : decode cX3_timesOf 59 = .ok (.aload_n 0, 1) := by decide +kernel
theorem dX3_timesOf_60 : decode cX3_timesOf 60 = .ok (.getfield 9, 3) := by decide +kernel
theorem dX3_timesOf_63 : decode cX3_timesOf 63 = .ok (.getfield 40, 3) := by decide +kernel
theorem dX3_timesOf_66 : decode cX3_timesOf 66 = .ok (.iload 6, 2) := by decide +kernel
theorem dX3_timesOf_68 : decode cX3_timesOf 68 = .ok (.invokevirtual 36, 3) := by decide +kernel
theorem dX3_timesOf_71 : decode cX3_timesOf 71 = .ok (.iconst 1, 1) := by decide +kernel
theorem dX3_timesOf_72 : decode cX3_timesOf 72 = .ok (.if_icmp .ne 7, 3) := by decide +kernel
theorem dX3_timesOf_75 : decode cX3_timesOf 75 = .ok (.iconst 1, 1) := by decide +kernel
theorem dX3_timesOf_76 : decode cX3_timesOf 76 = .ok (.goto 4, 3) := by decide +kernel
theorem dX3_timesOf_79 : decode cX3_timesOf 79 = .ok (.iconst 0, 1) := by decide +kernel
theorem dX3_timesOf_80 : decode cX3_timesOf 80 = .ok (.istore 4, 2) := by decide +kernel
theorem dX3_timesOf_82 : decode cX3_timesOf 82 = .ok (.iload 5, 2) := by decide +kernel
theorem dX3_timesOf_84 : decode cX3_timesOf 84 = .ok (.iload 4, 2) := by decide +kernel
theorem dX3_timesOf_86 : decode cX3_timesOf 86 = .ok (.ifCond .eq 7, 3) := by decide +kernel
theorem dX3_timesOf_89 : decode cX3_timesOf 89 = .ok (.iconst 1, 1) := by decide +kernel
theorem dX3_timesOf_90 : decode cX3_timesOf 90 = .ok (.goto 4, 3) := by decide +kernel
theorem dX3_timesOf_93 : decode cX3_timesOf 93 = .ok (.iconst 0, 1) := by decide +kernel
theorem dX3_timesOf_94 : decode cX3_timesOf 94 = .ok (.iadd, 1) := by decide +kernel
theorem dX3_timesOf_95 : decode cX3_timesOf 95 = .ok (.istore 5, 2) := by decide +kernel
theorem dX3_timesOf_97 : decode cX3_timesOf 97 = .ok (.iinc 6 1, 3) := by decide +kernel
theorem dX3_timesOf_100 : decode cX3_timesOf 100 = .ok (.goto (-63), 3) := by decide +kernel
theorem dX3_timesOf_103 : decode cX3_timesOf 103 = .ok (.iload 5, 2) := by decide +kernel
theorem dX3_timesOf_105 : decode cX3_timesOf 105 = .ok (.ireturn, 1) := by decide +kernel
theorem dX3_mostLiving_0 : decode cX3_mostLiving 0 = .ok (.aload_n 0, 1) := by decide +kernel
theorem dX3_mostLiving_1 : decode cX3_mostLiving 1 = .ok (.getfield 20, 3) := by decide +kernel
theorem dX3_mostLiving_4 : decode cX3_mostLiving 4 = .ok (.sipush 1000, 3) := by decide +kernel
theorem dX3_mostLiving_7 : decode cX3_mostLiving 7 = .ok (.iconst 0, 1) := by decide +kernel
theorem dX3_mostLiving_8 : decode cX3_mostLiving 8 = .ok (.invokevirtual 27, 3) := by decide +kernel
theorem dX3_mostLiving_11 : decode cX3_mostLiving 11 = .ok (.iconst 0, 1) := by decide +kernel
theorem dX3_mostLiving_12 : decode cX3_mostLiving 12 = .ok (.istore 4, 2) := by decide +kernel
theorem dX3_mostLiving_14 : decode cX3_mostLiving 14 = .ok (.iconst 0, 1) := by decide +kernel
theorem dX3_mostLiving_15 : decode cX3_mostLiving 15 = .ok (.istore 5, 2) := by decide +kernel
theorem dX3_mostLiving_17 : decode cX3_mostLiving 17 = .ok (.iconst 0, 1) := by decide +kernel
theorem dX3_mostLiving_18 : decode cX3_mostLiving 18 = .ok (.istore 6, 2) := by decide +kernel
theorem dX3_mostLiving_20 : decode cX3_mostLiving 20 = .ok (.iconst 1, 1) := by decide +kernel
theorem dX3_mostLiving_21 : decode cX3_mostLiving 21 = .ok (.istore 7, 2) := by decide +kernel
theorem dX3_mostLiving_23 : decode cX3_mostLiving 23 = .ok (.iload 7, 2) := by decide +kernel
theorem dX3_mostLiving_25 : decode cX3_mostLiving 25 = .ok (.aload_n 0, 1) := by decide +kernel
theorem dX3_mostLiving_26 : decode cX3_mostLiving 26 = .ok (.getfield 9, 3) := by decide +kernel
theorem dX3_mostLiving_29 : decode cX3_mostLiving 29 = .ok (.getfield 31, 3) := by decide +kernel
theorem dX3_mostLiving_32 : decode cX3_mostLiving 32 = .ok (.getfield 61, 3) := by decide +kernel
theorem dX3_mostLiving_35 : decode cX3_mostLiving 35 = .ok (.if_icmp .ge 98, 3) := by decide +kernel
theorem dX3_mostLiving_38 : decode cX3_mostLiving 38 = .ok (.aload_n 0, 1) := by decide +kernel
theorem dX3_mostLiving_39 : decode cX3_mostLiving 39 = .ok (.getfield 9, 3) := by decide +kernel
theorem dX3_mostLiving_42 : decode cX3_mostLiving 42 = .ok (.getfield 31, 3) := by decide +kernel
theorem dX3_mostLiving_45 : decode cX3_mostLiving 45 = .ok (.iload 7, 2) := by decide +kernel
theorem dX3_mostLiving_47 : decode cX3_mostLiving 47 = .ok (.invokevirtual 36, 3) := by decide +kernel
theorem dX3_mostLiving_50 : decode cX3_mostLiving 50 = .ok (.istore 8, 2) := by decide +kernel
theorem dX3_mostLiving_52 : decode cX3_mostLiving 52 = .ok (.iload 8, 2) := by decide +kernel
theorem dX3_mostLiving_54 : decode cX3_mostLiving 54 = .ok (.iload_n 1, 1) := by decide +kernel
theorem dX3_mostLiving_55 : decode cX3_mostLiving 55 = .ok (.if_icmp .lt 57, 3) := by decide +kernel
theorem dX3_mostLiving_58 : decode cX3_mostLiving 58 = .ok (.iload 8, 2) := by decide +kernel
theorem dX3_mostLiving_60 : decode cX3_mostLiving 60 = .ok (.iload_n 2, 1) := by decide +kernel
theorem dX3_mostLiving_61 : decode cX3_mostLiving 61 = .ok (.if_icmp .gt 51, 3) := by decide +kernel
theorem dX3_mostLiving_64 : decode cX3_mostLiving 64 = .ok (.iload 4, 2) := by decide +kernel
theorem dX3_mostLiving_66 : decode cX3_mostLiving 66 = .ok (.aload_n 0, 1) := by decide +kernel
theorem dX3_mostLiving_67 : decode cX3_mostLiving 67 = .ok (.getfield 9, 3) := by decide +kernel
theorem dX3_mostLiving_70 : decode cX3_mostLiving 70 = .ok (.getfield 40, 3) := by decide +kernel
theorem dX3_mostLiving_73 : decode cX3_mostLiving 73 = .ok (.iload 7, 2) := by decide +kernel
theorem dX3_mostLiving_75 : decode cX3_mostLiving 75 = .ok (.invokevirtual 36, 3) := by decide +kernel
theorem dX3_mostLiving_78 : decode cX3_mostLiving 78 = .ok (.aload_n 0, 1) := by decide +kernel
theorem dX3_mostLiving_79 : decode cX3_mostLiving 79 = .ok (.getfield 20, 3) := by decide +kernel
theorem dX3_mostLiving_82 : decode cX3_mostLiving 82 = .ok (.iload 8, 2) := by decide +kernel
theorem dX3_mostLiving_84 : decode cX3_mostLiving 84 = .ok (.invokevirtual 36, 3) := by decide +kernel
theorem dX3_mostLiving_87 : decode cX3_mostLiving 87 = .ok (.isub, 1) := by decide +kernel
theorem dX3_mostLiving_88 : decode cX3_mostLiving 88 = .ok (.iadd, 1) := by decide +kernel
theorem dX3_mostLiving_89 : decode cX3_mostLiving 89 = .ok (.istore 4, 2) := by decide +kernel
theorem dX3_mostLiving_91 : decode cX3_mostLiving 91 = .ok (.aload_n 0, 1) := by decide +kernel
theorem dX3_mostLiving_92 : decode cX3_mostLiving 92 = .ok (.getfield 20, 3) := by decide +kernel
theorem dX3_mostLiving_95 : decode cX3_mostLiving 95 = .ok (.iload 8, 2) := by decide +kernel
theorem dX3_mostLiving_97 : decode cX3_mostLiving 97 = .ok (.aload_n 0, 1) := by decide +kernel
theorem dX3_mostLiving_98 : decode cX3_mostLiving 98 = .ok (.getfield 9, 3) := by decide +kernel
theorem dX3_mostLiving_101 : decode cX3_mostLiving 101 = .ok (.getfield 40, 3) := by decide +kernel
theorem dX3_mostLiving_104 : decode cX3_mostLiving 104 = .ok (.iload 7, 2) := by decide +kernel
theorem dX3_mostLiving_106 : decode cX3_mostLiving 106 = .ok (.invokevirtual 36, 3) := by decide +kernel
theorem dX3_mostLiving_109 : decode cX3_mostLiving 109 = .ok (.invokevirtual 43, 3) := by decide +kernel
theorem dX3_mostLiving_112 : decode cX3_mostLiving 112 = .ok (.iload 4, 2) := by decide +kernel
theorem dX3_mostLiving_114 : decode cX3_mostLiving 114 = .ok (.iload 5, 2) := by decide +kernel
theorem dX3_mostLiving_116 : decode cX3_mostLiving 116 = .ok (.if_icmp .le 11, 3) := by decide +kernel
theorem dX3_mostLiving_119 : decode cX3_mostLiving 119 = .ok (.iload 4, 2) := by decide +kernel
theorem dX3_mostLiving_121 : decode cX3_mostLiving 121 = .ok (.istore 5, 2) := by decide +kernel
theorem dX3_mostLiving_123 : decode cX3_mostLiving 123 = .ok (.iload 7, 2) := by decide +kernel
theorem dX3_mostLiving_125 : decode cX3_mostLiving 125 = .ok (.istore 6, 2) := by decide +kernel
theorem dX3_mostLiving_127 : decode cX3_mostLiving 127 = .ok (.iinc 7 1, 3) := by decide +kernel
theorem dX3_mostLiving_130 : decode cX3_mostLiving 130 = .ok (.goto (-107), 3) := by decide +kernel
theorem dX3_mostLiving_133 : decode cX3_mostLiving 133 = .ok (.iload_n 3, 1) := by decide +kernel
theorem dX3_mostLiving_134 : decode cX3_mostLiving 134 = .ok (.ifCond .ne 8, 3) := by decide +kernel
theorem dX3_mostLiving_137 : decode cX3_mostLiving 137 = .ok (.iload 6, 2) := by decide +kernel
theorem dX3_mostLiving_139 : decode cX3_mostLiving 139 = .ok (.goto 5, 3) := by decide +kernel
theorem dX3_mostLiving_142 : decode cX3_mostLiving 142 = .ok (.iload 5, 2) := by decide +kernel
theorem dX3_mostLiving_144 : decode cX3_mostLiving 144 = .ok (.ireturn, 1) := by decide +kernel
theorem dX3_longestVersion_0 : decode cX3_longestVersion 0 = .ok (.iconst 0, 1) := by decide +kernel
theorem dX3_longestVersion_1 : decode cX3_longestVersion 1 = .ok (.istore_n 3, 1) := by decide +kernel
theorem dX3_longestVersion_2 : decode cX3_longestVersion 2 = .ok (.bipush (-2), 2) := by decide +kernel
theorem dX3_longestVersion_4 : decode cX3_longestVersion 4 = .ok (.istore 4, 2) := by decide +kernel
theorem dX3_longestVersion_6 : decode cX3_longestVersion 6 = .ok (.bipush (-2), 2) := by decide +kernel
theorem dX3_longestVersion_8 : decode cX3_longestVersion 8 = .ok (.istore 5, 2) := by decide +kernel
theorem dX3_longestVersion_10 : decode cX3_longestVersion 10 = .ok (.iconst 1, 1) := by decide +kernel
theorem dX3_longestVersion_11 : decode cX3_longestVersion 11 = .ok (.istore 6, 2) := by decide +kernel
theorem dX3_longestVersion_13 : decode cX3_longestVersion 13 = .ok (.iload 6, 2) := by decide +kernel
theorem dX3_longestVersion_15 : decode cX3_longestVersion 15 = .ok (.aload_n 0, 1) := by decide +kernel
theorem dX3_longestVersion_16 : decode cX3_longestVersion 16 = .ok (.getfield 9, 3) := by decide +kernel
theorem dX3_longestVersion_19 : decode cX3_longestVersion 19 = .ok (.getfield 31, 3) := by decide +kernel
theorem dX3_longestVersion_22 : decode cX3_longestVersion 22 = .ok (.getfield 61, 3) := by decide +kernel
theorem dX3_longestVersion_25 : decode cX3_longestVersion 25 = .ok (.if_icmp .ge 53, 3) := by decide +kernel
theorem dX3_longestVersion_28 : decode cX3_longestVersion 28 = .ok (.aload_n 0, 1) := by decide +kernel
theorem dX3_longestVersion_29 : decode cX3_longestVersion 29 = .ok (.getfield 9, 3) := by decide +kernel
theorem dX3_longestVersion_32 : decode cX3_longestVersion 32 = .ok (.iload 6, 2) := by decide +kernel
theorem dX3_longestVersion_34 : decode cX3_longestVersion 34 = .ok (.iload_n 1, 1) := by decide +kernel
theorem dX3_longestVersion_35 : decode cX3_longestVersion 35 = .ok (.invokevirtual 65, 3) := by decide +kernel
theorem dX3_longestVersion_38 : decode cX3_longestVersion 38 = .ok (.ifCond .eq 34, 3) := by decide +kernel
theorem dX3_longestVersion_41 : decode cX3_longestVersion 41 = .ok (.aload_n 0, 1) := by decide +kernel
theorem dX3_longestVersion_42 : decode cX3_longestVersion 42 = .ok (.getfield 9, 3) := by decide +kernel
theorem dX3_longestVersion_45 : decode cX3_longestVersion 45 = .ok (.iload 6, 2) := by decide +kernel
theorem dX3_longestVersion_47 : decode cX3_longestVersion 47 = .ok (.invokevirtual 68, 3) := by decide +kernel
theorem dX3_longestVersion_50 : decode cX3_longestVersion 50 = .ok (.iload 5, 2) := by decide +kernel
theorem dX3_longestVersion_52 : decode cX3_longestVersion 52 = .ok (.if_icmp .le 17, 3) := by decide +kernel
theorem dX3_longestVersion_55 : decode cX3_longestVersion 55 = .ok (.iload_n 3, 1) := by decide +kernel
theorem dX3_longestVersion_56 : decode cX3_longestVersion 56 = .ok (.istore 4, 2) := by decide +kernel
theorem dX3_longestVersion_58 : decode cX3_longestVersion 58 = .ok (.aload_n 0, 1) := by decide +kernel
theorem dX3_longestVersion_59 : decode cX3_longestVersion 59 = .ok (.getfield 9, 3) := by decide +kernel
theorem dX3_longestVersion_62 : decode cX3_longestVersion 62 = .ok (.iload 6, 2) := by decide +kernel
theorem dX3_longestVersion_64 : decode cX3_longestVersion 64 = .ok (.invokevirtual 68, 3) := by decide +kernel
theorem dX3_longestVersion_67 : decode cX3_longestVersion 67 = .ok (.istore 5, 2) := by decide +kernel
theorem dX3_longestVersion_69 : decode cX3_longestVersion 69 = .ok (.iinc 3 1, 3) := by decide +kernel
theorem dX3_longestVersion_72 : decode cX3_longestVersion 72 = .ok (.iinc 6 1, 3) := by decide +kernel
theorem dX3_longestVersion_75 : decode cX3_longestVersion 75 = .ok (.goto (-62), 3) := by decide +kernel
theorem dX3_longestVersion_78 : decode cX3_longestVersion 78 = .ok (.iload_n 2, 1) := by decide +kernel
theorem dX3_longestVersion_79 : decode cX3_longestVersion 79 = .ok (.ifCond .ne 8, 3) := by decide +kernel
theorem dX3_longestVersion_82 : decode cX3_longestVersion 82 = .ok (.iload 4, 2) := by decide +kernel
theorem dX3_longestVersion_84 : decode cX3_longestVersion 84 = .ok (.goto 5, 3) := by decide +kernel
theorem dX3_longestVersion_87 : decode cX3_longestVersion 87 = .ok (.iload 5, 2) := by decide +kernel
theorem dX3_longestVersion_89 : decode cX3_longestVersion 89 = .ok (.ireturn, 1) := by decide +kernel
theorem dX3_mostVersions_0 : decode cX3_mostVersions 0 = .ok (.aload_n 0, 1) := by decide +kernel
theorem dX3_mostVersions_1 : decode cX3_mostVersions 1 = .ok (.getfield 20, 3) := by decide +kernel
theorem dX3_mostVersions_4 : decode cX3_mostVersions 4 = .ok (.sipush 1000, 3) := by decide +kernel
theorem dX3_mostVersions_7 : decode cX3_mostVersions 7 = .ok (.iconst 0, 1) := by decide +kernel
theorem dX3_mostVersions_8 : decode cX3_mostVersions 8 = .ok (.invokevirtual 27, 3) := by decide +kernel
theorem dX3_mostVersions_11 : decode cX3_mostVersions 11 = .ok (.iconst 1, 1) := by decide +kernel
theorem dX3_mostVersions_12 : decode cX3_mostVersions 12 = .ok (.istore 4, 2) := by decide +kernel
theorem dX3_mostVersions_14 : decode cX3_mostVersions 14 = .ok (.iload 4, 2) := by decide +kernel
theorem dX3_mostVersions_16 : decode cX3_mostVersions 16 = .ok (.aload_n 0, 1) := by decide +kernel
theorem dX3_mostVersions_17 : decode cX3_mostVersions 17 = .ok (.getfield 9, 3) := by decide +kernel
theorem dX3_mostVersions_20 : decode cX3_mostVersions 20 = .ok (.getfield 31, 3) := by decide +kernel
theorem dX3_mostVersions_23 : decode cX3_mostVersions 23 = .ok (.getfield 61, 3) := by decide +kernel
theorem dX3_mostVersions_26 : decode cX3_mostVersions 26 = .ok (.if_icmp .ge 54, 3) := by decide +kernel
theorem dX3_mostVersions_29 : decode cX3_mostVersions 29 = .ok (.aload_n 0, 1) := by decide +kernel
theorem dX3_mostVersions_30 : decode cX3_mostVersions 30 = .ok (.getfield 9, 3) := by decide +kernel
theorem dX3_mostVersions_33 : decode cX3_mostVersions 33 = .ok (.getfield 31, 3) := by decide +kernel
theorem dX3_mostVersions_36 : decode cX3_mostVersions 36 = .ok (.iload 4, 2) := by decide +kernel
theorem dX3_mostVersions_38 : decode cX3_mostVersions 38 = .ok (.invokevirtual 36, 3) := by decide +kernel
theorem dX3_mostVersions_41 : decode cX3_mostVersions 41 = .ok (.istore 5, 2) := by decide +kernel
theorem dX3_mostVersions_43 : decode cX3_mostVersions 43 = .ok (.aload_n 0, 1) := by decide +kernel
theorem dX3_mostVersions_44 : decode cX3_mostVersions 44 = .ok (.getfield 20, 3) := by decide +kernel
theorem dX3_mostVersions_47 : decode cX3_mostVersions 47 = .ok (.iload 5, 2) := by decide +kernel
theorem dX3_mostVersions_49 : decode cX3_mostVersions 49 = .ok (.aload_n 0, 1) := by decide +kernel
theorem dX3_mostVersions_50 : decode cX3_mostVersions 50 = .ok (.getfield 20, 3) := by decide +kernel
theorem dX3_mostVersions_53 : decode cX3_mostVersions 53 = .ok (.iload 5, 2) := by decide +kernel
theorem dX3_mostVersions_55 : decode cX3_mostVersions 55 = .ok (.invokevirtual 36, 3) := by decide +kernel
theorem dX3_mostVersions_58 : decode cX3_mostVersions 58 = .ok (.aload_n 0, 1) := by decide +kernel
theorem dX3_mostVersions_59 : decode cX3_mostVersions 59 = .ok (.getfield 9, 3) := by decide +kernel
theorem dX3_mostVersions_62 : decode cX3_mostVersions 62 = .ok (.getfield 40, 3) := by decide +kernel
theorem dX3_mostVersions_65 : decode cX3_mostVersions 65 = .ok (.iload 4, 2) := by decide +kernel
theorem dX3_mostVersions_67 : decode cX3_mostVersions 67 = .ok (.invokevirtual 36, 3) := by decide +kernel
theorem dX3_mostVersions_70 : decode cX3_mostVersions 70 = .ok (.iadd, 1) := by decide +kernel
theorem dX3_mostVersions_71 : decode cX3_mostVersions 71 = .ok (.invokevirtual 43, 3) := by decide +kernel
theorem dX3_mostVersions_74 : decode cX3_mostVersions 74 = .ok (.iinc 4 1, 3) := by decide +kernel
theorem dX3_mostVersions_77 : decode cX3_mostVersions 77 = .ok (.goto (-63), 3) := by decide +kernel
theorem dX3_mostVersions_80 : decode cX3_mostVersions 80 = .ok (.bipush (-2), 2) := by decide +kernel
theorem dX3_mostVersions_82 : decode cX3_mostVersions 82 = .ok (.istore 4, 2) := by decide +kernel
theorem dX3_mostVersions_84 : decode cX3_mostVersions 84 = .ok (.iload_n 1, 1) := by decide +kernel
theorem dX3_mostVersions_85 : decode cX3_mostVersions 85 = .ok (.istore 5, 2) := by decide +kernel
theorem dX3_mostVersions_87 : decode cX3_mostVersions 87 = .ok (.iload 5, 2) := by decide +kernel
theorem dX3_mostVersions_89 : decode cX3_mostVersions 89 = .ok (.iload_n 2, 1) := by decide +kernel
theorem dX3_mostVersions_90 : decode cX3_mostVersions 90 = .ok (.if_icmp .gt 34, 3) := by decide +kernel
theorem dX3_mostVersions_93 : decode cX3_mostVersions 93 = .ok (.aload_n 0, 1) := by decide +kernel
theorem dX3_mostVersions_94 : decode cX3_mostVersions 94 = .ok (.getfield 20, 3) := by decide +kernel
theorem dX3_mostVersions_97 : decode cX3_mostVersions 97 = .ok (.iload 5, 2) := by decide +kernel
theorem dX3_mostVersions_99 : decode cX3_mostVersions 99 = .ok (.invokevirtual 36, 3) := by decide +kernel
theorem dX3_mostVersions_102 : decode cX3_mostVersions 102 = .ok (.aload_n 0, 1) := by decide +kernel
theorem dX3_mostVersions_103 : decode cX3_mostVersions 103 = .ok (.getfield 20, 3) := by decide +kernel
theorem dX3_mostVersions_106 : decode cX3_mostVersions 106 = .ok (.iload 4, 2) := by decide +kernel
theorem dX3_mostVersions_108 : decode cX3_mostVersions 108 = .ok (.invokevirtual 36, 3) := by decide +kernel
theorem dX3_mostVersions_111 : decode cX3_mostVersions 111 = .ok (.if_icmp .le 7, 3) := by decide +kernel
theorem dX3_mostVersions_114 : decode cX3_mostVersions 114 = .ok (.iload 5, 2) := by decide +kernel
theorem dX3_mostVersions_116 : decode cX3_mostVersions 116 = .ok (.istore 4, 2) := by decide +kernel
theorem dX3_mostVersions_118 : decode cX3_mostVersions 118 = .ok (.iinc 5 1, 3) := by decide +kernel
theorem dX3_mostVersions_121 : decode cX3_mostVersions 121 = .ok (.goto (-34), 3) := by decide +kernel
theorem dX3_mostVersions_124 : decode cX3_mostVersions 124 = .ok (.iload_n 3, 1) := by decide +kernel
theorem dX3_mostVersions_125 : decode cX3_mostVersions 125 = .ok (.ifCond .eq 10, 3) := by decide +kernel
theorem dX3_mostVersions_128 : decode cX3_mostVersions 128 = .ok (.iload 4, 2) := by decide +kernel
theorem dX3_mostVersions_130 : decode cX3_mostVersions 130 = .ok (.bipush (-2), 2) := by decide +kernel
theorem dX3_mostVersions_132 : decode cX3_mostVersions 132 = .ok (.if_icmp .ne 8, 3) := by decide +kernel
theorem dX3_mostVersions_135 : decode cX3_mostVersions 135 = .ok (.iload 4, 2) := by decide +kernel
theorem dX3_mostVersions_137 : decode cX3_mostVersions 137 = .ok (.goto 12, 3) := by decide +kernel
theorem dX3_mostVersions_140 : decode cX3_mostVersions 140 = .ok (.aload_n 0, 1) := by decide +kernel
theorem dX3_mostVersions_141 : decode cX3_mostVersions 141 = .ok (.getfield 20, 3) := by decide +kernel
theorem dX3_mostVersions_144 : decode cX3_mostVersions 144 = .ok (.iload 4, 2) := by decide +kernel
theorem dX3_mostVersions_146 : decode cX3_mostVersions 146 = .ok (.invokevirtual 36, 3) := by decide +kernel
theorem dX3_mostVersions_149 : decode cX3_mostVersions 149 = .ok (.ireturn, 1) := by decide +kernel
theorem dX3_widestGap_0 : decode cX3_widestGap 0 = .ok (.aload_n 0, 1) := by decide +kernel
theorem dX3_widestGap_1 : decode cX3_widestGap 1 = .ok (.aload_n 0, 1) := by decide +kernel
theorem dX3_widestGap_2 : decode cX3_widestGap 2 = .ok (.getfield 20, 3) := by decide +kernel
theorem dX3_widestGap_5 : decode cX3_widestGap 5 = .ok (.iload_n 1, 1) := by decide +kernel
theorem dX3_widestGap_6 : decode cX3_widestGap 6 = .ok (.invokevirtual 53, 3) := by decide +kernel
theorem dX3_widestGap_9 : decode cX3_widestGap 9 = .ok (.iconst (-1), 1) := by decide +kernel
theorem dX3_widestGap_10 : decode cX3_widestGap 10 = .ok (.istore_n 3, 1) := by decide +kernel
theorem dX3_widestGap_11 : decode cX3_widestGap 11 = .ok (.bipush (-2), 2) := by decide +kernel
theorem dX3_widestGap_13 : decode cX3_widestGap 13 = .ok (.istore 4, 2) := by decide +kernel
theorem dX3_widestGap_15 : decode cX3_widestGap 15 = .ok (.bipush (-2), 2) := by decide +kernel
theorem dX3_widestGap_17 : decode cX3_widestGap 17 = .ok (.istore 5, 2) := by decide +kernel
theorem dX3_widestGap_19 : decode cX3_widestGap 19 = .ok (.iconst 0, 1) := by decide +kernel
theorem dX3_widestGap_20 : decode cX3_widestGap 20 = .ok (.istore 6, 2) := by decide +kernel
theorem dX3_widestGap_22 : decode cX3_widestGap 22 = .ok (.iload 6, 2) := by decide +kernel
theorem dX3_widestGap_24 : decode cX3_widestGap 24 = .ok (.sipush 1000, 3) := by decide +kernel
theorem dX3_widestGap_27 : decode cX3_widestGap 27 = .ok (.if_icmp .ge 48, 3) := by decide +kernel
theorem dX3_widestGap_30 : decode cX3_widestGap 30 = .ok (.aload_n 0, 1) := by decide +kernel
theorem dX3_widestGap_31 : decode cX3_widestGap 31 = .ok (.getfield 20, 3) := by decide +kernel
theorem dX3_widestGap_34 : decode cX3_widestGap 34 = .ok (.iload 6, 2) := by decide +kernel
theorem dX3_widestGap_36 : decode cX3_widestGap 36 = .ok (.invokevirtual 36, 3) := by decide +kernel
theorem dX3_widestGap_39 : decode cX3_widestGap 39 = .ok (.iconst (-1), 1) := by decide +kernel
theorem dX3_widestGap_40 : decode cX3_widestGap 40 = .ok (.if_icmp .eq 29, 3) := by decide +kernel
theorem dX3_widestGap_43 : decode cX3_widestGap 43 = .ok (.iload_n 3, 1) := by decide +kernel
theorem dX3_widestGap_44 : decode cX3_widestGap 44 = .ok (.iconst (-1), 1) := by decide +kernel
theorem dX3_widestGap_45 : decode cX3_widestGap 45 = .ok (.if_icmp .eq 21, 3) := by decide +kernel
theorem dX3_widestGap_48 : decode cX3_widestGap 48 = .ok (.iload 6, 2) := by decide +kernel
theorem dX3_widestGap_50 : decode cX3_widestGap 50 = .ok (.iload_n 3, 1) := by decide +kernel
theorem dX3_widestGap_51 : decode cX3_widestGap 51 = .ok (.isub, 1) := by decide +kernel
theorem dX3_widestGap_52 : decode cX3_widestGap 52 = .ok (.iload 5, 2) := by decide +kernel
theorem dX3_widestGap_54 : decode cX3_widestGap 54 = .ok (.if_icmp .le 12, 3) := by decide +kernel
theorem dX3_widestGap_57 : decode cX3_widestGap 57 = .ok (.iload_n 3, 1) := by decide +kernel
theorem dX3_widestGap_58 : decode cX3_widestGap 58 = .ok (.istore 4, 2) := by decide +kernel
theorem dX3_widestGap_60 : decode cX3_widestGap 60 = .ok (.iload 6, 2) := by decide +kernel
theorem dX3_widestGap_62 : decode cX3_widestGap 62 = .ok (.iload_n 3, 1) := by decide +kernel
theorem dX3_widestGap_63 : decode cX3_widestGap 63 = .ok (.isub, 1) := by decide +kernel
theorem dX3_widestGap_64 : decode cX3_widestGap 64 = .ok (.istore 5, 2) := by decide +kernel
theorem dX3_widestGap_66 : decode cX3_widestGap 66 = .ok (.iload 6, 2) := by decide +kernel
theorem dX3_widestGap_68 : decode cX3_widestGap 68 = .ok (.istore_n 3, 1) := by decide +kernel
theorem dX3_widestGap_69 : decode cX3_widestGap 69 = .ok (.iinc 6 1, 3) := by decide +kernel
theorem dX3_widestGap_72 : decode cX3_widestGap 72 = .ok (.goto (-50), 3) := by decide +kernel
theorem dX3_widestGap_75 : decode cX3_widestGap 75 = .ok (.iload_n 2, 1) := by decide +kernel
theorem dX3_widestGap_76 : decode cX3_widestGap 76 = .ok (.ifCond .ne 8, 3) := by decide +kernel
theorem dX3_widestGap_79 : decode cX3_widestGap 79 = .ok (.iload 4, 2) := by decide +kernel
theorem dX3_widestGap_81 : decode cX3_widestGap 81 = .ok (.goto 5, 3) := by decide +kernel
theorem dX3_widestGap_84 : decode cX3_widestGap 84 = .ok (.iload 5, 2) := by decide +kernel
theorem dX3_widestGap_86 : decode cX3_widestGap 86 = .ok (.ireturn, 1) := by decide +kernel
theorem dX4_init_0 : decode cX4_init 0 = .ok (.aload_n 0, 1) := by decide +kernel
theorem dX4_init_1 : decode cX4_init 1 = .ok (.invokespecial 3, 3) := by decide +kernel
theorem dX4_init_4 : decode cX4_init 4 = .ok (.aload_n 0, 1) := by decide +kernel
theorem dX4_init_5 : decode cX4_init 5 = .ok (.aload_n 1, 1) := by decide +kernel
theorem dX4_init_6 : decode cX4_init 6 = .ok (.putfield 9, 3) := by decide +kernel
theorem dX4_init_9 : decode cX4_init 9 = .ok (.aload_n 0, 1) := by decide +kernel
theorem dX4_init_10 : decode cX4_init 10 = .ok (.new 15, 3) := by decide +kernel
theorem dX4_init_13 : decode cX4_init 13 = .ok (.dup, 1) := by decide +kernel
theorem dX4_init_14 : decode cX4_init 14 = .ok (.bipush 64, 2) := by decide +kernel
theorem dX4_init_16 : decode cX4_init 16 = .ok (.invokespecial 17, 3) := by decide +kernel
theorem dX4_init_19 : decode cX4_init 19 = .ok (.putfield 20, 3) := by decide +kernel
theorem dX4_init_22 : decode cX4_init 22 = .ok (.aload_n 0, 1) := by decide +kernel
theorem dX4_init_23 : decode cX4_init 23 = .ok (.new 15, 3) := by decide +kernel
theorem dX4_init_26 : decode cX4_init 26 = .ok (.dup, 1) := by decide +kernel
theorem dX4_init_27 : decode cX4_init 27 = .ok (.bipush 64, 2) := by decide +kernel
theorem dX4_init_29 : decode cX4_init 29 = .ok (.invokespecial 17, 3) := by decide +kernel
theorem dX4_init_32 : decode cX4_init 32 = .ok (.putfield 23, 3) := by decide +kernel
theorem dX4_init_35 : decode cX4_init 35 = .ok (.aload_n 0, 1) := by decide +kernel
theorem dX4_init_36 : decode cX4_init 36 = .ok (.new 15, 3) := by decide +kernel
theorem dX4_init_39 : decode cX4_init 39 = .ok (.dup, 1) := by decide +kernel
theorem dX4_init_40 : decode cX4_init 40 = .ok (.bipush 64, 2) := by decide +kernel
theorem dX4_init_42 : decode cX4_init 42 = .ok (.invokespecial 17, 3) := by decide +kernel
theorem dX4_init_45 : decode cX4_init 45 = .ok (.putfield 26, 3) := by decide +kernel
theorem dX4_init_48 : decode cX4_init 48 = .ok (.return_, 1) := by decide +kernel
theorem dX4_lexAll_0 : decode cX4_lexAll 0 = .ok (.aload_n 0, 1) := by decide +kernel
theorem dX4_lexAll_1 : decode cX4_lexAll 1 = .ok (.getfield 20, 3) := by decide +kernel
theorem dX4_lexAll_4 : decode cX4_lexAll 4 = .ok (.iconst 0, 1) := by decide +kernel
theorem dX4_lexAll_5 : decode cX4_lexAll 5 = .ok (.invokevirtual 29, 3) := by decide +kernel
theorem dX4_lexAll_8 : decode cX4_lexAll 8 = .ok (.aload_n 0, 1) := by decide +kernel
theorem dX4_lexAll_9 : decode cX4_lexAll 9 = .ok (.getfield 23, 3) := by decide +kernel
theorem dX4_lexAll_12 : decode cX4_lexAll 12 = .ok (.iconst 0, 1) := by decide +kernel
theorem dX4_lexAll_13 : decode cX4_lexAll 13 = .ok (.invokevirtual 29, 3) := by decide +kernel
theorem dX4_lexAll_16 : decode cX4_lexAll 16 = .ok (.aload_n 0, 1) := by decide +kernel
theorem dX4_lexAll_17 : decode cX4_lexAll 17 = .ok (.getfield 26, 3) := by decide +kernel
theorem dX4_lexAll_20 : decode cX4_lexAll 20 = .ok (.iconst 0, 1) := by decide +kernel
theorem dX4_lexAll_21 : decode cX4_lexAll 21 = .ok (.invokevirtual 29, 3) := by decide +kernel
theorem dX4_lexAll_24 : decode cX4_lexAll 24 = .ok (.iconst 0, 1) := by decide +kernel
theorem dX4_lexAll_25 : decode cX4_lexAll 25 = .ok (.istore_n 1, 1) := by decide +kernel
theorem dX4_lexAll_26 : decode cX4_lexAll 26 = .ok (.iconst 0, 1) := by decide +kernel
theorem dX4_lexAll_27 : decode cX4_lexAll 27 = .ok (.istore_n 2, 1) := by decide +kernel
theorem dX4_lexAll_28 : decode cX4_lexAll 28 = .ok (.iload_n 2, 1) := by decide +kernel
theorem dX4_lexAll_29 : decode cX4_lexAll 29 = .ok (.sipush 400, 3) := by decide +kernel
theorem dX4_lexAll_32 : decode cX4_lexAll 32 = .ok (.if_icmp .gt 38, 3) := by decide +kernel
theorem dX4_lexAll_35 : decode cX4_lexAll 35 = .ok (.aload_n 0, 1) := by decide +kernel
theorem dX4_lexAll_36 : decode cX4_lexAll 36 = .ok (.aload_n 0, 1) := by decide +kernel
theorem dX4_lexAll_37 : decode cX4_lexAll 37 = .ok (.iload_n 1, 1) := by decide +kernel
theorem dX4_lexAll_38 : decode cX4_lexAll 38 = .ok (.invokevirtual 32, 3) := by decide +kernel
theorem dX4_lexAll_41 : decode cX4_lexAll 41 = .ok (.invokevirtual 36, 3) := by decide +kernel
theorem dX4_lexAll_44 : decode cX4_lexAll 44 = .ok (.istore_n 1, 1) := by decide +kernel
theorem dX4_lexAll_45 : decode cX4_lexAll 45 = .ok (.aload_n 0, 1) := by decide +kernel
theorem dX4_lexAll_46 : decode cX4_lexAll 46 = .ok (.getfield 20, 3) := by decide +kernel
theorem dX4_lexAll_49 : decode cX4_lexAll 49 = .ok (.iload_n 2, 1) := by decide +kernel
theorem dX4_lexAll_50 : decode cX4_lexAll 50 = .ok (.invokevirtual 39, 3) := by decide +kernel
theorem dX4_lexAll_53 : decode cX4_lexAll 53 = .ok (.istore_n 3, 1) := by decide +kernel
theorem dX4_lexAll_54 : decode cX4_lexAll 54 = .ok (.iload_n 3, 1) := by decide +kernel
theorem dX4_lexAll_55 : decode cX4_lexAll 55 = .ok (.ifCond .eq 8, 3) := by decide +kernel
theorem dX4_lexAll_58 : decode cX4_lexAll 58 = .ok (.iload_n 3, 1) := by decide +kernel
theorem dX4_lexAll_59 : decode cX4_lexAll 59 = .ok (.iconst 1, 1) := by decide +kernel
theorem dX4_lexAll_60 : decode cX4_lexAll 60 = .ok (.if_icmp .ne 4, 3) := by decide +kernel
theorem dX4_lexAll_63 : decode cX4_lexAll 63 = .ok (.return_, 1) := by decide +kernel
theorem dX4_lexAll_64 : decode cX4_lexAll 64 = .ok (.iinc 2 1, 3) := by decide +kernel
theorem dX4_lexAll_67 : decode cX4_lexAll 67 = .ok (.goto (-39), 3) := by decide +kernel
theorem dX4_lexAll_70 : decode cX4_lexAll 70 = .ok (.return_, 1) := by decide +kernel
theorem dX4_pastBlanks_0 : decode cX4_pastBlanks 0 = .ok (.iload_n 1, 1) := by decide +kernel
theorem dX4_pastBlanks_1 : decode cX4_pastBlanks 1 = .ok (.istore_n 2, 1) := by decide +kernel
theorem dX4_pastBlanks_2 : decode cX4_pastBlanks 2 = .ok (.iload_n 2, 1) := by decide +kernel
theorem dX4_pastBlanks_3 : decode cX4_pastBlanks 3 = .ok (.aload_n 0, 1) := by decide +kernel
theorem dX4_pastBlanks_4 : decode cX4_pastBlanks 4 = .ok (.getfield 9, 3) := by decide +kernel
theorem dX4_pastBlanks_7 : decode cX4_pastBlanks 7 = .ok (.getfield 42, 3) := by decide +kernel
theorem dX4_pastBlanks_10 : decode cX4_pastBlanks 10 = .ok (.if_icmp .ge 23, 3) := by decide +kernel
theorem dX4_pastBlanks_13 : decode cX4_pastBlanks 13 = .ok (.aload_n 0, 1) := by decide +kernel
theorem dX4_pastBlanks_14 : decode cX4_pastBlanks 14 = .ok (.getfield 9, 3) := by decide +kernel
theorem dX4_pastBlanks_17 : decode cX4_pastBlanks 17 = .ok (.iload_n 2, 1) := by decide +kernel
theorem dX4_pastBlanks_18 : decode cX4_pastBlanks 18 = .ok (.invokevirtual 39, 3) := by decide +kernel
theorem dX4_pastBlanks_21 : decode cX4_pastBlanks 21 = .ok (.invokestatic 46, 3) := by decide +kernel
theorem dX4_pastBlanks_24 : decode cX4_pastBlanks 24 = .ok (.ifCond .eq 9, 3) := by decide +kernel
theorem dX4_pastBlanks_27 : decode cX4_pastBlanks 27 = .ok (.iinc 2 1, 3) := by decide +kernel
theorem dX4_pastBlanks_30 : decode cX4_pastBlanks 30 = .ok (.goto (-28), 3) := by decide +kernel
theorem dX4_pastBlanks_33 : decode cX4_pastBlanks 33 = .ok (.iload_n 2, 1) := by decide +kernel
theorem dX4_pastBlanks_34 : decode cX4_pastBlanks 34 = .ok (.ireturn, 1) := by decide +kernel
theorem dX4_lexOne_0 : decode cX4_lexOne 0 = .ok (.aload_n 0, 1) := by decide +kernel
theorem dX4_lexOne_1 : decode cX4_lexOne 1 = .ok (.getfield 9, 3) := by decide +kernel
theorem dX4_lexOne_4 : decode cX4_lexOne 4 = .ok (.iload_n 1, 1) := by decide +kernel
theorem dX4_lexOne_5 : decode cX4_lexOne 5 = .ok (.invokevirtual 39, 3) := by decide +kernel
theorem dX4_lexOne_8 : decode cX4_lexOne 8 = .ok (.istore_n 2, 1) := by decide +kernel
theorem dX4_lexOne_9 : decode cX4_lexOne 9 = .ok (.iload_n 1, 1) := by decide +kernel
theorem dX4_lexOne_10 : decode cX4_lexOne 10 = .ok (.aload_n 0, 1) := by decide +kernel
theorem dX4_lexOne_11 : decode cX4_lexOne 11 = .ok (.getfield 9, 3) := by decide +kernel
theorem dX4_lexOne_14 : decode cX4_lexOne 14 = .ok (.getfield 42, 3) := by decide +kernel
theorem dX4_lexOne_17 : decode cX4_lexOne 17 = .ok (.if_icmp .lt 13, 3) := by decide +kernel
theorem dX4_lexOne_20 : decode cX4_lexOne 20 = .ok (.aload_n 0, 1) := by decide +kernel
theorem dX4_lexOne_21 : decode cX4_lexOne 21 = .ok (.iconst 0, 1) := by decide +kernel
theorem dX4_lexOne_22 : decode cX4_lexOne 22 = .ok (.iconst 0, 1) := by decide +kernel
theorem dX4_lexOne_23 : decode cX4_lexOne 23 = .ok (.iload_n 1, 1) := by decide +kernel
theorem dX4_lexOne_24 : decode cX4_lexOne 24 = .ok (.invokevirtual 50, 3) := by decide +kernel
theorem dX4_lexOne_27 : decode cX4_lexOne 27 = .ok (.goto 50, 3) := by decide +kernel
theorem dX4_lexOne_30 : decode cX4_lexOne 30 = .ok (.iload_n 2, 1) := by decide +kernel
theorem dX4_lexOne_31 : decode cX4_lexOne 31 = .ok (.invokestatic 54, 3) := by decide +kernel
theorem dX4_lexOne_34 : decode cX4_lexOne 34 = .ok (.ifCond .eq 9, 3) := by decide +kernel
theorem dX4_lexOne_37 : decode cX4_lexOne 37 = .ok (.aload_n 0, 1) := by decide +kernel
theorem dX4_lexOne_38 : decode cX4_lexOne 38 = .ok (.iload_n 1, 1) := by decide +kernel
theorem dX4_lexOne_39 : decode cX4_lexOne 39 = .ok (.invokevirtual 57, 3) := by decide +kernel
theorem dX4_lexOne_42 : decode cX4_lexOne 42 = .ok (.ireturn, 1) := by decide +kernel
theorem dX4_lexOne_43 : decode cX4_lexOne 43 = .ok (.iload_n 2, 1) := by decide +kernel
theorem dX4_lexOne_44 : decode cX4_lexOne 44 = .ok (.invokestatic 60, 3) := by decide +kernel
theorem dX4_lexOne_47 : decode cX4_lexOne 47 = .ok (.ifCond .eq 9, 3) := by decide +kernel
theorem dX4_lexOne_50 : decode cX4_lexOne 50 = .ok (.aload_n 0, 1) := by decide +kernel
theorem dX4_lexOne_51 : decode cX4_lexOne 51 = .ok (.iload_n 1, 1) := by decide +kernel
theorem dX4_lexOne_52 : decode cX4_lexOne 52 = .ok (.invokevirtual 63, 3) := by decide +kernel
theorem dX4_lexOne_55 : decode cX4_lexOne 55 = .ok (.ireturn, 1) := by decide +kernel
theorem dX4_lexOne_56 : decode cX4_lexOne 56 = .ok (.aload_n 0, 1) := by decide +kernel
theorem dX4_lexOne_57 : decode cX4_lexOne 57 = .ok (.ldc 66, 2) := by decide +kernel
theorem dX4_lexOne_59 : decode cX4_lexOne 59 = .ok (.iload_n 2, 1) := by decide +kernel
theorem dX4_lexOne_60 : decode cX4_lexOne 60 = .ok (.i2c, 1) := by decide +kernel
theorem dX4_lexOne_61 : decode cX4_lexOne 61 = .ok (.invokevirtual 68, 3) := by decide +kernel
theorem dX4_lexOne_64 : decode cX4_lexOne 64 = .ok (.ifCond .lt 7, 3) := by decide +kernel
theorem dX4_lexOne_67 : decode cX4_lexOne 67 = .ok (.iload_n 2, 1) := by decide +kernel
theorem dX4_lexOne_68 : decode cX4_lexOne 68 = .ok (.goto 4, 3) := by decide +kernel
theorem dX4_lexOne_71 : decode cX4_lexOne 71 = .ok (.iconst 1, 1) := by decide +kernel
theorem dX4_lexOne_72 : decode cX4_lexOne 72 = .ok (.iconst 0, 1) := by decide +kernel
theorem dX4_lexOne_73 : decode cX4_lexOne 73 = .ok (.iload_n 1, 1) := by decide +kernel
theorem dX4_lexOne_74 : decode cX4_lexOne 74 = .ok (.invokevirtual 50, 3) := by decide +kernel
theorem dX4_lexOne_77 : decode cX4_lexOne 77 = .ok (.iload_n 1, 1) := by decide +kernel
theorem dX4_lexOne_78 : decode cX4_lexOne 78 = .ok (.iconst 1, 1) := by decide +kernel
theorem dX4_lexOne_79 : decode cX4_lexOne 79 = .ok (.iadd, 1) := by decide +kernel
theorem dX4_lexOne_80 : decode cX4_lexOne 80 = .ok (.ireturn, 1) := by decide +kernel
theorem dX4_lexWord_0 : decode cX4_lexWord 0 = .ok (.iload_n 1, 1) := by decide +kernel
theorem dX4_lexWord_1 : decode cX4_lexWord 1 = .ok (.istore_n 2, 1) := by decide +kernel
theorem dX4_lexWord_2 : decode cX4_lexWord 2 = .ok (.iload_n 2, 1) := by decide +kernel
theorem dX4_lexWord_3 : decode cX4_lexWord 3 = .ok (.aload_n 0, 1) := by decide +kernel
theorem dX4_lexWord_4 : decode cX4_lexWord 4 = .ok (.getfield 9, 3) := by decide +kernel
theorem dX4_lexWord_7 : decode cX4_lexWord 7 = .ok (.getfield 42, 3) := by decide +kernel
theorem dX4_lexWord_10 : decode cX4_lexWord 10 = .ok (.if_icmp .ge 23, 3) := by decide +kernel
theorem dX4_lexWord_13 : decode cX4_lexWord 13 = .ok (.aload_n 0, 1) := by decide +kernel
theorem dX4_lexWord_14 : decode cX4_lexWord 14 = .ok (.getfield 9, 3) := by decide +kernel
theorem dX4_lexWord_17 : decode cX4_lexWord 17 = .ok (.iload_n 2, 1) := by decide +kernel
theorem dX4_lexWord_18 : decode cX4_lexWord 18 = .ok (.invokevirtual 39, 3) := by decide +kernel
theorem dX4_lexWord_21 : decode cX4_lexWord 21 = .ok (.invokestatic 54, 3) := by decide +kernel
theorem dX4_lexWord_24 : decode cX4_lexWord 24 = .ok (.ifCond .eq 9, 3) := by decide +kernel
theorem dX4_lexWord_27 : decode cX4_lexWord 27 = .ok (.iinc 2 1, 3) := by decide +kernel
theorem dX4_lexWord_30 : decode cX4_lexWord 30 = .ok (.goto (-28), 3) := by decide +kernel
theorem dX4_lexWord_33 : decode cX4_lexWord 33 = .ok (.aload_n 0, 1) := by decide +kernel
theorem dX4_lexWord_34 : decode cX4_lexWord 34 = .ok (.iload_n 2, 1) := by decide +kernel
theorem dX4_lexWord_35 : decode cX4_lexWord 35 = .ok (.iload_n 1, 1) := by decide +kernel
theorem dX4_lexWord_36 : decode cX4_lexWord 36 = .ok (.isub, 1) := by decide +kernel
theorem dX4_lexWord_37 : decode cX4_lexWord 37 = .ok (.bipush 8, 2) := by decide +kernel
theorem dX4_lexWord_39 : decode cX4_lexWord 39 = .ok (.if_icmp .le 7, 3) := by decide +kernel
theorem dX4_lexWord_42 : decode cX4_lexWord 42 = .ok (.iconst 1, 1) := by decide +kernel
theorem dX4_lexWord_43 : decode cX4_lexWord 43 = .ok (.goto 9, 3) := by decide +kernel
theorem dX4_lexWord_46 : decode cX4_lexWord 46 = .ok (.aload_n 0, 1) := by decide +kernel
theorem dX4_lexWord_47 : decode cX4_lexWord 47 = .ok (.iload_n 1, 1) := by decide +kernel
theorem dX4_lexWord_48 : decode cX4_lexWord 48 = .ok (.iload_n 2, 1) := by decide +kernel
theorem dX4_lexWord_49 : decode cX4_lexWord 49 = .ok (.invokevirtual 73, 3) := by decide +kernel
theorem dX4_lexWord_52 : decode cX4_lexWord 52 = .ok (.iconst 0, 1) := by decide +kernel
theorem dX4_lexWord_53 : decode cX4_lexWord 53 = .ok (.iload_n 1, 1) := by decide +kernel
theorem dX4_lexWord_54 : decode cX4_lexWord 54 = .ok (.invokevirtual 50, 3) := by decide +kernel
theorem dX4_lexWord_57 : decode cX4_lexWord 57 = .ok (.iload_n 2, 1) := by decide +kernel
theorem dX4_lexWord_58 : decode cX4_lexWord 58 = .ok (.ireturn, 1) := by decide +kernel
theorem dX4_lexInt_0 : decode cX4_lexInt 0 = .ok (.iload_n 1, 1) := by decide +kernel
theorem dX4_lexInt_1 : decode cX4_lexInt 1 = .ok (.istore_n 2, 1) := by decide +kernel
theorem dX4_lexInt_2 : decode cX4_lexInt 2 = .ok (.iconst 0, 1) := by decide +kernel
theorem dX4_lexInt_3 : decode cX4_lexInt 3 = .ok (.istore_n 3, 1) := by decide +kernel
theorem dX4_lexInt_4 : decode cX4_lexInt 4 = .ok (.iload_n 2, 1) := by decide +kernel
theorem dX4_lexInt_5 : decode cX4_lexInt 5 = .ok (.aload_n 0, 1) := by decide +kernel
theorem dX4_lexInt_6 : decode cX4_lexInt 6 = .ok (.getfield 9, 3) := by decide +kernel
theorem dX4_lexInt_9 : decode cX4_lexInt 9 = .ok (.getfield 42, 3) := by decide +kernel
theorem dX4_lexInt_12 : decode cX4_lexInt 12 = .ok (.if_icmp .ge 40, 3) := by decide +kernel
theorem dX4_lexInt_15 : decode cX4_lexInt 15 = .ok (.aload_n 0, 1) := by decide +kernel
theorem dX4_lexInt_16 : decode cX4_lexInt 16 = .ok (.getfield 9, 3) := by decide +kernel
theorem dX4_lexInt_19 : decode cX4_lexInt 19 = .ok (.iload_n 2, 1) := by decide +kernel
theorem dX4_lexInt_20 : decode cX4_lexInt 20 = .ok (.invokevirtual 39, 3) := by decide +kernel
theorem dX4_lexInt_23 : decode cX4_lexInt 23 = .ok (.invokestatic 60, 3) := by decide +kernel
theorem dX4_lexInt_26 : decode cX4_lexInt 26 = .ok (.ifCond .eq 26, 3) := by decide +kernel
theorem dX4_lexInt_29 : decode cX4_lexInt 29 = .ok (.iload_n 3, 1) := by decide +kernel
theorem dX4_lexInt_30 : decode cX4_lexInt 30 = .ok (.bipush 10, 2) := by decide +kernel
theorem dX4_lexInt_32 : decode cX4_lexInt 32 = .ok (.imul, 1) := by decide +kernel
theorem dX4_lexInt_33 : decode cX4_lexInt 33 = .ok (.aload_n 0, 1) := by decide +kernel
theorem dX4_lexInt_34 : decode cX4_lexInt 34 = .ok (.getfield 9, 3) := by decide +kernel
theorem dX4_lexInt_37 : decode cX4_lexInt 37 = .ok (.iload_n 2, 1) := by decide +kernel
theorem dX4_lexInt_38 : decode cX4_lexInt 38 = .ok (.invokevirtual 39, 3) := by decide +kernel
theorem dX4_lexInt_41 : decode cX4_lexInt 41 = .ok (.iadd, 1) := by decide +kernel
theorem dX4_lexInt_42 : decode cX4_lexInt 42 = .ok (.bipush 48, 2) := by decide +kernel
theorem dX4_lexInt_44 : decode cX4_lexInt 44 = .ok (.isub, 1) := by decide +kernel
theorem dX4_lexInt_45 : decode cX4_lexInt 45 = .ok (.istore_n 3, 1) := by decide +kernel
theorem dX4_lexInt_46 : decode cX4_lexInt 46 = .ok (.iinc 2 1, 3) := by decide +kernel
theorem dX4_lexInt_49 : decode cX4_lexInt 49 = .ok (.goto (-45), 3) := by decide +kernel
theorem dX4_lexInt_52 : decode cX4_lexInt 52 = .ok (.aload_n 0, 1) := by decide +kernel
theorem dX4_lexInt_53 : decode cX4_lexInt 53 = .ok (.iload_n 2, 1) := by decide +kernel
theorem dX4_lexInt_54 : decode cX4_lexInt 54 = .ok (.iload_n 1, 1) := by decide +kernel
theorem dX4_lexInt_55 : decode cX4_lexInt 55 = .ok (.isub, 1) := by decide +kernel
theorem dX4_lexInt_56 : decode cX4_lexInt 56 = .ok (.iconst 4, 1) := by decide +kernel
theorem dX4_lexInt_57 : decode cX4_lexInt 57 = .ok (.if_icmp .le 7, 3) := by decide +kernel
theorem dX4_lexInt_60 : decode cX4_lexInt 60 = .ok (.iconst 1, 1) := by decide +kernel
theorem dX4_lexInt_61 : decode cX4_lexInt 61 = .ok (.goto 4, 3) := by decide +kernel
theorem dX4_lexInt_64 : decode cX4_lexInt 64 = .ok (.iconst 2, 1) := by decide +kernel
theorem dX4_lexInt_65 : decode cX4_lexInt 65 = .ok (.iload_n 3, 1) := by decide +kernel
theorem dX4_lexInt_66 : decode cX4_lexInt 66 = .ok (.iload_n 1, 1) := by decide +kernel
theorem dX4_lexInt_67 : decode cX4_lexInt 67 = .ok (.invokevirtual 50, 3) := by decide +kernel
theorem dX4_lexInt_70 : decode cX4_lexInt 70 = .ok (.iload_n 2, 1) := by decide +kernel
theorem dX4_lexInt_71 : decode cX4_lexInt 71 = .ok (.ireturn, 1) := by decide +kernel
theorem dX4_kindOfWord_0 : decode cX4_kindOfWord 0 = .ok (.aload_n 0, 1) := by decide +kernel
theorem dX4_kindOfWord_1 : decode cX4_kindOfWord 1 = .ok (.iload_n 1, 1) := by decide +kernel
theorem dX4_kindOfWord_2 : decode cX4_kindOfWord 2 = .ok (.iload_n 2, 1) := by decide +kernel
theorem dX4_kindOfWord_3 : decode cX4_kindOfWord 3 = .ok (.ldc 77, 2) := by decide +kernel
theorem dX4_kindOfWord_5 : decode cX4_kindOfWord 5 = .ok (.invokevirtual 79, 3) := by decide +kernel
theorem dX4_kindOfWord_8 : decode cX4_kindOfWord 8 = .ok (.ifCond .eq 5, 3) := by decide +kernel
theorem dX4_kindOfWord_11 : decode cX4_kindOfWord 11 = .ok (.iconst 4, 1) := by decide +kernel
theorem dX4_kindOfWord_12 : decode cX4_kindOfWord 12 = .ok (.ireturn, 1) := by decide +kernel
theorem dX4_kindOfWord_13 : decode cX4_kindOfWord 13 = .ok (.aload_n 0, 1) := by decide +kernel
theorem dX4_kindOfWord_14 : decode cX4_kindOfWord 14 = .ok (.iload_n 1, 1) := by decide +kernel
theorem dX4_kindOfWord_15 : decode cX4_kindOfWord 15 = .ok (.iload_n 2, 1) := by decide +kernel
theorem dX4_kindOfWord_16 : decode cX4_kindOfWord 16 = .ok (.ldc 83, 2) := by decide +kernel
theorem dX4_kindOfWord_18 : decode cX4_kindOfWord 18 = .ok (.invokevirtual 79, 3) := by decide +kernel
theorem dX4_kindOfWord_21 : decode cX4_kindOfWord 21 = .ok (.ifCond .eq 5, 3) := by decide +kernel
theorem dX4_kindOfWord_24 : decode cX4_kindOfWord 24 = .ok (.iconst 5, 1) := by decide +kernel
theorem dX4_kindOfWord_25 : decode cX4_kindOfWord 25 = .ok (.ireturn, 1) := by decide +kernel
theorem dX4_kindOfWord_26 : decode cX4_kindOfWord 26 = .ok (.aload_n 0, 1) := by decide +kernel
theorem dX4_kindOfWord_27 : decode cX4_kindOfWord 27 = .ok (.iload_n 1, 1) := by decide +kernel
theorem dX4_kindOfWord_28 : decode cX4_kindOfWord 28 = .ok (.iload_n 2, 1) := by decide +kernel
theorem dX4_kindOfWord_29 : decode cX4_kindOfWord 29 = .ok (.ldc 85, 2) := by decide +kernel
theorem dX4_kindOfWord_31 : decode cX4_kindOfWord 31 = .ok (.invokevirtual 79, 3) := by decide +kernel
theorem dX4_kindOfWord_34 : decode cX4_kindOfWord 34 = .ok (.ifCond .eq 6, 3) := by decide +kernel
theorem dX4_kindOfWord_37 : decode cX4_kindOfWord 37 = .ok (.bipush 6, 2) := by decide +kernel
theorem dX4_kindOfWord_39 : decode cX4_kindOfWord 39 = .ok (.ireturn, 1) := by decide +kernel
theorem dX4_kindOfWord_40 : decode cX4_kindOfWord 40 = .ok (.aload_n 0, 1) := by decide +kernel
theorem dX4_kindOfWord_41 : decode cX4_kindOfWord 41 = .ok (.iload_n 1, 1) := by decide +kernel
theorem dX4_kindOfWord_42 : decode cX4_kindOfWord 42 = .ok (.iload_n 2, 1) := by decide +kernel
theorem dX4_kindOfWord_43 : decode cX4_kindOfWord 43 = .ok (.ldc 87, 2) := by decide +kernel
theorem dX4_kindOfWord_45 : decode cX4_kindOfWord 45 = .ok (.invokevirtual 79, 3) := by decide +kernel
theorem dX4_kindOfWord_48 : decode cX4_kindOfWord 48 = .ok (.ifCond .eq 6, 3) := by decide +kernel
theorem dX4_kindOfWord_51 : decode cX4_kindOfWord 51 = .ok (.bipush 7, 2) := by decide +kernel
theorem dX4_kindOfWord_53 : decode cX4_kindOfWord 53 = .ok (.ireturn, 1) := by decide +kernel
theorem dX4_kindOfWord_54 : decode cX4_kindOfWord 54 = .ok (.aload_n 0, 1) := by decide +kernel
theorem dX4_kindOfWord_55 : decode cX4_kindOfWord 55 = .ok (.iload_n 1, 1) := by decide +kernel
theorem dX4_kindOfWord_56 : decode cX4_kindOfWord 56 = .ok (.iload_n 2, 1) := by decide +kernel
theorem dX4_kindOfWord_57 : decode cX4_kindOfWord 57 = .ok (.ldc 89, 2) := by decide +kernel
theorem dX4_kindOfWord_59 : decode cX4_kindOfWord 59 = .ok (.invokevirtual 79, 3) := by decide +kernel
theorem dX4_kindOfWord_62 : decode cX4_kindOfWord 62 = .ok (.ifCond .eq 5, 3) := by decide +kernel
theorem dX4_kindOfWord_65 : decode cX4_kindOfWord 65 = .ok (.iconst 3, 1) := by decide +kernel
theorem dX4_kindOfWord_66 : decode cX4_kindOfWord 66 = .ok (.ireturn, 1) := by decide +kernel
theorem dX4_kindOfWord_67 : decode cX4_kindOfWord 67 = .ok (.aload_n 0, 1) := by decide +kernel
theorem dX4_kindOfWord_68 : decode cX4_kindOfWord 68 = .ok (.iload_n 1, 1) := by decide +kernel
theorem dX4_kindOfWord_69 : decode cX4_kindOfWord 69 = .ok (.iload_n 2, 1) := by decide +kernel
theorem dX4_kindOfWord_70 : decode cX4_kindOfWord 70 = .ok (.invokevirtual 91, 3) := by decide +kernel
theorem dX4_kindOfWord_73 : decode cX4_kindOfWord 73 = .ok (.ireturn, 1) := by decide +kernel
theorem dX4_kindOfVar_0 : decode cX4_kindOfVar 0 = .ok (.aload_n 0, 1) := by decide +kernel
theorem dX4_kindOfVar_1 : decode cX4_kindOfVar 1 = .ok (.iload_n 1, 1) := by decide +kernel
theorem dX4_kindOfVar_2 : decode cX4_kindOfVar 2 = .ok (.iload_n 2, 1) := by decide +kernel
theorem dX4_kindOfVar_3 : decode cX4_kindOfVar 3 = .ok (.ldc 94, 2) := by decide +kernel
theorem dX4_kindOfVar_5 : decode cX4_kindOfVar 5 = .ok (.invokevirtual 79, 3) := by decide +kernel
theorem dX4_kindOfVar_8 : decode cX4_kindOfVar 8 = .ok (.ifCond .eq 6, 3) := by decide +kernel
theorem dX4_kindOfVar_11 : decode cX4_kindOfVar 11 = .ok (.bipush 8, 2) := by decide +kernel
theorem dX4_kindOfVar_13 : decode cX4_kindOfVar 13 = .ok (.ireturn, 1) := by decide +kernel
theorem dX4_kindOfVar_14 : decode cX4_kindOfVar 14 = .ok (.aload_n 0, 1) := by decide +kernel
theorem dX4_kindOfVar_15 : decode cX4_kindOfVar 15 = .ok (.iload_n 1, 1) := by decide +kernel
theorem dX4_kindOfVar_16 : decode cX4_kindOfVar 16 = .ok (.iload_n 2, 1) := by decide +kernel
theorem dX4_kindOfVar_17 : decode cX4_kindOfVar 17 = .ok (.ldc 96, 2) := by decide +kernel
theorem dX4_kindOfVar_19 : decode cX4_kindOfVar 19 = .ok (.invokevirtual 79, 3) := by decide +kernel
theorem dX4_kindOfVar_22 : decode cX4_kindOfVar 22 = .ok (.ifCond .eq 6, 3) := by decide +kernel
theorem dX4_kindOfVar_25 : decode cX4_kindOfVar 25 = .ok (.bipush 9, 2) := by decide +kernel
theorem dX4_kindOfVar_27 : decode cX4_kindOfVar 27 = .ok (.ireturn, 1) := by decide +kernel
theorem dX4_kindOfVar_28 : decode cX4_kindOfVar 28 = .ok (.aload_n 0, 1) := by decide +kernel
theorem dX4_kindOfVar_29 : decode cX4_kindOfVar 29 = .ok (.iload_n 1, 1) := by decide +kernel
theorem dX4_kindOfVar_30 : decode cX4_kindOfVar 30 = .ok (.iload_n 2, 1) := by decide +kernel
theorem dX4_kindOfVar_31 : decode cX4_kindOfVar 31 = .ok (.ldc 98, 2) := by decide +kernel
theorem dX4_kindOfVar_33 : decode cX4_kindOfVar 33 = .ok (.invokevirtual 79, 3) := by decide +kernel
theorem dX4_kindOfVar_36 : decode cX4_kindOfVar 36 = .ok (.ifCond .eq 6, 3) := by decide +kernel
theorem dX4_kindOfVar_39 : decode cX4_kindOfVar 39 = .ok (.bipush 10, 2) := by decide +kernel
theorem dX4_kindOfVar_41 : decode cX4_kindOfVar 41 = .ok (.ireturn, 1) := by decide +kernel
theorem dX4_kindOfVar_42 : decode cX4_kindOfVar 42 = .ok (.aload_n 0, 1) := by decide +kernel
theorem dX4_kindOfVar_43 : decode cX4_kindOfVar 43 = .ok (.iload_n 1, 1) := by decide +kernel
theorem dX4_kindOfVar_44 : decode cX4_kindOfVar 44 = .ok (.iload_n 2, 1) := by decide +kernel
theorem dX4_kindOfVar_45 : decode cX4_kindOfVar 45 = .ok (.ldc 100, 2) := by decide +kernel
theorem dX4_kindOfVar_47 : decode cX4_kindOfVar 47 = .ok (.invokevirtual 79, 3) := by decide +kernel
theorem dX4_kindOfVar_50 : decode cX4_kindOfVar 50 = .ok (.ifCond .eq 6, 3) := by decide +kernel
theorem dX4_kindOfVar_53 : decode cX4_kindOfVar 53 = .ok (.bipush 11, 2) := by decide +kernel
theorem dX4_kindOfVar_55 : decode cX4_kindOfVar 55 = .ok (.ireturn, 1) := by decide +kernel
theorem dX4_kindOfVar_56 : decode cX4_kindOfVar 56 = .ok (.aload_n 0, 1) := by decide +kernel
theorem dX4_kindOfVar_57 : decode cX4_kindOfVar 57 = .ok (.iload_n 1, 1) := by decide +kernel
theorem dX4_kindOfVar_58 : decode cX4_kindOfVar 58 = .ok (.iload_n 2, 1) := by decide +kernel
theorem dX4_kindOfVar_59 : decode cX4_kindOfVar 59 = .ok (.ldc 102, 2) := by decide +kernel
theorem dX4_kindOfVar_61 : decode cX4_kindOfVar 61 = .ok (.invokevirtual 79, 3) := by decide +kernel
theorem dX4_kindOfVar_64 : decode cX4_kindOfVar 64 = .ok (.ifCond .eq 6, 3) := by decide +kernel
theorem dX4_kindOfVar_67 : decode cX4_kindOfVar 67 = .ok (.bipush 12, 2) := by decide +kernel
theorem dX4_kindOfVar_69 : decode cX4_kindOfVar 69 = .ok (.ireturn, 1) := by decide +kernel
theorem dX4_kindOfVar_70 : decode cX4_kindOfVar 70 = .ok (.aload_n 0, 1) := by decide +kernel
theorem dX4_kindOfVar_71 : decode cX4_kindOfVar 71 = .ok (.iload_n 1, 1) := by decide +kernel
theorem dX4_kindOfVar_72 : decode cX4_kindOfVar 72 = .ok (.iload_n 2, 1) := by decide +kernel
theorem dX4_kindOfVar_73 : decode cX4_kindOfVar 73 = .ok (.ldc 104, 2) := by decide +kernel
theorem dX4_kindOfVar_75 : decode cX4_kindOfVar 75 = .ok (.invokevirtual 79, 3) := by decide +kernel
theorem dX4_kindOfVar_78 : decode cX4_kindOfVar 78 = .ok (.ifCond .eq 8, 3) := by decide +kernel
theorem dX4_kindOfVar_81 : decode cX4_kindOfVar 81 = .ok (.bipush 13, 2) := by decide +kernel
theorem dX4_kindOfVar_83 : decode cX4_kindOfVar 83 = .ok (.goto 4, 3) := by decide +kernel
theorem dX4_kindOfVar_86 : decode cX4_kindOfVar 86 = .ok (.iconst 1, 1) := by decide +kernel
theorem dX4_kindOfVar_87 : decode cX4_kindOfVar 87 = .ok (.ireturn, 1) := by decide +kernel
theorem dX4_spells_0 : decode cX4_spells 0 = .ok (.iload_n 2, 1) := by decide +kernel
theorem dX4_spells_1 : decode cX4_spells 1 = .ok (.iload_n 1, 1) := by decide +kernel
theorem dX4_spells_2 : decode cX4_spells 2 = .ok (.isub, 1) := by decide +kernel
theorem dX4_spells_3 : decode cX4_spells 3 = .ok (.aload_n 3, 1) := by decide +kernel
theorem dX4_spells_4 : decode cX4_spells 4 = .ok (.invokevirtual 106, 3) := by decide +kernel
theorem dX4_spells_7 : decode cX4_spells 7 = .ok (.if_icmp .eq 5, 3) := by decide +kernel
theorem dX4_spells_10 : decode cX4_spells 10 = .ok (.iconst 0, 1) := by decide +kernel
theorem dX4_spells_11 : decode cX4_spells 11 = .ok (.ireturn, 1) := by decide +kernel
theorem dX4_spells_12 : decode cX4_spells 12 = .ok (.iconst 0, 1) := by decide +kernel
theorem dX4_spells_13 : decode cX4_spells 13 = .ok (.istore 4, 2) := by decide +kernel
theorem dX4_spells_15 : decode cX4_spells 15 = .ok (.iload 4, 2) := by decide +kernel
theorem dX4_spells_17 : decode cX4_spells 17 = .ok (.aload_n 3, 1) := by decide +kernel
theorem dX4_spells_18 : decode cX4_spells 18 = .ok (.invokevirtual 106, 3) := by decide +kernel
theorem dX4_spells_21 : decode cX4_spells 21 = .ok (.if_icmp .ge 31, 3) := by decide +kernel
theorem dX4_spells_24 : decode cX4_spells 24 = .ok (.aload_n 0, 1) := by decide +kernel
theorem dX4_spells_25 : decode cX4_spells 25 = .ok (.getfield 9, 3) := by decide +kernel
theorem dX4_spells_28 : decode cX4_spells 28 = .ok (.iload_n 1, 1) := by decide +kernel
theorem dX4_spells_29 : decode cX4_spells 29 = .ok (.iload 4, 2) := by decide +kernel
theorem dX4_spells_31 : decode cX4_spells 31 = .ok (.iadd, 1) := by decide +kernel
theorem dX4_spells_32 : decode cX4_spells 32 = .ok (.invokevirtual 39, 3) := by decide +kernel
theorem dX4_spells_35 : decode cX4_spells 35 = .ok (.aload_n 3, 1) := by decide +kernel
theorem dX4_spells_36 : decode cX4_spells 36 = .ok (.iload 4, 2) := by decide +kernel
theorem dX4_spells_38 : decode cX4_spells 38 = .ok (.invokevirtual 110, 3) := by decide +kernel
theorem dX4_spells_41 : decode cX4_spells 41 = .ok (.if_icmp .eq 5, 3) := by decide +kernel
theorem dX4_spells_44 : decode cX4_spells 44 = .ok (.iconst 0, 1) := by decide +kernel
theorem dX4_spells_45 : decode cX4_spells 45 = .ok (.ireturn, 1) := by decide +kernel
theorem dX4_spells_46 : decode cX4_spells 46 = .ok (.iinc 4 1, 3) := by decide +kernel
theorem dX4_spells_49 : decode cX4_spells 49 = .ok (.goto (-34), 3) := by decide +kernel
theorem dX4_spells_52 : decode cX4_spells 52 = .ok (.iconst 1, 1) := by decide +kernel
theorem dX4_spells_53 : decode cX4_spells 53 = .ok (.ireturn, 1) := by decide +kernel
theorem dX4_keep_0 : decode cX4_keep 0 = .ok (.aload_n 0, 1) := by decide +kernel
theorem dX4_keep_1 : decode cX4_keep 1 = .ok (.getfield 20, 3) := by decide +kernel
theorem dX4_keep_4 : decode cX4_keep 4 = .ok (.iload_n 1, 1) := by decide +kernel
theorem dX4_keep_5 : decode cX4_keep 5 = .ok (.invokevirtual 114, 3) := by decide +kernel
theorem dX4_keep_8 : decode cX4_keep 8 = .ok (.aload_n 0, 1) := by decide +kernel
theorem dX4_keep_9 : decode cX4_keep 9 = .ok (.getfield 23, 3) := by decide +kernel
theorem dX4_keep_12 : decode cX4_keep 12 = .ok (.iload_n 2, 1) := by decide +kernel
theorem dX4_keep_13 : decode cX4_keep 13 = .ok (.invokevirtual 114, 3) := by decide +kernel
theorem dX4_keep_16 : decode cX4_keep 16 = .ok (.aload_n 0, 1) := by decide +kernel
theorem dX4_keep_17 : decode cX4_keep 17 = .ok (.getfield 26, 3) := by decide +kernel
theorem dX4_keep_20 : decode cX4_keep 20 = .ok (.iload_n 3, 1) := by decide +kernel
theorem dX4_keep_21 : decode cX4_keep 21 = .ok (.invokevirtual 114, 3) := by decide +kernel
theorem dX4_keep_24 : decode cX4_keep 24 = .ok (.return_, 1) := by decide +kernel
theorem dX4_isBlank_0 : decode cX4_isBlank 0 = .ok (.iload_n 0, 1) := by decide +kernel
theorem dX4_isBlank_1 : decode cX4_isBlank 1 = .ok (.bipush 9, 2) := by decide +kernel
theorem dX4_isBlank_3 : decode cX4_isBlank 3 = .ok (.if_icmp .eq 21, 3) := by decide +kernel
theorem dX4_isBlank_6 : decode cX4_isBlank 6 = .ok (.iload_n 0, 1) := by decide +kernel
theorem dX4_isBlank_7 : decode cX4_isBlank 7 = .ok (.bipush 10, 2) := by decide +kernel
theorem dX4_isBlank_9 : decode cX4_isBlank 9 = .ok (.if_icmp .eq 15, 3) := by decide +kernel
theorem dX4_isBlank_12 : decode cX4_isBlank 12 = .ok (.iload_n 0, 1) := by decide +kernel
theorem dX4_isBlank_13 : decode cX4_isBlank 13 = .ok (.bipush 13, 2) := by decide +kernel
theorem dX4_isBlank_15 : decode cX4_isBlank 15 = .ok (.if_icmp .eq 9, 3) := by decide +kernel
theorem dX4_isBlank_18 : decode cX4_isBlank 18 = .ok (.iload_n 0, 1) := by decide +kernel
theorem dX4_isBlank_19 : decode cX4_isBlank 19 = .ok (.bipush 32, 2) := by decide +kernel
theorem dX4_isBlank_21 : decode cX4_isBlank 21 = .ok (.if_icmp .ne 7, 3) := by decide +kernel
theorem dX4_isBlank_24 : decode cX4_isBlank 24 = .ok (.iconst 1, 1) := by decide +kernel
theorem dX4_isBlank_25 : decode cX4_isBlank 25 = .ok (.goto 4, 3) := by decide +kernel
theorem dX4_isBlank_28 : decode cX4_isBlank 28 = .ok (.iconst 0, 1) := by decide +kernel
theorem dX4_isBlank_29 : decode cX4_isBlank 29 = .ok (.ireturn, 1) := by decide +kernel
theorem dX4_isLetter_0 : decode cX4_isLetter 0 = .ok (.iload_n 0, 1) := by decide +kernel
theorem dX4_isLetter_1 : decode cX4_isLetter 1 = .ok (.bipush 97, 2) := by decide +kernel
theorem dX4_isLetter_3 : decode cX4_isLetter 3 = .ok (.if_icmp .lt 13, 3) := by decide +kernel
theorem dX4_isLetter_6 : decode cX4_isLetter 6 = .ok (.iload_n 0, 1) := by decide +kernel
theorem dX4_isLetter_7 : decode cX4_isLetter 7 = .ok (.bipush 122, 2) := by decide +kernel
theorem dX4_isLetter_9 : decode cX4_isLetter 9 = .ok (.if_icmp .gt 7, 3) := by decide +kernel
theorem dX4_isLetter_12 : decode cX4_isLetter 12 = .ok (.iconst 1, 1) := by decide +kernel
theorem dX4_isLetter_13 : decode cX4_isLetter 13 = .ok (.goto 4, 3) := by decide +kernel
theorem dX4_isLetter_16 : decode cX4_isLetter 16 = .ok (.iconst 0, 1) := by decide +kernel
theorem dX4_isLetter_17 : decode cX4_isLetter 17 = .ok (.ireturn, 1) := by decide +kernel
theorem dX4_isDigit_0 : decode cX4_isDigit 0 = .ok (.iload_n 0, 1) := by decide +kernel
theorem dX4_isDigit_1 : decode cX4_isDigit 1 = .ok (.bipush 48, 2) := by decide +kernel
theorem dX4_isDigit_3 : decode cX4_isDigit 3 = .ok (.if_icmp .lt 13, 3) := by decide +kernel
theorem dX4_isDigit_6 : decode cX4_isDigit 6 = .ok (.iload_n 0, 1) := by decide +kernel
theorem dX4_isDigit_7 : decode cX4_isDigit 7 = .ok (.bipush 57, 2) := by decide +kernel
theorem dX4_isDigit_9 : decode cX4_isDigit 9 = .ok (.if_icmp .gt 7, 3) := by decide +kernel
theorem dX4_isDigit_12 : decode cX4_isDigit 12 = .ok (.iconst 1, 1) := by decide +kernel
theorem dX4_isDigit_13 : decode cX4_isDigit 13 = .ok (.goto 4, 3) := by decide +kernel
theorem dX4_isDigit_16 : decode cX4_isDigit 16 = .ok (.iconst 0, 1) := by decide +kernel
theorem dX4_isDigit_17 : decode cX4_isDigit 17 = .ok (.ireturn, 1) := by decide +kernel
theorem dX5_init_0 : decode cX5_init 0 = .ok (.aload_n 0, 1) := by decide +kernel
theorem dX5_init_1 : decode cX5_init 1 = .ok (.invokespecial 3, 3) := by decide +kernel
theorem dX5_init_4 : decode cX5_init 4 = .ok (.aload_n 0, 1) := by decide +kernel
theorem dX5_init_5 : decode cX5_init 5 = .ok (.aload_n 1, 1) := by decide +kernel
theorem dX5_init_6 : decode cX5_init 6 = .ok (.putfield 9, 3) := by decide +kernel
theorem dX5_init_9 : decode cX5_init 9 = .ok (.aload_n 0, 1) := by decide +kernel
theorem dX5_init_10 : decode cX5_init 10 = .ok (.aload_n 1, 1) := by decide +kernel
theorem dX5_init_11 : decode cX5_init 11 = .ok (.getfield 15, 3) := by decide +kernel
theorem dX5_init_14 : decode cX5_init 14 = .ok (.putfield 21, 3) := by decide +kernel
theorem dX5_init_17 : decode cX5_init 17 = .ok (.aload_n 0, 1) := by decide +kernel
theorem dX5_init_18 : decode cX5_init 18 = .ok (.new 22, 3) := by decide +kernel
theorem dX5_init_21 : decode cX5_init 21 = .ok (.dup, 1) := by decide +kernel
theorem dX5_init_22 : decode cX5_init 22 = .ok (.bipush 40, 2) := by decide +kernel
theorem dX5_init_24 : decode cX5_init 24 = .ok (.invokespecial 24, 3) := by decide +kernel
theorem dX5_init_27 : decode cX5_init 27 = .ok (.putfield 27, 3) := by decide +kernel
theorem dX5_init_30 : decode cX5_init 30 = .ok (.aload_n 0, 1) := by decide +kernel
theorem dX5_init_31 : decode cX5_init 31 = .ok (.new 22, 3) := by decide +kernel
theorem dX5_init_34 : decode cX5_init 34 = .ok (.dup, 1) := by decide +kernel
theorem dX5_init_35 : decode cX5_init 35 = .ok (.bipush 16, 2) := by decide +kernel
theorem dX5_init_37 : decode cX5_init 37 = .ok (.invokespecial 24, 3) := by decide +kernel
theorem dX5_init_40 : decode cX5_init 40 = .ok (.putfield 31, 3) := by decide +kernel
theorem dX5_init_43 : decode cX5_init 43 = .ok (.return_, 1) := by decide +kernel
theorem dX5_levels_0 : decode cX5_levels 0 = .ok (.aload_n 0, 1) := by decide +kernel
theorem dX5_levels_1 : decode cX5_levels 1 = .ok (.getfield 9, 3) := by decide +kernel
theorem dX5_levels_4 : decode cX5_levels 4 = .ok (.aload_n 0, 1) := by decide +kernel
theorem dX5_levels_5 : decode cX5_levels 5 = .ok (.getfield 27, 3) := by decide +kernel
theorem dX5_levels_8 : decode cX5_levels 8 = .ok (.iconst 0, 1) := by decide +kernel
theorem dX5_levels_9 : decode cX5_levels 9 = .ok (.iload_n 1, 1) := by decide +kernel
theorem dX5_levels_10 : decode cX5_levels 10 = .ok (.invokevirtual 34, 3) := by decide +kernel
theorem dX5_levels_13 : decode cX5_levels 13 = .ok (.aload_n 0, 1) := by decide +kernel
theorem dX5_levels_14 : decode cX5_levels 14 = .ok (.getfield 27, 3) := by decide +kernel
theorem dX5_levels_17 : decode cX5_levels 17 = .ok (.getfield 38, 3) := by decide +kernel
theorem dX5_levels_20 : decode cX5_levels 20 = .ok (.ireturn, 1) := by decide +kernel
theorem dX5_leafOf_0 : decode cX5_leafOf 0 = .ok (.aload_n 0, 1) := by decide +kernel
theorem dX5_leafOf_1 : decode cX5_leafOf 1 = .ok (.getfield 9, 3) := by decide +kernel
theorem dX5_leafOf_4 : decode cX5_leafOf 4 = .ok (.aload_n 0, 1) := by decide +kernel
theorem dX5_leafOf_5 : decode cX5_leafOf 5 = .ok (.getfield 27, 3) := by decide +kernel
theorem dX5_leafOf_8 : decode cX5_leafOf 8 = .ok (.iload_n 1, 1) := by decide +kernel
theorem dX5_leafOf_9 : decode cX5_leafOf 9 = .ok (.iload_n 2, 1) := by decide +kernel
theorem dX5_leafOf_10 : decode cX5_leafOf 10 = .ok (.invokevirtual 34, 3) := by decide +kernel
theorem dX5_leafOf_13 : decode cX5_leafOf 13 = .ok (.aload_n 0, 1) := by decide +kernel
theorem dX5_leafOf_14 : decode cX5_leafOf 14 = .ok (.getfield 27, 3) := by decide +kernel
theorem dX5_leafOf_17 : decode cX5_leafOf 17 = .ok (.aload_n 0, 1) := by decide +kernel
theorem dX5_leafOf_18 : decode cX5_leafOf 18 = .ok (.getfield 27, 3) := by decide +kernel
theorem dX5_leafOf_21 : decode cX5_leafOf 21 = .ok (.getfield 38, 3) := by decide +kernel
theorem dX5_leafOf_24 : decode cX5_leafOf 24 = .ok (.iconst 1, 1) := by decide +kernel
theorem dX5_leafOf_25 : decode cX5_leafOf 25 = .ok (.isub, 1) := by decide +kernel
theorem dX5_leafOf_26 : decode cX5_leafOf 26 = .ok (.invokevirtual 42, 3) := by decide +kernel
theorem dX5_leafOf_29 : decode cX5_leafOf 29 = .ok (.ireturn, 1) := by decide +kernel
theorem dX5_pageOnWay_0 : decode cX5_pageOnWay 0 = .ok (.aload_n 0, 1) := by decide +kernel
theorem dX5_pageOnWay_1 : decode cX5_pageOnWay 1 = .ok (.getfield 9, 3) := by decide +kernel
theorem dX5_pageOnWay_4 : decode cX5_pageOnWay 4 = .ok (.aload_n 0, 1) := by decide +kernel
theorem dX5_pageOnWay_5 : decode cX5_pageOnWay 5 = .ok (.getfield 27, 3) := by decide +kernel
theorem dX5_pageOnWay_8 : decode cX5_pageOnWay 8 = .ok (.iload_n 1, 1) := by decide +kernel
theorem dX5_pageOnWay_9 : decode cX5_pageOnWay 9 = .ok (.iload_n 2, 1) := by decide +kernel
theorem dX5_pageOnWay_10 : decode cX5_pageOnWay 10 = .ok (.invokevirtual 34, 3) := by decide +kernel
theorem dX5_pageOnWay_13 : decode cX5_pageOnWay 13 = .ok (.iload_n 3, 1) := by decide +kernel
theorem dX5_pageOnWay_14 : decode cX5_pageOnWay 14 = .ok (.ifCond .lt 25, 3) := by decide +kernel
theorem dX5_pageOnWay_17 : decode cX5_pageOnWay 17 = .ok (.iload_n 3, 1) := by decide +kernel
theorem dX5_pageOnWay_18 : decode cX5_pageOnWay 18 = .ok (.aload_n 0, 1) := by decide +kernel
theorem dX5_pageOnWay_19 : decode cX5_pageOnWay 19 = .ok (.getfield 27, 3) := by decide +kernel
theorem dX5_pageOnWay_22 : decode cX5_pageOnWay 22 = .ok (.getfield 38, 3) := by decide +kernel
theorem dX5_pageOnWay_25 : decode cX5_pageOnWay 25 = .ok (.if_icmp .ge 14, 3) := by decide +kernel
theorem dX5_pageOnWay_28 : decode cX5_pageOnWay 28 = .ok (.aload_n 0, 1) := by decide +kernel
theorem dX5_pageOnWay_29 : decode cX5_pageOnWay 29 = .ok (.getfield 27, 3) := by decide +kernel
theorem dX5_pageOnWay_32 : decode cX5_pageOnWay 32 = .ok (.iload_n 3, 1) := by decide +kernel
theorem dX5_pageOnWay_33 : decode cX5_pageOnWay 33 = .ok (.invokevirtual 42, 3) := by decide +kernel
theorem dX5_pageOnWay_36 : decode cX5_pageOnWay 36 = .ok (.goto 4, 3) := by decide +kernel
theorem dX5_pageOnWay_39 : decode cX5_pageOnWay 39 = .ok (.iconst (-1), 1) := by decide +kernel
theorem dX5_pageOnWay_40 : decode cX5_pageOnWay 40 = .ok (.ireturn, 1) := by decide +kernel
theorem dX5_pagesFor_0 : decode cX5_pagesFor 0 = .ok (.aload_n 0, 1) := by decide +kernel
theorem dX5_pagesFor_1 : decode cX5_pagesFor 1 = .ok (.iload_n 1, 1) := by decide +kernel
theorem dX5_pagesFor_2 : decode cX5_pagesFor 2 = .ok (.iload_n 2, 1) := by decide +kernel
theorem dX5_pagesFor_3 : decode cX5_pagesFor 3 = .ok (.iload_n 3, 1) := by decide +kernel
theorem dX5_pagesFor_4 : decode cX5_pagesFor 4 = .ok (.invokevirtual 46, 3) := by decide +kernel
theorem dX5_pagesFor_7 : decode cX5_pagesFor 7 = .ok (.aload_n 0, 1) := by decide +kernel
theorem dX5_pagesFor_8 : decode cX5_pagesFor 8 = .ok (.getfield 31, 3) := by decide +kernel
theorem dX5_pagesFor_11 : decode cX5_pagesFor 11 = .ok (.getfield 38, 3) := by decide +kernel
theorem dX5_pagesFor_14 : decode cX5_pagesFor 14 = .ok (.ireturn, 1) := by decide +kernel
theorem dX5_weakPages_0 : decode cX5_weakPages 0 = .ok (.aload_n 0, 1) := by decide +kernel
theorem dX5_weakPages_1 : decode cX5_weakPages 1 = .ok (.iconst 0, 1) := by decide +kernel
theorem dX5_weakPages_2 : decode cX5_weakPages 2 = .ok (.sipush 999, 3) := by decide +kernel
theorem dX5_weakPages_5 : decode cX5_weakPages 5 = .ok (.iload_n 1, 1) := by decide +kernel
theorem dX5_weakPages_6 : decode cX5_weakPages 6 = .ok (.invokevirtual 46, 3) := by decide +kernel
theorem dX5_weakPages_9 : decode cX5_weakPages 9 = .ok (.iconst 0, 1) := by decide +kernel
theorem dX5_weakPages_10 : decode cX5_weakPages 10 = .ok (.istore_n 2, 1) := by decide +kernel
theorem dX5_weakPages_11 : decode cX5_weakPages 11 = .ok (.iconst 1, 1) := by decide +kernel
theorem dX5_weakPages_12 : decode cX5_weakPages 12 = .ok (.istore_n 3, 1) := by decide +kernel
theorem dX5_weakPages_13 : decode cX5_weakPages 13 = .ok (.iload_n 3, 1) := by decide +kernel
theorem dX5_weakPages_14 : decode cX5_weakPages 14 = .ok (.aload_n 0, 1) := by decide +kernel
theorem dX5_weakPages_15 : decode cX5_weakPages 15 = .ok (.getfield 31, 3) := by decide +kernel
theorem dX5_weakPages_18 : decode cX5_weakPages 18 = .ok (.getfield 38, 3) := by decide +kernel
theorem dX5_weakPages_21 : decode cX5_weakPages 21 = .ok (.if_icmp .ge 38, 3) := by decide +kernel
theorem dX5_weakPages_24 : decode cX5_weakPages 24 = .ok (.aload_n 0, 1) := by decide +kernel
theorem dX5_weakPages_25 : decode cX5_weakPages 25 = .ok (.getfield 21, 3) := by decide +kernel
theorem dX5_weakPages_28 : decode cX5_weakPages 28 = .ok (.aload_n 0, 1) := by decide +kernel
theorem dX5_weakPages_29 : decode cX5_weakPages 29 = .ok (.getfield 31, 3) := by decide +kernel
theorem dX5_weakPages_32 : decode cX5_weakPages 32 = .ok (.iload_n 3, 1) := by decide +kernel
theorem dX5_weakPages_33 : decode cX5_weakPages 33 = .ok (.invokevirtual 42, 3) := by decide +kernel
theorem dX5_weakPages_36 : decode cX5_weakPages 36 = .ok (.iload_n 1, 1) := by decide +kernel
theorem dX5_weakPages_37 : decode cX5_weakPages 37 = .ok (.invokevirtual 50, 3) := by decide +kernel
theorem dX5_weakPages_40 : decode cX5_weakPages 40 = .ok (.aload_n 0, 1) := by decide +kernel
theorem dX5_weakPages_41 : decode cX5_weakPages 41 = .ok (.getfield 21, 3) := by decide +kernel
theorem dX5_weakPages_44 : decode cX5_weakPages 44 = .ok (.invokevirtual 56, 3) := by decide +kernel
theorem dX5_weakPages_47 : decode cX5_weakPages 47 = .ok (.if_icmp .ge 6, 3) := by decide +kernel
theorem dX5_weakPages_50 : decode cX5_weakPages 50 = .ok (.iinc 2 1, 3) := by decide +kernel
theorem dX5_weakPages_53 : decode cX5_weakPages 53 = .ok (.iinc 3 1, 3) := by decide +kernel
theorem dX5_weakPages_56 : decode cX5_weakPages 56 = .ok (.goto (-43), 3) := by decide +kernel
theorem dX5_weakPages_59 : decode cX5_weakPages 59 = .ok (.iload_n 2, 1) := by decide +kernel
theorem dX5_weakPages_60 : decode cX5_weakPages 60 = .ok (.ireturn, 1) := by decide +kernel
theorem dX5_heldAt_0 : decode cX5_heldAt 0 = .ok (.aload_n 0, 1) := by decide +kernel
theorem dX5_heldAt_1 : decode cX5_heldAt 1 = .ok (.iconst 0, 1) := by decide +kernel
theorem dX5_heldAt_2 : decode cX5_heldAt 2 = .ok (.sipush 999, 3) := by decide +kernel
theorem dX5_heldAt_5 : decode cX5_heldAt 5 = .ok (.iload_n 1, 1) := by decide +kernel
theorem dX5_heldAt_6 : decode cX5_heldAt 6 = .ok (.invokevirtual 46, 3) := by decide +kernel
theorem dX5_heldAt_9 : decode cX5_heldAt 9 = .ok (.iconst 0, 1) := by decide +kernel
theorem dX5_heldAt_10 : decode cX5_heldAt 10 = .ok (.istore_n 3, 1) := by decide +kernel
theorem dX5_heldAt_11 : decode cX5_heldAt 11 = .ok (.iconst 0, 1) := by decide +kernel
theorem dX5_heldAt_12 : decode cX5_heldAt 12 = .ok (.istore 4, 2) := by decide +kernel
theorem dX5_heldAt_14 : decode cX5_heldAt 14 = .ok (.iconst 0, 1) := by decide +kernel
theorem dX5_heldAt_15 : decode cX5_heldAt 15 = .ok (.istore 5, 2) := by decide +kernel
theorem dX5_heldAt_17 : decode cX5_heldAt 17 = .ok (.iconst 0, 1) := by decide +kernel
theorem dX5_heldAt_18 : decode cX5_heldAt 18 = .ok (.istore 6, 2) := by decide +kernel
theorem dX5_heldAt_20 : decode cX5_heldAt 20 = .ok (.iload 6, 2) := by decide +kernel
theorem dX5_heldAt_22 : decode cX5_heldAt 22 = .ok (.aload_n 0, 1) := by decide +kernel
theorem dX5_heldAt_23 : decode cX5_heldAt 23 = .ok (.getfield 31, 3) := by decide +kernel
theorem dX5_heldAt_26 : decode cX5_heldAt 26 = .ok (.getfield 38, 3) := by decide +kernel
theorem dX5_heldAt_29 : decode cX5_heldAt 29 = .ok (.if_icmp .ge 75, 3) := by decide +kernel
theorem dX5_heldAt_32 : decode cX5_heldAt 32 = .ok (.aload_n 0, 1) := by decide +kernel
theorem dX5_heldAt_33 : decode cX5_heldAt 33 = .ok (.getfield 31, 3) := by decide +kernel
theorem dX5_heldAt_36 : decode cX5_heldAt 36 = .ok (.iload 6, 2) := by decide +kernel
theorem dX5_heldAt_38 : decode cX5_heldAt 38 = .ok (.invokevirtual 42, 3) := by decide +kernel
theorem dX5_heldAt_41 : decode cX5_heldAt 41 = .ok (.istore 7, 2) := by decide +kernel
theorem dX5_heldAt_43 : decode cX5_heldAt 43 = .ok (.iload_n 3, 1) := by decide +kernel
theorem dX5_heldAt_44 : decode cX5_heldAt 44 = .ok (.aload_n 0, 1) := by decide +kernel
theorem dX5_heldAt_45 : decode cX5_heldAt 45 = .ok (.getfield 21, 3) := by decide +kernel
theorem dX5_heldAt_48 : decode cX5_heldAt 48 = .ok (.getfield 60, 3) := by decide +kernel
theorem dX5_heldAt_51 : decode cX5_heldAt 51 = .ok (.iload 7, 2) := by decide +kernel
theorem dX5_heldAt_53 : decode cX5_heldAt 53 = .ok (.invokevirtual 42, 3) := by decide +kernel
theorem dX5_heldAt_56 : decode cX5_heldAt 56 = .ok (.iadd, 1) := by decide +kernel
theorem dX5_heldAt_57 : decode cX5_heldAt 57 = .ok (.istore_n 3, 1) := by decide +kernel
theorem dX5_heldAt_58 : decode cX5_heldAt 58 = .ok (.iload 4, 2) := by decide +kernel
theorem dX5_heldAt_60 : decode cX5_heldAt 60 = .ok (.aload_n 0, 1) := by decide +kernel
theorem dX5_heldAt_61 : decode cX5_heldAt 61 = .ok (.getfield 21, 3) := by decide +kernel
theorem dX5_heldAt_64 : decode cX5_heldAt 64 = .ok (.iload 7, 2) := by decide +kernel
theorem dX5_heldAt_66 : decode cX5_heldAt 66 = .ok (.iload_n 1, 1) := by decide +kernel
theorem dX5_heldAt_67 : decode cX5_heldAt 67 = .ok (.invokevirtual 50, 3) := by decide +kernel
theorem dX5_heldAt_70 : decode cX5_heldAt 70 = .ok (.iadd, 1) := by decide +kernel
theorem dX5_heldAt_71 : decode cX5_heldAt 71 = .ok (.istore 4, 2) := by decide +kernel
theorem dX5_heldAt_73 : decode cX5_heldAt 73 = .ok (.iload 5, 2) := by decide +kernel
theorem dX5_heldAt_75 : decode cX5_heldAt 75 = .ok (.aload_n 0, 1) := by decide +kernel
theorem dX5_heldAt_76 : decode cX5_heldAt 76 = .ok (.getfield 21, 3) := by decide +kernel
theorem dX5_heldAt_79 : decode cX5_heldAt 79 = .ok (.getfield 63, 3) := by decide +kernel
theorem dX5_heldAt_82 : decode cX5_heldAt 82 = .ok (.aload_n 0, 1) := by decide +kernel
theorem dX5_heldAt_83 : decode cX5_heldAt 83 = .ok (.getfield 21, 3) := by decide +kernel
theorem dX5_heldAt_86 : decode cX5_heldAt 86 = .ok (.getfield 66, 3) := by decide +kernel
theorem dX5_heldAt_89 : decode cX5_heldAt 89 = .ok (.iload 7, 2) := by decide +kernel
theorem dX5_heldAt_91 : decode cX5_heldAt 91 = .ok (.invokevirtual 42, 3) := by decide +kernel
theorem dX5_heldAt_94 : decode cX5_heldAt 94 = .ok (.isub, 1) := by decide +kernel
theorem dX5_heldAt_95 : decode cX5_heldAt 95 = .ok (.iadd, 1) := by decide +kernel
theorem dX5_heldAt_96 : decode cX5_heldAt 96 = .ok (.istore 5, 2) := by decide +kernel
theorem dX5_heldAt_98 : decode cX5_heldAt 98 = .ok (.iinc 6 1, 3) := by decide +kernel
theorem dX5_heldAt_101 : decode cX5_heldAt 101 = .ok (.goto (-81), 3) := by decide +kernel
theorem dX5_heldAt_104 : decode cX5_heldAt 104 = .ok (.iload_n 2, 1) := by decide +kernel
theorem dX5_heldAt_105 : decode cX5_heldAt 105 = .ok (.tableswitch 49 0 3 #[31, 33, 43, 46], 31) := by decide +kernel
theorem dX5_heldAt_136 : decode cX5_heldAt 136 = .ok (.iload_n 3, 1) := by decide +kernel
theorem dX5_heldAt_137 : decode cX5_heldAt 137 = .ok (.ireturn, 1) := by decide +kernel
theorem dX5_heldAt_138 : decode cX5_heldAt 138 = .ok (.aload_n 0, 1) := by decide +kernel
theorem dX5_heldAt_139 : decode cX5_heldAt 139 = .ok (.getfield 31, 3) := by decide +kernel
theorem dX5_heldAt_142 : decode cX5_heldAt 142 = .ok (.getfield 38, 3) := by decide +kernel
theorem dX5_heldAt_145 : decode cX5_heldAt 145 = .ok (.iload_n 3, 1) := by decide +kernel
theorem dX5_heldAt_146 : decode cX5_heldAt 146 = .ok (.isub, 1) := by decide +kernel
theorem dX5_heldAt_147 : decode cX5_heldAt 147 = .ok (.ireturn, 1) := by decide +kernel
theorem dX5_heldAt_148 : decode cX5_heldAt 148 = .ok (.iload 4, 2) := by decide +kernel
theorem dX5_heldAt_150 : decode cX5_heldAt 150 = .ok (.ireturn, 1) := by decide +kernel
theorem dX5_heldAt_151 : decode cX5_heldAt 151 = .ok (.iload 5, 2) := by decide +kernel
theorem dX5_heldAt_153 : decode cX5_heldAt 153 = .ok (.ireturn, 1) := by decide +kernel
theorem dX5_heldAt_154 : decode cX5_heldAt 154 = .ok (.iconst (-1), 1) := by decide +kernel
theorem dX5_heldAt_155 : decode cX5_heldAt 155 = .ok (.ireturn, 1) := by decide +kernel
theorem dX5_comeTo_0 : decode cX5_comeTo 0 = .ok (.aload_n 0, 1) := by decide +kernel
theorem dX5_comeTo_1 : decode cX5_comeTo 1 = .ok (.getfield 31, 3) := by decide +kernel
theorem dX5_comeTo_4 : decode cX5_comeTo 4 = .ok (.iconst 0, 1) := by decide +kernel
theorem dX5_comeTo_5 : decode cX5_comeTo 5 = .ok (.invokevirtual 69, 3) := by decide +kernel
theorem dX5_comeTo_8 : decode cX5_comeTo 8 = .ok (.aload_n 0, 1) := by decide +kernel
theorem dX5_comeTo_9 : decode cX5_comeTo 9 = .ok (.getfield 31, 3) := by decide +kernel
theorem dX5_comeTo_12 : decode cX5_comeTo 12 = .ok (.aload_n 0, 1) := by decide +kernel
theorem dX5_comeTo_13 : decode cX5_comeTo 13 = .ok (.getfield 9, 3) := by decide +kernel
theorem dX5_comeTo_16 : decode cX5_comeTo 16 = .ok (.iload_n 3, 1) := by decide +kernel
theorem dX5_comeTo_17 : decode cX5_comeTo 17 = .ok (.invokevirtual 72, 3) := by decide +kernel
theorem dX5_comeTo_20 : decode cX5_comeTo 20 = .ok (.invokevirtual 75, 3) := by decide +kernel
theorem dX5_comeTo_23 : decode cX5_comeTo 23 = .ok (.iconst 0, 1) := by decide +kernel
theorem dX5_comeTo_24 : decode cX5_comeTo 24 = .ok (.istore 4, 2) := by decide +kernel
theorem dX5_comeTo_26 : decode cX5_comeTo 26 = .ok (.iload 4, 2) := by decide +kernel
theorem dX5_comeTo_28 : decode cX5_comeTo 28 = .ok (.aload_n 0, 1) := by decide +kernel
theorem dX5_comeTo_29 : decode cX5_comeTo 29 = .ok (.getfield 31, 3) := by decide +kernel
theorem dX5_comeTo_32 : decode cX5_comeTo 32 = .ok (.getfield 38, 3) := by decide +kernel
theorem dX5_comeTo_35 : decode cX5_comeTo 35 = .ok (.if_icmp .ge 52, 3) := by decide +kernel
theorem dX5_comeTo_38 : decode cX5_comeTo 38 = .ok (.iload 4, 2) := by decide +kernel
theorem dX5_comeTo_40 : decode cX5_comeTo 40 = .ok (.sipush 1000, 3) := by decide +kernel
theorem dX5_comeTo_43 : decode cX5_comeTo 43 = .ok (.if_icmp .ge 44, 3) := by decide +kernel
theorem dX5_comeTo_46 : decode cX5_comeTo 46 = .ok (.aload_n 0, 1) := by decide +kernel
theorem dX5_comeTo_47 : decode cX5_comeTo 47 = .ok (.getfield 21, 3) := by decide +kernel
theorem dX5_comeTo_50 : decode cX5_comeTo 50 = .ok (.aload_n 0, 1) := by decide +kernel
theorem dX5_comeTo_51 : decode cX5_comeTo 51 = .ok (.getfield 31, 3) := by decide +kernel
theorem dX5_comeTo_54 : decode cX5_comeTo 54 = .ok (.iload 4, 2) := by decide +kernel
theorem dX5_comeTo_56 : decode cX5_comeTo 56 = .ok (.invokevirtual 42, 3) := by decide +kernel
theorem dX5_comeTo_59 : decode cX5_comeTo 59 = .ok (.invokevirtual 78, 3) := by decide +kernel
theorem dX5_comeTo_62 : decode cX5_comeTo 62 = .ok (.ifCond .ne 19, 3) := by decide +kernel
theorem dX5_comeTo_65 : decode cX5_comeTo 65 = .ok (.aload_n 0, 1) := by decide +kernel
theorem dX5_comeTo_66 : decode cX5_comeTo 66 = .ok (.aload_n 0, 1) := by decide +kernel
theorem dX5_comeTo_67 : decode cX5_comeTo 67 = .ok (.getfield 31, 3) := by decide +kernel
theorem dX5_comeTo_70 : decode cX5_comeTo 70 = .ok (.iload 4, 2) := by decide +kernel
theorem dX5_comeTo_72 : decode cX5_comeTo 72 = .ok (.invokevirtual 42, 3) := by decide +kernel
theorem dX5_comeTo_75 : decode cX5_comeTo 75 = .ok (.iload_n 1, 1) := by decide +kernel
theorem dX5_comeTo_76 : decode cX5_comeTo 76 = .ok (.iload_n 2, 1) := by decide +kernel
theorem dX5_comeTo_77 : decode cX5_comeTo 77 = .ok (.iload_n 3, 1) := by decide +kernel
theorem dX5_comeTo_78 : decode cX5_comeTo 78 = .ok (.invokevirtual 82, 3) := by decide +kernel
theorem dX5_comeTo_81 : decode cX5_comeTo 81 = .ok (.iinc 4 1, 3) := by decide +kernel
theorem dX5_comeTo_84 : decode cX5_comeTo 84 = .ok (.goto (-58), 3) := by decide +kernel
theorem dX5_comeTo_87 : decode cX5_comeTo 87 = .ok (.return_, 1) := by decide +kernel
theorem dX5_comeBelow_0 : decode cX5_comeBelow 0 = .ok (.aload_n 0, 1) := by decide +kernel
theorem dX5_comeBelow_1 : decode cX5_comeBelow 1 = .ok (.getfield 21, 3) := by decide +kernel
theorem dX5_comeBelow_4 : decode cX5_comeBelow 4 = .ok (.iload_n 1, 1) := by decide +kernel
theorem dX5_comeBelow_5 : decode cX5_comeBelow 5 = .ok (.invokevirtual 86, 3) := by decide +kernel
theorem dX5_comeBelow_8 : decode cX5_comeBelow 8 = .ok (.istore 5, 2) := by decide +kernel
theorem dX5_comeBelow_10 : decode cX5_comeBelow 10 = .ok (.aload_n 0, 1) := by decide +kernel
theorem dX5_comeBelow_11 : decode cX5_comeBelow 11 = .ok (.getfield 21, 3) := by decide +kernel
theorem dX5_comeBelow_14 : decode cX5_comeBelow 14 = .ok (.iload_n 1, 1) := by decide +kernel
theorem dX5_comeBelow_15 : decode cX5_comeBelow 15 = .ok (.invokevirtual 89, 3) := by decide +kernel
theorem dX5_comeBelow_18 : decode cX5_comeBelow 18 = .ok (.istore 6, 2) := by decide +kernel
theorem dX5_comeBelow_20 : decode cX5_comeBelow 20 = .ok (.iload 6, 2) := by decide +kernel
theorem dX5_comeBelow_22 : decode cX5_comeBelow 22 = .ok (.iload 5, 2) := by decide +kernel
theorem dX5_comeBelow_24 : decode cX5_comeBelow 24 = .ok (.if_icmp .ge 148, 3) := by decide +kernel
theorem dX5_comeBelow_27 : decode cX5_comeBelow 27 = .ok (.iload_n 2, 1) := by decide +kernel
theorem dX5_comeBelow_28 : decode cX5_comeBelow 28 = .ok (.iload_n 3, 1) := by decide +kernel
theorem dX5_comeBelow_29 : decode cX5_comeBelow 29 = .ok (.if_icmp .gt 143, 3) := by decide +kernel
theorem dX5_comeBelow_32 : decode cX5_comeBelow 32 = .ok (.aload_n 0, 1) := by decide +kernel
theorem dX5_comeBelow_33 : decode cX5_comeBelow 33 = .ok (.getfield 21, 3) := by decide +kernel
theorem dX5_comeBelow_36 : decode cX5_comeBelow 36 = .ok (.iload 6, 2) := by decide +kernel
theorem dX5_comeBelow_38 : decode cX5_comeBelow 38 = .ok (.iload 4, 2) := by decide +kernel
theorem dX5_comeBelow_40 : decode cX5_comeBelow 40 = .ok (.invokevirtual 92, 3) := by decide +kernel
theorem dX5_comeBelow_43 : decode cX5_comeBelow 43 = .ok (.ifCond .ne 6, 3) := by decide +kernel
theorem dX5_comeBelow_46 : decode cX5_comeBelow 46 = .ok (.goto 120, 3) := by decide +kernel
theorem dX5_comeBelow_49 : decode cX5_comeBelow 49 = .ok (.aload_n 0, 1) := by decide +kernel
theorem dX5_comeBelow_50 : decode cX5_comeBelow 50 = .ok (.getfield 21, 3) := by decide +kernel
theorem dX5_comeBelow_53 : decode cX5_comeBelow 53 = .ok (.getfield 96, 3) := by decide +kernel
theorem dX5_comeBelow_56 : decode cX5_comeBelow 56 = .ok (.iload 6, 2) := by decide +kernel
theorem dX5_comeBelow_58 : decode cX5_comeBelow 58 = .ok (.invokevirtual 42, 3) := by decide +kernel
theorem dX5_comeBelow_61 : decode cX5_comeBelow 61 = .ok (.istore 7, 2) := by decide +kernel
theorem dX5_comeBelow_63 : decode cX5_comeBelow 63 = .ok (.aload_n 0, 1) := by decide +kernel
theorem dX5_comeBelow_64 : decode cX5_comeBelow 64 = .ok (.getfield 21, 3) := by decide +kernel
theorem dX5_comeBelow_67 : decode cX5_comeBelow 67 = .ok (.iload_n 1, 1) := by decide +kernel
theorem dX5_comeBelow_68 : decode cX5_comeBelow 68 = .ok (.iload 7, 2) := by decide +kernel
theorem dX5_comeBelow_70 : decode cX5_comeBelow 70 = .ok (.iload 4, 2) := by decide +kernel
theorem dX5_comeBelow_72 : decode cX5_comeBelow 72 = .ok (.invokevirtual 99, 3) := by decide +kernel
theorem dX5_comeBelow_75 : decode cX5_comeBelow 75 = .ok (.istore 8, 2) := by decide +kernel
theorem dX5_comeBelow_77 : decode cX5_comeBelow 77 = .ok (.aload_n 0, 1) := by decide +kernel
theorem dX5_comeBelow_78 : decode cX5_comeBelow 78 = .ok (.getfield 21, 3) := by decide +kernel
theorem dX5_comeBelow_81 : decode cX5_comeBelow 81 = .ok (.iload_n 1, 1) := by decide +kernel
theorem dX5_comeBelow_82 : decode cX5_comeBelow 82 = .ok (.iload 7, 2) := by decide +kernel
theorem dX5_comeBelow_84 : decode cX5_comeBelow 84 = .ok (.iconst 1, 1) := by decide +kernel
theorem dX5_comeBelow_85 : decode cX5_comeBelow 85 = .ok (.isub, 1) := by decide +kernel
theorem dX5_comeBelow_86 : decode cX5_comeBelow 86 = .ok (.iload 4, 2) := by decide +kernel
theorem dX5_comeBelow_88 : decode cX5_comeBelow 88 = .ok (.invokevirtual 103, 3) := by decide +kernel
theorem dX5_comeBelow_91 : decode cX5_comeBelow 91 = .ok (.iconst (-1), 1) := by decide +kernel
theorem dX5_comeBelow_92 : decode cX5_comeBelow 92 = .ok (.if_icmp .ne 7, 3) := by decide +kernel
theorem dX5_comeBelow_95 : decode cX5_comeBelow 95 = .ok (.iconst 1, 1) := by decide +kernel
theorem dX5_comeBelow_96 : decode cX5_comeBelow 96 = .ok (.goto 4, 3) := by decide +kernel
theorem dX5_comeBelow_99 : decode cX5_comeBelow 99 = .ok (.iconst 0, 1) := by decide +kernel
theorem dX5_comeBelow_100 : decode cX5_comeBelow 100 = .ok (.istore 9, 2) := by decide +kernel
theorem dX5_comeBelow_102 : decode cX5_comeBelow 102 = .ok (.iload 8, 2) := by decide +kernel
theorem dX5_comeBelow_104 : decode cX5_comeBelow 104 = .ok (.iconst (-1), 1) := by decide +kernel
theorem dX5_comeBelow_105 : decode cX5_comeBelow 105 = .ok (.if_icmp .eq 19, 3) := by decide +kernel
theorem dX5_comeBelow_108 : decode cX5_comeBelow 108 = .ok (.iload_n 2, 1) := by decide +kernel
theorem dX5_comeBelow_109 : decode cX5_comeBelow 109 = .ok (.aload_n 0, 1) := by decide +kernel
theorem dX5_comeBelow_110 : decode cX5_comeBelow 110 = .ok (.getfield 21, 3) := by decide +kernel
theorem dX5_comeBelow_113 : decode cX5_comeBelow 113 = .ok (.getfield 96, 3) := by decide +kernel
theorem dX5_comeBelow_116 : decode cX5_comeBelow 116 = .ok (.iload 8, 2) := by decide +kernel
theorem dX5_comeBelow_118 : decode cX5_comeBelow 118 = .ok (.invokevirtual 42, 3) := by decide +kernel
theorem dX5_comeBelow_121 : decode cX5_comeBelow 121 = .ok (.if_icmp .ge 7, 3) := by decide +kernel
theorem dX5_comeBelow_124 : decode cX5_comeBelow 124 = .ok (.iconst 1, 1) := by decide +kernel
theorem dX5_comeBelow_125 : decode cX5_comeBelow 125 = .ok (.goto 4, 3) := by decide +kernel
theorem dX5_comeBelow_128 : decode cX5_comeBelow 128 = .ok (.iconst 0, 1) := by decide +kernel
theorem dX5_comeBelow_129 : decode cX5_comeBelow 129 = .ok (.istore 10, 2) := by decide +kernel
theorem dX5_comeBelow_131 : decode cX5_comeBelow 131 = .ok (.iload 10, 2) := by decide +kernel
theorem dX5_comeBelow_133 : decode cX5_comeBelow 133 = .ok (.ifCond .eq 33, 3) := by decide +kernel
theorem dX5_comeBelow_136 : decode cX5_comeBelow 136 = .ok (.iload 9, 2) := by decide +kernel
theorem dX5_comeBelow_138 : decode cX5_comeBelow 138 = .ok (.ifCond .ne 9, 3) := by decide +kernel
theorem dX5_comeBelow_141 : decode cX5_comeBelow 141 = .ok (.iload 7, 2) := by decide +kernel
theorem dX5_comeBelow_143 : decode cX5_comeBelow 143 = .ok (.iload_n 3, 1) := by decide +kernel
theorem dX5_comeBelow_144 : decode cX5_comeBelow 144 = .ok (.if_icmp .gt 22, 3) := by decide +kernel
theorem dX5_comeBelow_147 : decode cX5_comeBelow 147 = .ok (.aload_n 0, 1) := by decide +kernel
theorem dX5_comeBelow_148 : decode cX5_comeBelow 148 = .ok (.getfield 31, 3) := by decide +kernel
theorem dX5_comeBelow_151 : decode cX5_comeBelow 151 = .ok (.aload_n 0, 1) := by decide +kernel
theorem dX5_comeBelow_152 : decode cX5_comeBelow 152 = .ok (.getfield 21, 3) := by decide +kernel
theorem dX5_comeBelow_155 : decode cX5_comeBelow 155 = .ok (.getfield 106, 3) := by decide +kernel
theorem dX5_comeBelow_158 : decode cX5_comeBelow 158 = .ok (.iload 6, 2) := by decide +kernel
theorem dX5_comeBelow_160 : decode cX5_comeBelow 160 = .ok (.invokevirtual 42, 3) := by decide +kernel
theorem dX5_comeBelow_163 : decode cX5_comeBelow 163 = .ok (.invokevirtual 75, 3) := by decide +kernel
theorem dX5_comeBelow_166 : decode cX5_comeBelow 166 = .ok (.iinc 6 1, 3) := by decide +kernel
theorem dX5_comeBelow_169 : decode cX5_comeBelow 169 = .ok (.goto (-149), 3) := by decide +kernel
theorem dX5_comeBelow_172 : decode cX5_comeBelow 172 = .ok (.return_, 1) := by decide +kernel
theorem dX7_init_0 : decode cX7_init 0 = .ok (.aload_n 0, 1) := by decide +kernel
theorem dX7_init_1 : decode cX7_init 1 = .ok (.invokespecial 3, 3) := by decide +kernel
theorem dX7_init_4 : decode cX7_init 4 = .ok (.aload_n 0, 1) := by decide +kernel
theorem dX7_init_5 : decode cX7_init 5 = .ok (.aload_n 1, 1) := by decide +kernel
theorem dX7_init_6 : decode cX7_init 6 = .ok (.putfield 9, 3) := by decide +kernel
theorem dX7_init_9 : decode cX7_init 9 = .ok (.aload_n 0, 1) := by decide +kernel
theorem dX7_init_10 : decode cX7_init 10 = .ok (.new 15, 3) := by decide +kernel
theorem dX7_init_13 : decode cX7_init 13 = .ok (.dup, 1) := by decide +kernel
theorem dX7_init_14 : decode cX7_init 14 = .ok (.iconst 3, 1) := by decide +kernel
theorem dX7_init_15 : decode cX7_init 15 = .ok (.invokespecial 17, 3) := by decide +kernel
theorem dX7_init_18 : decode cX7_init 18 = .ok (.putfield 20, 3) := by decide +kernel
theorem dX7_init_21 : decode cX7_init 21 = .ok (.aload_n 0, 1) := by decide +kernel
theorem dX7_init_22 : decode cX7_init 22 = .ok (.new 15, 3) := by decide +kernel
theorem dX7_init_25 : decode cX7_init 25 = .ok (.dup, 1) := by decide +kernel
theorem dX7_init_26 : decode cX7_init 26 = .ok (.bipush 64, 2) := by decide +kernel
theorem dX7_init_28 : decode cX7_init 28 = .ok (.invokespecial 17, 3) := by decide +kernel
theorem dX7_init_31 : decode cX7_init 31 = .ok (.putfield 24, 3) := by decide +kernel
theorem dX7_init_34 : decode cX7_init 34 = .ok (.aload_n 0, 1) := by decide +kernel
theorem dX7_init_35 : decode cX7_init 35 = .ok (.new 15, 3) := by decide +kernel
theorem dX7_init_38 : decode cX7_init 38 = .ok (.dup, 1) := by decide +kernel
theorem dX7_init_39 : decode cX7_init 39 = .ok (.bipush 64, 2) := by decide +kernel
theorem dX7_init_41 : decode cX7_init 41 = .ok (.invokespecial 17, 3) := by decide +kernel
theorem dX7_init_44 : decode cX7_init 44 = .ok (.putfield 27, 3) := by decide +kernel
theorem dX7_init_47 : decode cX7_init 47 = .ok (.return_, 1) := by decide +kernel
theorem dX7_parseAll_0 : decode cX7_parseAll 0 = .ok (.aload_n 0, 1) := by decide +kernel
theorem dX7_parseAll_1 : decode cX7_parseAll 1 = .ok (.iconst 0, 1) := by decide +kernel
theorem dX7_parseAll_2 : decode cX7_parseAll 2 = .ok (.putfield 30, 3) := by decide +kernel
theorem dX7_parseAll_5 : decode cX7_parseAll 5 = .ok (.aload_n 0, 1) := by decide +kernel
theorem dX7_parseAll_6 : decode cX7_parseAll 6 = .ok (.iconst 0, 1) := by decide +kernel
theorem dX7_parseAll_7 : decode cX7_parseAll 7 = .ok (.putfield 34, 3) := by decide +kernel
theorem dX7_parseAll_10 : decode cX7_parseAll 10 = .ok (.aload_n 0, 1) := by decide +kernel
theorem dX7_parseAll_11 : decode cX7_parseAll 11 = .ok (.iconst (-1), 1) := by decide +kernel
theorem dX7_parseAll_12 : decode cX7_parseAll 12 = .ok (.putfield 37, 3) := by decide +kernel
theorem dX7_parseAll_15 : decode cX7_parseAll 15 = .ok (.aload_n 0, 1) := by decide +kernel
theorem dX7_parseAll_16 : decode cX7_parseAll 16 = .ok (.iconst (-1), 1) := by decide +kernel
theorem dX7_parseAll_17 : decode cX7_parseAll 17 = .ok (.putfield 40, 3) := by decide +kernel
theorem dX7_parseAll_20 : decode cX7_parseAll 20 = .ok (.aload_n 0, 1) := by decide +kernel
theorem dX7_parseAll_21 : decode cX7_parseAll 21 = .ok (.bipush 8, 2) := by decide +kernel
theorem dX7_parseAll_23 : decode cX7_parseAll 23 = .ok (.putfield 43, 3) := by decide +kernel
theorem dX7_parseAll_26 : decode cX7_parseAll 26 = .ok (.aload_n 0, 1) := by decide +kernel
theorem dX7_parseAll_27 : decode cX7_parseAll 27 = .ok (.getfield 20, 3) := by decide +kernel
theorem dX7_parseAll_30 : decode cX7_parseAll 30 = .ok (.iconst 0, 1) := by decide +kernel
theorem dX7_parseAll_31 : decode cX7_parseAll 31 = .ok (.invokevirtual 46, 3) := by decide +kernel
theorem dX7_parseAll_34 : decode cX7_parseAll 34 = .ok (.aload_n 0, 1) := by decide +kernel
theorem dX7_parseAll_35 : decode cX7_parseAll 35 = .ok (.getfield 24, 3) := by decide +kernel
theorem dX7_parseAll_38 : decode cX7_parseAll 38 = .ok (.aload_n 0, 1) := by decide +kernel
theorem dX7_parseAll_39 : decode cX7_parseAll 39 = .ok (.getfield 9, 3) := by decide +kernel
theorem dX7_parseAll_42 : decode cX7_parseAll 42 = .ok (.getfield 49, 3) := by decide +kernel
theorem dX7_parseAll_45 : decode cX7_parseAll 45 = .ok (.getfield 54, 3) := by decide +kernel
theorem dX7_parseAll_48 : decode cX7_parseAll 48 = .ok (.iconst (-1), 1) := by decide +kernel
theorem dX7_parseAll_49 : decode cX7_parseAll 49 = .ok (.invokevirtual 57, 3) := by decide +kernel
theorem dX7_parseAll_52 : decode cX7_parseAll 52 = .ok (.aload_n 0, 1) := by decide +kernel
theorem dX7_parseAll_53 : decode cX7_parseAll 53 = .ok (.getfield 27, 3) := by decide +kernel
theorem dX7_parseAll_56 : decode cX7_parseAll 56 = .ok (.aload_n 0, 1) := by decide +kernel
theorem dX7_parseAll_57 : decode cX7_parseAll 57 = .ok (.getfield 9, 3) := by decide +kernel
theorem dX7_parseAll_60 : decode cX7_parseAll 60 = .ok (.getfield 49, 3) := by decide +kernel
theorem dX7_parseAll_63 : decode cX7_parseAll 63 = .ok (.getfield 54, 3) := by decide +kernel
theorem dX7_parseAll_66 : decode cX7_parseAll 66 = .ok (.iconst 0, 1) := by decide +kernel
theorem dX7_parseAll_67 : decode cX7_parseAll 67 = .ok (.invokevirtual 57, 3) := by decide +kernel
theorem dX7_parseAll_70 : decode cX7_parseAll 70 = .ok (.aload_n 0, 1) := by decide +kernel
theorem dX7_parseAll_71 : decode cX7_parseAll 71 = .ok (.invokevirtual 61, 3) := by decide +kernel
theorem dX7_parseAll_74 : decode cX7_parseAll 74 = .ok (.iconst 0, 1) := by decide +kernel
theorem dX7_parseAll_75 : decode cX7_parseAll 75 = .ok (.istore_n 1, 1) := by decide +kernel
theorem dX7_parseAll_76 : decode cX7_parseAll 76 = .ok (.iload_n 1, 1) := by decide +kernel
theorem dX7_parseAll_77 : decode cX7_parseAll 77 = .ok (.sipush 400, 3) := by decide +kernel
theorem dX7_parseAll_80 : decode cX7_parseAll 80 = .ok (.if_icmp .gt 27, 3) := by decide +kernel
theorem dX7_parseAll_83 : decode cX7_parseAll 83 = .ok (.aload_n 0, 1) := by decide +kernel
theorem dX7_parseAll_84 : decode cX7_parseAll 84 = .ok (.getfield 34, 3) := by decide +kernel
theorem dX7_parseAll_87 : decode cX7_parseAll 87 = .ok (.ifCond .ne 20, 3) := by decide +kernel
theorem dX7_parseAll_90 : decode cX7_parseAll 90 = .ok (.aload_n 0, 1) := by decide +kernel
theorem dX7_parseAll_91 : decode cX7_parseAll 91 = .ok (.invokevirtual 64, 3) := by decide +kernel
theorem dX7_parseAll_94 : decode cX7_parseAll 94 = .ok (.ifCond .ne 13, 3) := by decide +kernel
theorem dX7_parseAll_97 : decode cX7_parseAll 97 = .ok (.aload_n 0, 1) := by decide +kernel
theorem dX7_parseAll_98 : decode cX7_parseAll 98 = .ok (.invokevirtual 68, 3) := by decide +kernel
theorem dX7_parseAll_101 : decode cX7_parseAll 101 = .ok (.iinc 1 1, 3) := by decide +kernel
theorem dX7_parseAll_104 : decode cX7_parseAll 104 = .ok (.goto (-28), 3) := by decide +kernel
theorem dX7_parseAll_107 : decode cX7_parseAll 107 = .ok (.aload_n 0, 1) := by decide +kernel
theorem dX7_parseAll_108 : decode cX7_parseAll 108 = .ok (.getfield 34, 3) := by decide +kernel
theorem dX7_parseAll_111 : decode cX7_parseAll 111 = .ok (.ifCond .eq 24, 3) := by decide +kernel
theorem dX7_parseAll_114 : decode cX7_parseAll 114 = .ok (.aload_n 0, 1) := by decide +kernel
theorem dX7_parseAll_115 : decode cX7_parseAll 115 = .ok (.aload_n 0, 1) := by decide +kernel
theorem dX7_parseAll_116 : decode cX7_parseAll 116 = .ok (.getfield 9, 3) := by decide +kernel
theorem dX7_parseAll_119 : decode cX7_parseAll 119 = .ok (.getfield 71, 3) := by decide +kernel
theorem dX7_parseAll_122 : decode cX7_parseAll 122 = .ok (.aload_n 0, 1) := by decide +kernel
theorem dX7_parseAll_123 : decode cX7_parseAll 123 = .ok (.getfield 30, 3) := by decide +kernel
theorem dX7_parseAll_126 : decode cX7_parseAll 126 = .ok (.invokevirtual 74, 3) := by decide +kernel
theorem dX7_parseAll_129 : decode cX7_parseAll 129 = .ok (.putfield 37, 3) := by decide +kernel
theorem dX7_parseAll_132 : decode cX7_parseAll 132 = .ok (.goto 24, 3) := by decide +kernel
theorem dX7_parseAll_135 : decode cX7_parseAll 135 = .ok (.aload_n 0, 1) := by decide +kernel
theorem dX7_parseAll_136 : decode cX7_parseAll 136 = .ok (.getfield 40, 3) := by decide +kernel
theorem dX7_parseAll_139 : decode cX7_parseAll 139 = .ok (.iconst (-1), 1) := by decide +kernel
theorem dX7_parseAll_140 : decode cX7_parseAll 140 = .ok (.if_icmp .eq 16, 3) := by decide +kernel
theorem dX7_parseAll_143 : decode cX7_parseAll 143 = .ok (.aload_n 0, 1) := by decide +kernel
theorem dX7_parseAll_144 : decode cX7_parseAll 144 = .ok (.iconst 5, 1) := by decide +kernel
theorem dX7_parseAll_145 : decode cX7_parseAll 145 = .ok (.putfield 34, 3) := by decide +kernel
theorem dX7_parseAll_148 : decode cX7_parseAll 148 = .ok (.aload_n 0, 1) := by decide +kernel
theorem dX7_parseAll_149 : decode cX7_parseAll 149 = .ok (.aload_n 0, 1) := by decide +kernel
theorem dX7_parseAll_150 : decode cX7_parseAll 150 = .ok (.getfield 40, 3) := by decide +kernel
theorem dX7_parseAll_153 : decode cX7_parseAll 153 = .ok (.putfield 37, 3) := by decide +kernel
theorem dX7_parseAll_156 : decode cX7_parseAll 156 = .ok (.return_, 1) := by decide +kernel
theorem dX7_atEnd_0 : decode cX7_atEnd 0 = .ok (.aload_n 0, 1) := by decide +kernel
theorem dX7_atEnd_1 : decode cX7_atEnd 1 = .ok (.invokevirtual 77, 3) := by decide +kernel
theorem dX7_atEnd_4 : decode cX7_atEnd 4 = .ok (.ifCond .ne 17, 3) := by decide +kernel
theorem dX7_atEnd_7 : decode cX7_atEnd 7 = .ok (.aload_n 0, 1) := by decide +kernel
theorem dX7_atEnd_8 : decode cX7_atEnd 8 = .ok (.getfield 20, 3) := by decide +kernel
theorem dX7_atEnd_11 : decode cX7_atEnd 11 = .ok (.getfield 54, 3) := by decide +kernel
theorem dX7_atEnd_14 : decode cX7_atEnd 14 = .ok (.ifCond .ne 7, 3) := by decide +kernel
theorem dX7_atEnd_17 : decode cX7_atEnd 17 = .ok (.iconst 1, 1) := by decide +kernel
theorem dX7_atEnd_18 : decode cX7_atEnd 18 = .ok (.goto 4, 3) := by decide +kernel
theorem dX7_atEnd_21 : decode cX7_atEnd 21 = .ok (.iconst 0, 1) := by decide +kernel
theorem dX7_atEnd_22 : decode cX7_atEnd 22 = .ok (.ireturn, 1) := by decide +kernel
theorem dX7_ahead_0 : decode cX7_ahead 0 = .ok (.aload_n 0, 1) := by decide +kernel
theorem dX7_ahead_1 : decode cX7_ahead 1 = .ok (.getfield 9, 3) := by decide +kernel
theorem dX7_ahead_4 : decode cX7_ahead 4 = .ok (.getfield 49, 3) := by decide +kernel
theorem dX7_ahead_7 : decode cX7_ahead 7 = .ok (.aload_n 0, 1) := by decide +kernel
theorem dX7_ahead_8 : decode cX7_ahead 8 = .ok (.getfield 30, 3) := by decide +kernel
theorem dX7_ahead_11 : decode cX7_ahead 11 = .ok (.invokevirtual 74, 3) := by decide +kernel
theorem dX7_ahead_14 : decode cX7_ahead 14 = .ok (.ireturn, 1) := by decide +kernel
theorem dX7_parsePage_0 : decode cX7_parsePage 0 = .ok (.aload_n 0, 1) := by decide +kernel
theorem dX7_parsePage_1 : decode cX7_parsePage 1 = .ok (.invokevirtual 77, 3) := by decide +kernel
theorem dX7_parsePage_4 : decode cX7_parsePage 4 = .ok (.iconst 3, 1) := by decide +kernel
theorem dX7_parsePage_5 : decode cX7_parsePage 5 = .ok (.if_icmp .ne 25, 3) := by decide +kernel
theorem dX7_parsePage_8 : decode cX7_parsePage 8 = .ok (.aload_n 0, 1) := by decide +kernel
theorem dX7_parsePage_9 : decode cX7_parsePage 9 = .ok (.invokevirtual 81, 3) := by decide +kernel
theorem dX7_parsePage_12 : decode cX7_parsePage 12 = .ok (.aload_n 0, 1) := by decide +kernel
theorem dX7_parsePage_13 : decode cX7_parsePage 13 = .ok (.aload_n 0, 1) := by decide +kernel
theorem dX7_parsePage_14 : decode cX7_parsePage 14 = .ok (.bipush 6, 2) := by decide +kernel
theorem dX7_parsePage_16 : decode cX7_parsePage 16 = .ok (.bipush 12, 2) := by decide +kernel
theorem dX7_parsePage_18 : decode cX7_parsePage 18 = .ok (.invokevirtual 84, 3) := by decide +kernel
theorem dX7_parsePage_21 : decode cX7_parsePage 21 = .ok (.putfield 43, 3) := by decide +kernel
theorem dX7_parsePage_24 : decode cX7_parsePage 24 = .ok (.aload_n 0, 1) := by decide +kernel
theorem dX7_parsePage_25 : decode cX7_parsePage 25 = .ok (.bipush 59, 2) := by decide +kernel
theorem dX7_parsePage_27 : decode cX7_parsePage 27 = .ok (.invokevirtual 88, 3) := by decide +kernel
theorem dX7_parsePage_30 : decode cX7_parsePage 30 = .ok (.return_, 1) := by decide +kernel
theorem dX7_parseTell_0 : decode cX7_parseTell 0 = .ok (.aload_n 0, 1) := by decide +kernel
theorem dX7_parseTell_1 : decode cX7_parseTell 1 = .ok (.invokevirtual 77, 3) := by decide +kernel
theorem dX7_parseTell_4 : decode cX7_parseTell 4 = .ok (.tableswitch 92 4 7 #[32, 57, 78, 85], 32) := by decide +kernel
theorem dX7_parseTell_36 : decode cX7_parseTell 36 = .ok (.aload_n 0, 1) := by decide +kernel
theorem dX7_parseTell_37 : decode cX7_parseTell 37 = .ok (.invokevirtual 91, 3) := by decide +kernel
theorem dX7_parseTell_40 : decode cX7_parseTell 40 = .ok (.aload_n 0, 1) := by decide +kernel
theorem dX7_parseTell_41 : decode cX7_parseTell 41 = .ok (.invokevirtual 81, 3) := by decide +kernel
theorem dX7_parseTell_44 : decode cX7_parseTell 44 = .ok (.aload_n 0, 1) := by decide +kernel
theorem dX7_parseTell_45 : decode cX7_parseTell 45 = .ok (.invokevirtual 94, 3) := by decide +kernel
theorem dX7_parseTell_48 : decode cX7_parseTell 48 = .ok (.aload_n 0, 1) := by decide +kernel
theorem dX7_parseTell_49 : decode cX7_parseTell 49 = .ok (.invokevirtual 94, 3) := by decide +kernel
theorem dX7_parseTell_52 : decode cX7_parseTell 52 = .ok (.aload_n 0, 1) := by decide +kernel
theorem dX7_parseTell_53 : decode cX7_parseTell 53 = .ok (.bipush 59, 2) := by decide +kernel
theorem dX7_parseTell_55 : decode cX7_parseTell 55 = .ok (.invokevirtual 88, 3) := by decide +kernel
theorem dX7_parseTell_58 : decode cX7_parseTell 58 = .ok (.goto 43, 3) := by decide +kernel
theorem dX7_parseTell_61 : decode cX7_parseTell 61 = .ok (.aload_n 0, 1) := by decide +kernel
theorem dX7_parseTell_62 : decode cX7_parseTell 62 = .ok (.invokevirtual 91, 3) := by decide +kernel
theorem dX7_parseTell_65 : decode cX7_parseTell 65 = .ok (.aload_n 0, 1) := by decide +kernel
theorem dX7_parseTell_66 : decode cX7_parseTell 66 = .ok (.invokevirtual 81, 3) := by decide +kernel
theorem dX7_parseTell_69 : decode cX7_parseTell 69 = .ok (.aload_n 0, 1) := by decide +kernel
theorem dX7_parseTell_70 : decode cX7_parseTell 70 = .ok (.invokevirtual 94, 3) := by decide +kernel
theorem dX7_parseTell_73 : decode cX7_parseTell 73 = .ok (.aload_n 0, 1) := by decide +kernel
theorem dX7_parseTell_74 : decode cX7_parseTell 74 = .ok (.bipush 59, 2) := by decide +kernel
theorem dX7_parseTell_76 : decode cX7_parseTell 76 = .ok (.invokevirtual 88, 3) := by decide +kernel
theorem dX7_parseTell_79 : decode cX7_parseTell 79 = .ok (.goto 22, 3) := by decide +kernel
theorem dX7_parseTell_82 : decode cX7_parseTell 82 = .ok (.aload_n 0, 1) := by decide +kernel
theorem dX7_parseTell_83 : decode cX7_parseTell 83 = .ok (.invokevirtual 97, 3) := by decide +kernel
theorem dX7_parseTell_86 : decode cX7_parseTell 86 = .ok (.goto 15, 3) := by decide +kernel
theorem dX7_parseTell_89 : decode cX7_parseTell 89 = .ok (.aload_n 0, 1) := by decide +kernel
theorem dX7_parseTell_90 : decode cX7_parseTell 90 = .ok (.invokevirtual 100, 3) := by decide +kernel
theorem dX7_parseTell_93 : decode cX7_parseTell 93 = .ok (.goto 8, 3) := by decide +kernel
theorem dX7_parseTell_96 : decode cX7_parseTell 96 = .ok (.aload_n 0, 1) := by decide +kernel
theorem dX7_parseTell_97 : decode cX7_parseTell 97 = .ok (.iconst 1, 1) := by decide +kernel
theorem dX7_parseTell_98 : decode cX7_parseTell 98 = .ok (.invokevirtual 103, 3) := by decide +kernel
theorem dX7_parseTell_101 : decode cX7_parseTell 101 = .ok (.return_, 1) := by decide +kernel
theorem dX7_parseDo_0 : decode cX7_parseDo 0 = .ok (.aload_n 0, 1) := by decide +kernel
theorem dX7_parseDo_1 : decode cX7_parseDo 1 = .ok (.getfield 20, 3) := by decide +kernel
theorem dX7_parseDo_4 : decode cX7_parseDo 4 = .ok (.getfield 54, 3) := by decide +kernel
theorem dX7_parseDo_7 : decode cX7_parseDo 7 = .ok (.iconst 3, 1) := by decide +kernel
theorem dX7_parseDo_8 : decode cX7_parseDo 8 = .ok (.if_icmp .lt 9, 3) := by decide +kernel
theorem dX7_parseDo_11 : decode cX7_parseDo 11 = .ok (.aload_n 0, 1) := by decide +kernel
theorem dX7_parseDo_12 : decode cX7_parseDo 12 = .ok (.iconst 2, 1) := by decide +kernel
theorem dX7_parseDo_13 : decode cX7_parseDo 13 = .ok (.invokevirtual 103, 3) := by decide +kernel
theorem dX7_parseDo_16 : decode cX7_parseDo 16 = .ok (.return_, 1) := by decide +kernel
theorem dX7_parseDo_17 : decode cX7_parseDo 17 = .ok (.aload_n 0, 1) := by decide +kernel
theorem dX7_parseDo_18 : decode cX7_parseDo 18 = .ok (.getfield 20, 3) := by decide +kernel
theorem dX7_parseDo_21 : decode cX7_parseDo 21 = .ok (.aload_n 0, 1) := by decide +kernel
theorem dX7_parseDo_22 : decode cX7_parseDo 22 = .ok (.getfield 30, 3) := by decide +kernel
theorem dX7_parseDo_25 : decode cX7_parseDo 25 = .ok (.invokevirtual 106, 3) := by decide +kernel
theorem dX7_parseDo_28 : decode cX7_parseDo 28 = .ok (.aload_n 0, 1) := by decide +kernel
theorem dX7_parseDo_29 : decode cX7_parseDo 29 = .ok (.invokevirtual 81, 3) := by decide +kernel
theorem dX7_parseDo_32 : decode cX7_parseDo 32 = .ok (.aload_n 0, 1) := by decide +kernel
theorem dX7_parseDo_33 : decode cX7_parseDo 33 = .ok (.iconst 0, 1) := by decide +kernel
theorem dX7_parseDo_34 : decode cX7_parseDo 34 = .ok (.bipush 99, 2) := by decide +kernel
theorem dX7_parseDo_36 : decode cX7_parseDo 36 = .ok (.invokevirtual 84, 3) := by decide +kernel
theorem dX7_parseDo_39 : decode cX7_parseDo 39 = .ok (.pop, 1) := by decide +kernel
theorem dX7_parseDo_40 : decode cX7_parseDo 40 = .ok (.aload_n 0, 1) := by decide +kernel
theorem dX7_parseDo_41 : decode cX7_parseDo 41 = .ok (.bipush 59, 2) := by decide +kernel
theorem dX7_parseDo_43 : decode cX7_parseDo 43 = .ok (.invokevirtual 88, 3) := by decide +kernel
theorem dX7_parseDo_46 : decode cX7_parseDo 46 = .ok (.return_, 1) := by decide +kernel
theorem dX7_parseEnd_0 : decode cX7_parseEnd 0 = .ok (.aload_n 0, 1) := by decide +kernel
theorem dX7_parseEnd_1 : decode cX7_parseEnd 1 = .ok (.getfield 20, 3) := by decide +kernel
theorem dX7_parseEnd_4 : decode cX7_parseEnd 4 = .ok (.getfield 54, 3) := by decide +kernel
theorem dX7_parseEnd_7 : decode cX7_parseEnd 7 = .ok (.ifCond .ne 9, 3) := by decide +kernel
theorem dX7_parseEnd_10 : decode cX7_parseEnd 10 = .ok (.aload_n 0, 1) := by decide +kernel
theorem dX7_parseEnd_11 : decode cX7_parseEnd 11 = .ok (.iconst 1, 1) := by decide +kernel
theorem dX7_parseEnd_12 : decode cX7_parseEnd 12 = .ok (.invokevirtual 103, 3) := by decide +kernel
theorem dX7_parseEnd_15 : decode cX7_parseEnd 15 = .ok (.return_, 1) := by decide +kernel
theorem dX7_parseEnd_16 : decode cX7_parseEnd 16 = .ok (.aload_n 0, 1) := by decide +kernel
theorem dX7_parseEnd_17 : decode cX7_parseEnd 17 = .ok (.getfield 20, 3) := by decide +kernel
theorem dX7_parseEnd_20 : decode cX7_parseEnd 20 = .ok (.aload_n 0, 1) := by decide +kernel
theorem dX7_parseEnd_21 : decode cX7_parseEnd 21 = .ok (.getfield 20, 3) := by decide +kernel
theorem dX7_parseEnd_24 : decode cX7_parseEnd 24 = .ok (.getfield 54, 3) := by decide +kernel
theorem dX7_parseEnd_27 : decode cX7_parseEnd 27 = .ok (.iconst 1, 1) := by decide +kernel
theorem dX7_parseEnd_28 : decode cX7_parseEnd 28 = .ok (.isub, 1) := by decide +kernel
theorem dX7_parseEnd_29 : decode cX7_parseEnd 29 = .ok (.invokevirtual 74, 3) := by decide +kernel
theorem dX7_parseEnd_32 : decode cX7_parseEnd 32 = .ok (.istore_n 1, 1) := by decide +kernel
theorem dX7_parseEnd_33 : decode cX7_parseEnd 33 = .ok (.aload_n 0, 1) := by decide +kernel
theorem dX7_parseEnd_34 : decode cX7_parseEnd 34 = .ok (.getfield 20, 3) := by decide +kernel
theorem dX7_parseEnd_37 : decode cX7_parseEnd 37 = .ok (.aload_n 0, 1) := by decide +kernel
theorem dX7_parseEnd_38 : decode cX7_parseEnd 38 = .ok (.getfield 20, 3) := by decide +kernel
theorem dX7_parseEnd_41 : decode cX7_parseEnd 41 = .ok (.getfield 54, 3) := by decide +kernel
theorem dX7_parseEnd_44 : decode cX7_parseEnd 44 = .ok (.iconst 1, 1) := by decide +kernel
theorem dX7_parseEnd_45 : decode cX7_parseEnd 45 = .ok (.isub, 1) := by decide +kernel
theorem dX7_parseEnd_46 : decode cX7_parseEnd 46 = .ok (.invokevirtual 46, 3) := by decide +kernel
theorem dX7_parseEnd_49 : decode cX7_parseEnd 49 = .ok (.aload_n 0, 1) := by decide +kernel
theorem dX7_parseEnd_50 : decode cX7_parseEnd 50 = .ok (.getfield 24, 3) := by decide +kernel
theorem dX7_parseEnd_53 : decode cX7_parseEnd 53 = .ok (.iload_n 1, 1) := by decide +kernel
theorem dX7_parseEnd_54 : decode cX7_parseEnd 54 = .ok (.aload_n 0, 1) := by decide +kernel
theorem dX7_parseEnd_55 : decode cX7_parseEnd 55 = .ok (.getfield 30, 3) := by decide +kernel
theorem dX7_parseEnd_58 : decode cX7_parseEnd 58 = .ok (.invokevirtual 109, 3) := by decide +kernel
theorem dX7_parseEnd_61 : decode cX7_parseEnd 61 = .ok (.aload_n 0, 1) := by decide +kernel
theorem dX7_parseEnd_62 : decode cX7_parseEnd 62 = .ok (.getfield 24, 3) := by decide +kernel
theorem dX7_parseEnd_65 : decode cX7_parseEnd 65 = .ok (.aload_n 0, 1) := by decide +kernel
theorem dX7_parseEnd_66 : decode cX7_parseEnd 66 = .ok (.getfield 30, 3) := by decide +kernel
theorem dX7_parseEnd_69 : decode cX7_parseEnd 69 = .ok (.iload_n 1, 1) := by decide +kernel
theorem dX7_parseEnd_70 : decode cX7_parseEnd 70 = .ok (.invokevirtual 109, 3) := by decide +kernel
theorem dX7_parseEnd_73 : decode cX7_parseEnd 73 = .ok (.aload_n 0, 1) := by decide +kernel
theorem dX7_parseEnd_74 : decode cX7_parseEnd 74 = .ok (.getfield 9, 3) := by decide +kernel
theorem dX7_parseEnd_77 : decode cX7_parseEnd 77 = .ok (.getfield 112, 3) := by decide +kernel
theorem dX7_parseEnd_80 : decode cX7_parseEnd 80 = .ok (.iload_n 1, 1) := by decide +kernel
theorem dX7_parseEnd_81 : decode cX7_parseEnd 81 = .ok (.iconst 1, 1) := by decide +kernel
theorem dX7_parseEnd_82 : decode cX7_parseEnd 82 = .ok (.iadd, 1) := by decide +kernel
theorem dX7_parseEnd_83 : decode cX7_parseEnd 83 = .ok (.invokevirtual 74, 3) := by decide +kernel
theorem dX7_parseEnd_86 : decode cX7_parseEnd 86 = .ok (.ifCond .ne 15, 3) := by decide +kernel
theorem dX7_parseEnd_89 : decode cX7_parseEnd 89 = .ok (.aload_n 0, 1) := by decide +kernel
theorem dX7_parseEnd_90 : decode cX7_parseEnd 90 = .ok (.getfield 27, 3) := by decide +kernel
theorem dX7_parseEnd_93 : decode cX7_parseEnd 93 = .ok (.iload_n 1, 1) := by decide +kernel
theorem dX7_parseEnd_94 : decode cX7_parseEnd 94 = .ok (.iconst 0, 1) := by decide +kernel
theorem dX7_parseEnd_95 : decode cX7_parseEnd 95 = .ok (.invokevirtual 109, 3) := by decide +kernel
theorem dX7_parseEnd_98 : decode cX7_parseEnd 98 = .ok (.goto 19, 3) := by decide +kernel
theorem dX7_parseEnd_101 : decode cX7_parseEnd 101 = .ok (.aload_n 0, 1) := by decide +kernel
theorem dX7_parseEnd_102 : decode cX7_parseEnd 102 = .ok (.getfield 27, 3) := by decide +kernel
theorem dX7_parseEnd_105 : decode cX7_parseEnd 105 = .ok (.iload_n 1, 1) := by decide +kernel
theorem dX7_parseEnd_106 : decode cX7_parseEnd 106 = .ok (.invokevirtual 74, 3) := by decide +kernel
theorem dX7_parseEnd_109 : decode cX7_parseEnd 109 = .ok (.iconst 1, 1) := by decide +kernel
theorem dX7_parseEnd_110 : decode cX7_parseEnd 110 = .ok (.if_icmp .ne 7, 3) := by decide +kernel
theorem dX7_parseEnd_113 : decode cX7_parseEnd 113 = .ok (.aload_n 0, 1) := by decide +kernel
theorem dX7_parseEnd_114 : decode cX7_parseEnd 114 = .ok (.invokevirtual 91, 3) := by decide +kernel
theorem dX7_parseEnd_117 : decode cX7_parseEnd 117 = .ok (.aload_n 0, 1) := by decide +kernel
theorem dX7_parseEnd_118 : decode cX7_parseEnd 118 = .ok (.invokevirtual 81, 3) := by decide +kernel
theorem dX7_parseEnd_121 : decode cX7_parseEnd 121 = .ok (.aload_n 0, 1) := by decide +kernel
theorem dX7_parseEnd_122 : decode cX7_parseEnd 122 = .ok (.bipush 59, 2) := by decide +kernel
theorem dX7_parseEnd_124 : decode cX7_parseEnd 124 = .ok (.invokevirtual 88, 3) := by decide +kernel
theorem dX7_parseEnd_127 : decode cX7_parseEnd 127 = .ok (.return_, 1) := by decide +kernel
theorem dX7_markAct_0 : decode cX7_markAct 0 = .ok (.aload_n 0, 1) := by decide +kernel
theorem dX7_markAct_1 : decode cX7_markAct 1 = .ok (.getfield 20, 3) := by decide +kernel
theorem dX7_markAct_4 : decode cX7_markAct 4 = .ok (.getfield 54, 3) := by decide +kernel
theorem dX7_markAct_7 : decode cX7_markAct 7 = .ok (.ifCond .le 27, 3) := by decide +kernel
theorem dX7_markAct_10 : decode cX7_markAct 10 = .ok (.aload_n 0, 1) := by decide +kernel
theorem dX7_markAct_11 : decode cX7_markAct 11 = .ok (.getfield 27, 3) := by decide +kernel
theorem dX7_markAct_14 : decode cX7_markAct 14 = .ok (.aload_n 0, 1) := by decide +kernel
theorem dX7_markAct_15 : decode cX7_markAct 15 = .ok (.getfield 20, 3) := by decide +kernel
theorem dX7_markAct_18 : decode cX7_markAct 18 = .ok (.aload_n 0, 1) := by decide +kernel
theorem dX7_markAct_19 : decode cX7_markAct 19 = .ok (.getfield 20, 3) := by decide +kernel
theorem dX7_markAct_22 : decode cX7_markAct 22 = .ok (.getfield 54, 3) := by decide +kernel
theorem dX7_markAct_25 : decode cX7_markAct 25 = .ok (.iconst 1, 1) := by decide +kernel
theorem dX7_markAct_26 : decode cX7_markAct 26 = .ok (.isub, 1) := by decide +kernel
theorem dX7_markAct_27 : decode cX7_markAct 27 = .ok (.invokevirtual 74, 3) := by decide +kernel
theorem dX7_markAct_30 : decode cX7_markAct 30 = .ok (.iconst 1, 1) := by decide +kernel
theorem dX7_markAct_31 : decode cX7_markAct 31 = .ok (.invokevirtual 109, 3) := by decide +kernel
theorem dX7_markAct_34 : decode cX7_markAct 34 = .ok (.return_, 1) := by decide +kernel
theorem dX7_parseExpression_0 : decode cX7_parseExpression 0 = .ok (.iconst 0, 1) := by decide +kernel
theorem dX7_parseExpression_1 : decode cX7_parseExpression 1 = .ok (.istore_n 1, 1) := by decide +kernel
theorem dX7_parseExpression_2 : decode cX7_parseExpression 2 = .ok (.iconst 1, 1) := by decide +kernel
theorem dX7_parseExpression_3 : decode cX7_parseExpression 3 = .ok (.istore_n 2, 1) := by decide +kernel
theorem dX7_parseExpression_4 : decode cX7_parseExpression 4 = .ok (.iconst 0, 1) := by decide +kernel
theorem dX7_parseExpression_5 : decode cX7_parseExpression 5 = .ok (.istore_n 3, 1) := by decide +kernel
theorem dX7_parseExpression_6 : decode cX7_parseExpression 6 = .ok (.iload_n 3, 1) := by decide +kernel
theorem dX7_parseExpression_7 : decode cX7_parseExpression 7 = .ok (.sipush 400, 3) := by decide +kernel
theorem dX7_parseExpression_10 : decode cX7_parseExpression 10 = .ok (.if_icmp .gt 119, 3) := by decide +kernel
theorem dX7_parseExpression_13 : decode cX7_parseExpression 13 = .ok (.aload_n 0, 1) := by decide +kernel
theorem dX7_parseExpression_14 : decode cX7_parseExpression 14 = .ok (.getfield 34, 3) := by decide +kernel
theorem dX7_parseExpression_17 : decode cX7_parseExpression 17 = .ok (.ifCond .ne 112, 3) := by decide +kernel
theorem dX7_parseExpression_20 : decode cX7_parseExpression 20 = .ok (.aload_n 0, 1) := by decide +kernel
theorem dX7_parseExpression_21 : decode cX7_parseExpression 21 = .ok (.invokevirtual 77, 3) := by decide +kernel
theorem dX7_parseExpression_24 : decode cX7_parseExpression 24 = .ok (.istore 4, 2) := by decide +kernel
theorem dX7_parseExpression_26 : decode cX7_parseExpression 26 = .ok (.iload_n 2, 1) := by decide +kernel
theorem dX7_parseExpression_27 : decode cX7_parseExpression 27 = .ok (.ifCond .eq 27, 3) := by decide +kernel
theorem dX7_parseExpression_30 : decode cX7_parseExpression 30 = .ok (.iload 4, 2) := by decide +kernel
theorem dX7_parseExpression_32 : decode cX7_parseExpression 32 = .ok (.bipush 40, 2) := by decide +kernel
theorem dX7_parseExpression_34 : decode cX7_parseExpression 34 = .ok (.if_icmp .ne 20, 3) := by decide +kernel
theorem dX7_parseExpression_37 : decode cX7_parseExpression 37 = .ok (.iinc 1 1, 3) := by decide +kernel
theorem dX7_parseExpression_40 : decode cX7_parseExpression 40 = .ok (.iload_n 1, 1) := by decide +kernel
theorem dX7_parseExpression_41 : decode cX7_parseExpression 41 = .ok (.bipush 6, 2) := by decide +kernel
theorem dX7_parseExpression_43 : decode cX7_parseExpression 43 = .ok (.if_icmp .le 76, 3) := by decide +kernel
theorem dX7_parseExpression_46 : decode cX7_parseExpression 46 = .ok (.aload_n 0, 1) := by decide +kernel
theorem dX7_parseExpression_47 : decode cX7_parseExpression 47 = .ok (.iconst 2, 1) := by decide +kernel
theorem dX7_parseExpression_48 : decode cX7_parseExpression 48 = .ok (.invokevirtual 103, 3) := by decide +kernel
theorem dX7_parseExpression_51 : decode cX7_parseExpression 51 = .ok (.goto 68, 3) := by decide +kernel
theorem dX7_parseExpression_54 : decode cX7_parseExpression 54 = .ok (.iload_n 2, 1) := by decide +kernel
theorem dX7_parseExpression_55 : decode cX7_parseExpression 55 = .ok (.ifCond .eq 16, 3) := by decide +kernel
theorem dX7_parseExpression_58 : decode cX7_parseExpression 58 = .ok (.iload 4, 2) := by decide +kernel
theorem dX7_parseExpression_60 : decode cX7_parseExpression 60 = .ok (.invokestatic 115, 3) := by decide +kernel
theorem dX7_parseExpression_63 : decode cX7_parseExpression 63 = .ok (.ifCond .eq 8, 3) := by decide +kernel
theorem dX7_parseExpression_66 : decode cX7_parseExpression 66 = .ok (.iconst 0, 1) := by decide +kernel
theorem dX7_parseExpression_67 : decode cX7_parseExpression 67 = .ok (.istore_n 2, 1) := by decide +kernel
theorem dX7_parseExpression_68 : decode cX7_parseExpression 68 = .ok (.goto 51, 3) := by decide +kernel
theorem dX7_parseExpression_71 : decode cX7_parseExpression 71 = .ok (.iload_n 2, 1) := by decide +kernel
theorem dX7_parseExpression_72 : decode cX7_parseExpression 72 = .ok (.ifCond .eq 11, 3) := by decide +kernel
theorem dX7_parseExpression_75 : decode cX7_parseExpression 75 = .ok (.aload_n 0, 1) := by decide +kernel
theorem dX7_parseExpression_76 : decode cX7_parseExpression 76 = .ok (.iconst 1, 1) := by decide +kernel
theorem dX7_parseExpression_77 : decode cX7_parseExpression 77 = .ok (.invokevirtual 103, 3) := by decide +kernel
theorem dX7_parseExpression_80 : decode cX7_parseExpression 80 = .ok (.goto 39, 3) := by decide +kernel
theorem dX7_parseExpression_83 : decode cX7_parseExpression 83 = .ok (.iload 4, 2) := by decide +kernel
theorem dX7_parseExpression_85 : decode cX7_parseExpression 85 = .ok (.invokestatic 119, 3) := by decide +kernel
theorem dX7_parseExpression_88 : decode cX7_parseExpression 88 = .ok (.ifCond .eq 8, 3) := by decide +kernel
theorem dX7_parseExpression_91 : decode cX7_parseExpression 91 = .ok (.iconst 1, 1) := by decide +kernel
theorem dX7_parseExpression_92 : decode cX7_parseExpression 92 = .ok (.istore_n 2, 1) := by decide +kernel
theorem dX7_parseExpression_93 : decode cX7_parseExpression 93 = .ok (.goto 26, 3) := by decide +kernel
theorem dX7_parseExpression_96 : decode cX7_parseExpression 96 = .ok (.iload_n 1, 1) := by decide +kernel
theorem dX7_parseExpression_97 : decode cX7_parseExpression 97 = .ok (.ifCond .ne 4, 3) := by decide +kernel
theorem dX7_parseExpression_100 : decode cX7_parseExpression 100 = .ok (.return_, 1) := by decide +kernel
theorem dX7_parseExpression_101 : decode cX7_parseExpression 101 = .ok (.iload 4, 2) := by decide +kernel
theorem dX7_parseExpression_103 : decode cX7_parseExpression 103 = .ok (.bipush 41, 2) := by decide +kernel
theorem dX7_parseExpression_105 : decode cX7_parseExpression 105 = .ok (.if_icmp .ne 9, 3) := by decide +kernel
theorem dX7_parseExpression_108 : decode cX7_parseExpression 108 = .ok (.iinc 1 (-1), 3) := by decide +kernel
theorem dX7_parseExpression_111 : decode cX7_parseExpression 111 = .ok (.goto 8, 3) := by decide +kernel
theorem dX7_parseExpression_114 : decode cX7_parseExpression 114 = .ok (.aload_n 0, 1) := by decide +kernel
theorem dX7_parseExpression_115 : decode cX7_parseExpression 115 = .ok (.iconst 1, 1) := by decide +kernel
theorem dX7_parseExpression_116 : decode cX7_parseExpression 116 = .ok (.invokevirtual 103, 3) := by decide +kernel
theorem dX7_parseExpression_119 : decode cX7_parseExpression 119 = .ok (.aload_n 0, 1) := by decide +kernel
theorem dX7_parseExpression_120 : decode cX7_parseExpression 120 = .ok (.invokevirtual 81, 3) := by decide +kernel
theorem dX7_parseExpression_123 : decode cX7_parseExpression 123 = .ok (.iinc 3 1, 3) := by decide +kernel
theorem dX7_parseExpression_126 : decode cX7_parseExpression 126 = .ok (.goto (-120), 3) := by decide +kernel
theorem dX7_parseExpression_129 : decode cX7_parseExpression 129 = .ok (.return_, 1) := by decide +kernel
theorem dX7_isUnit_0 : decode cX7_isUnit 0 = .ok (.iload_n 0, 1) := by decide +kernel
theorem dX7_isUnit_1 : decode cX7_isUnit 1 = .ok (.iconst 2, 1) := by decide +kernel
theorem dX7_isUnit_2 : decode cX7_isUnit 2 = .ok (.if_icmp .eq 15, 3) := by decide +kernel
theorem dX7_isUnit_5 : decode cX7_isUnit 5 = .ok (.iload_n 0, 1) := by decide +kernel
theorem dX7_isUnit_6 : decode cX7_isUnit 6 = .ok (.bipush 8, 2) := by decide +kernel
theorem dX7_isUnit_8 : decode cX7_isUnit 8 = .ok (.if_icmp .lt 13, 3) := by decide +kernel
theorem dX7_isUnit_11 : decode cX7_isUnit 11 = .ok (.iload_n 0, 1) := by decide +kernel
theorem dX7_isUnit_12 : decode cX7_isUnit 12 = .ok (.bipush 13, 2) := by decide +kernel
theorem dX7_isUnit_14 : decode cX7_isUnit 14 = .ok (.if_icmp .gt 7, 3) := by decide +kernel
theorem dX7_isUnit_17 : decode cX7_isUnit 17 = .ok (.iconst 1, 1) := by decide +kernel
theorem dX7_isUnit_18 : decode cX7_isUnit 18 = .ok (.goto 4, 3) := by decide +kernel
theorem dX7_isUnit_21 : decode cX7_isUnit 21 = .ok (.iconst 0, 1) := by decide +kernel
theorem dX7_isUnit_22 : decode cX7_isUnit 22 = .ok (.ireturn, 1) := by decide +kernel
theorem dX7_isOperator_0 : decode cX7_isOperator 0 = .ok (.iload_n 0, 1) := by decide +kernel
theorem dX7_isOperator_1 : decode cX7_isOperator 1 = .ok (.bipush 43, 2) := by decide +kernel
theorem dX7_isOperator_3 : decode cX7_isOperator 3 = .ok (.if_icmp .eq 27, 3) := by decide +kernel
theorem dX7_isOperator_6 : decode cX7_isOperator 6 = .ok (.iload_n 0, 1) := by decide +kernel
theorem dX7_isOperator_7 : decode cX7_isOperator 7 = .ok (.bipush 45, 2) := by decide +kernel
theorem dX7_isOperator_9 : decode cX7_isOperator 9 = .ok (.if_icmp .eq 21, 3) := by decide +kernel
theorem dX7_isOperator_12 : decode cX7_isOperator 12 = .ok (.iload_n 0, 1) := by decide +kernel
theorem dX7_isOperator_13 : decode cX7_isOperator 13 = .ok (.bipush 42, 2) := by decide +kernel
theorem dX7_isOperator_15 : decode cX7_isOperator 15 = .ok (.if_icmp .eq 15, 3) := by decide +kernel
theorem dX7_isOperator_18 : decode cX7_isOperator 18 = .ok (.iload_n 0, 1) := by decide +kernel
theorem dX7_isOperator_19 : decode cX7_isOperator 19 = .ok (.bipush 47, 2) := by decide +kernel
theorem dX7_isOperator_21 : decode cX7_isOperator 21 = .ok (.if_icmp .eq 9, 3) := by decide +kernel
theorem dX7_isOperator_24 : decode cX7_isOperator 24 = .ok (.iload_n 0, 1) := by decide +kernel
theorem dX7_isOperator_25 : decode cX7_isOperator 25 = .ok (.bipush 37, 2) := by decide +kernel
theorem dX7_isOperator_27 : decode cX7_isOperator 27 = .ok (.if_icmp .ne 7, 3) := by decide +kernel
theorem dX7_isOperator_30 : decode cX7_isOperator 30 = .ok (.iconst 1, 1) := by decide +kernel
theorem dX7_isOperator_31 : decode cX7_isOperator 31 = .ok (.goto 4, 3) := by decide +kernel
theorem dX7_isOperator_34 : decode cX7_isOperator 34 = .ok (.iconst 0, 1) := by decide +kernel
theorem dX7_isOperator_35 : decode cX7_isOperator 35 = .ok (.ireturn, 1) := by decide +kernel
theorem dX7_takeNumber_0 : decode cX7_takeNumber 0 = .ok (.aload_n 0, 1) := by decide +kernel
theorem dX7_takeNumber_1 : decode cX7_takeNumber 1 = .ok (.getfield 9, 3) := by decide +kernel
theorem dX7_takeNumber_4 : decode cX7_takeNumber 4 = .ok (.getfield 112, 3) := by decide +kernel
theorem dX7_takeNumber_7 : decode cX7_takeNumber 7 = .ok (.aload_n 0, 1) := by decide +kernel
theorem dX7_takeNumber_8 : decode cX7_takeNumber 8 = .ok (.getfield 30, 3) := by decide +kernel
theorem dX7_takeNumber_11 : decode cX7_takeNumber 11 = .ok (.invokevirtual 74, 3) := by decide +kernel
theorem dX7_takeNumber_14 : decode cX7_takeNumber 14 = .ok (.istore_n 3, 1) := by decide +kernel
theorem dX7_takeNumber_15 : decode cX7_takeNumber 15 = .ok (.aload_n 0, 1) := by decide +kernel
theorem dX7_takeNumber_16 : decode cX7_takeNumber 16 = .ok (.invokevirtual 77, 3) := by decide +kernel
theorem dX7_takeNumber_19 : decode cX7_takeNumber 19 = .ok (.iconst 2, 1) := by decide +kernel
theorem dX7_takeNumber_20 : decode cX7_takeNumber 20 = .ok (.if_icmp .ne 39, 3) := by decide +kernel
theorem dX7_takeNumber_23 : decode cX7_takeNumber 23 = .ok (.aload_n 0, 1) := by decide +kernel
theorem dX7_takeNumber_24 : decode cX7_takeNumber 24 = .ok (.getfield 40, 3) := by decide +kernel
theorem dX7_takeNumber_27 : decode cX7_takeNumber 27 = .ok (.iconst (-1), 1) := by decide +kernel
theorem dX7_takeNumber_28 : decode cX7_takeNumber 28 = .ok (.if_icmp .ne 31, 3) := by decide +kernel
theorem dX7_takeNumber_31 : decode cX7_takeNumber 31 = .ok (.iload_n 3, 1) := by decide +kernel
theorem dX7_takeNumber_32 : decode cX7_takeNumber 32 = .ok (.iload_n 1, 1) := by decide +kernel
theorem dX7_takeNumber_33 : decode cX7_takeNumber 33 = .ok (.if_icmp .lt 8, 3) := by decide +kernel
theorem dX7_takeNumber_36 : decode cX7_takeNumber 36 = .ok (.iload_n 3, 1) := by decide +kernel
theorem dX7_takeNumber_37 : decode cX7_takeNumber 37 = .ok (.iload_n 2, 1) := by decide +kernel
theorem dX7_takeNumber_38 : decode cX7_takeNumber 38 = .ok (.if_icmp .le 21, 3) := by decide +kernel
theorem dX7_takeNumber_41 : decode cX7_takeNumber 41 = .ok (.aload_n 0, 1) := by decide +kernel
theorem dX7_takeNumber_42 : decode cX7_takeNumber 42 = .ok (.aload_n 0, 1) := by decide +kernel
theorem dX7_takeNumber_43 : decode cX7_takeNumber 43 = .ok (.getfield 9, 3) := by decide +kernel
theorem dX7_takeNumber_46 : decode cX7_takeNumber 46 = .ok (.getfield 71, 3) := by decide +kernel
theorem dX7_takeNumber_49 : decode cX7_takeNumber 49 = .ok (.aload_n 0, 1) := by decide +kernel
theorem dX7_takeNumber_50 : decode cX7_takeNumber 50 = .ok (.getfield 30, 3) := by decide +kernel
theorem dX7_takeNumber_53 : decode cX7_takeNumber 53 = .ok (.invokevirtual 74, 3) := by decide +kernel
theorem dX7_takeNumber_56 : decode cX7_takeNumber 56 = .ok (.putfield 40, 3) := by decide +kernel
theorem dX7_takeNumber_59 : decode cX7_takeNumber 59 = .ok (.aload_n 0, 1) := by decide +kernel
theorem dX7_takeNumber_60 : decode cX7_takeNumber 60 = .ok (.iconst 2, 1) := by decide +kernel
theorem dX7_takeNumber_61 : decode cX7_takeNumber 61 = .ok (.invokevirtual 88, 3) := by decide +kernel
theorem dX7_takeNumber_64 : decode cX7_takeNumber 64 = .ok (.iload_n 3, 1) := by decide +kernel
theorem dX7_takeNumber_65 : decode cX7_takeNumber 65 = .ok (.ireturn, 1) := by decide +kernel
theorem dX7_takeKind_0 : decode cX7_takeKind 0 = .ok (.aload_n 0, 1) := by decide +kernel
theorem dX7_takeKind_1 : decode cX7_takeKind 1 = .ok (.invokevirtual 77, 3) := by decide +kernel
theorem dX7_takeKind_4 : decode cX7_takeKind 4 = .ok (.iload_n 1, 1) := by decide +kernel
theorem dX7_takeKind_5 : decode cX7_takeKind 5 = .ok (.if_icmp .eq 8, 3) := by decide +kernel
theorem dX7_takeKind_8 : decode cX7_takeKind 8 = .ok (.aload_n 0, 1) := by decide +kernel
theorem dX7_takeKind_9 : decode cX7_takeKind 9 = .ok (.iconst 1, 1) := by decide +kernel
theorem dX7_takeKind_10 : decode cX7_takeKind 10 = .ok (.invokevirtual 103, 3) := by decide +kernel
theorem dX7_takeKind_13 : decode cX7_takeKind 13 = .ok (.aload_n 0, 1) := by decide +kernel
theorem dX7_takeKind_14 : decode cX7_takeKind 14 = .ok (.invokevirtual 81, 3) := by decide +kernel
theorem dX7_takeKind_17 : decode cX7_takeKind 17 = .ok (.return_, 1) := by decide +kernel
theorem dX7_take_0 : decode cX7_take 0 = .ok (.aload_n 0, 1) := by decide +kernel
theorem dX7_take_1 : decode cX7_take 1 = .ok (.getfield 30, 3) := by decide +kernel
theorem dX7_take_4 : decode cX7_take 4 = .ok (.sipush 400, 3) := by decide +kernel
theorem dX7_take_7 : decode cX7_take 7 = .ok (.if_icmp .lt 8, 3) := by decide +kernel
theorem dX7_take_10 : decode cX7_take 10 = .ok (.aload_n 0, 1) := by decide +kernel
theorem dX7_take_11 : decode cX7_take 11 = .ok (.iconst 2, 1) := by decide +kernel
theorem dX7_take_12 : decode cX7_take 12 = .ok (.invokevirtual 103, 3) := by decide +kernel
theorem dX7_take_15 : decode cX7_take 15 = .ok (.aload_n 0, 1) := by decide +kernel
theorem dX7_take_16 : decode cX7_take 16 = .ok (.getfield 34, 3) := by decide +kernel
theorem dX7_take_19 : decode cX7_take 19 = .ok (.ifCond .ne 13, 3) := by decide +kernel
theorem dX7_take_22 : decode cX7_take 22 = .ok (.aload_n 0, 1) := by decide +kernel
theorem dX7_take_23 : decode cX7_take 23 = .ok (.dup, 1) := by decide +kernel
theorem dX7_take_24 : decode cX7_take 24 = .ok (.getfield 30, 3) := by decide +kernel
theorem dX7_take_27 : decode cX7_take 27 = .ok (.iconst 1, 1) := by decide +kernel
theorem dX7_take_28 : decode cX7_take 28 = .ok (.iadd, 1) := by decide +kernel
theorem dX7_take_29 : decode cX7_take 29 = .ok (.putfield 30, 3) := by decide +kernel
theorem dX7_take_32 : decode cX7_take 32 = .ok (.return_, 1) := by decide +kernel
theorem dX7_fail_0 : decode cX7_fail 0 = .ok (.aload_n 0, 1) := by decide +kernel
theorem dX7_fail_1 : decode cX7_fail 1 = .ok (.getfield 34, 3) := by decide +kernel
theorem dX7_fail_4 : decode cX7_fail 4 = .ok (.ifCond .ne 8, 3) := by decide +kernel
theorem dX7_fail_7 : decode cX7_fail 7 = .ok (.aload_n 0, 1) := by decide +kernel
theorem dX7_fail_8 : decode cX7_fail 8 = .ok (.iload_n 1, 1) := by decide +kernel
theorem dX7_fail_9 : decode cX7_fail 9 = .ok (.putfield 34, 3) := by decide +kernel
theorem dX7_fail_12 : decode cX7_fail 12 = .ok (.return_, 1) := by decide +kernel
theorem dX10_init_0 : decode cX10_init 0 = .ok (.aload_n 0, 1) := by decide +kernel
theorem dX10_init_1 : decode cX10_init 1 = .ok (.invokespecial 3, 3) := by decide +kernel
theorem dX10_init_4 : decode cX10_init 4 = .ok (.aload_n 0, 1) := by decide +kernel
theorem dX10_init_5 : decode cX10_init 5 = .ok (.aload_n 1, 1) := by decide +kernel
theorem dX10_init_6 : decode cX10_init 6 = .ok (.putfield 9, 3) := by decide +kernel
theorem dX10_init_9 : decode cX10_init 9 = .ok (.aload_n 0, 1) := by decide +kernel
theorem dX10_init_10 : decode cX10_init 10 = .ok (.aload_n 2, 1) := by decide +kernel
theorem dX10_init_11 : decode cX10_init 11 = .ok (.putfield 15, 3) := by decide +kernel
theorem dX10_init_14 : decode cX10_init 14 = .ok (.aload_n 0, 1) := by decide +kernel
theorem dX10_init_15 : decode cX10_init 15 = .ok (.aload_n 3, 1) := by decide +kernel
theorem dX10_init_16 : decode cX10_init 16 = .ok (.putfield 19, 3) := by decide +kernel
theorem dX10_init_19 : decode cX10_init 19 = .ok (.aload_n 0, 1) := by decide +kernel
theorem dX10_init_20 : decode cX10_init 20 = .ok (.new 23, 3) := by decide +kernel
theorem dX10_init_23 : decode cX10_init 23 = .ok (.dup, 1) := by decide +kernel
theorem dX10_init_24 : decode cX10_init 24 = .ok (.iconst 3, 1) := by decide +kernel
theorem dX10_init_25 : decode cX10_init 25 = .ok (.invokespecial 25, 3) := by decide +kernel
theorem dX10_init_28 : decode cX10_init 28 = .ok (.putfield 28, 3) := by decide +kernel
theorem dX10_init_31 : decode cX10_init 31 = .ok (.return_, 1) := by decide +kernel
theorem dX10_start_0 : decode cX10_start 0 = .ok (.aload_n 0, 1) := by decide +kernel
theorem dX10_start_1 : decode cX10_start 1 = .ok (.aload_n 0, 1) := by decide +kernel
theorem dX10_start_2 : decode cX10_start 2 = .ok (.getfield 9, 3) := by decide +kernel
theorem dX10_start_5 : decode cX10_start 5 = .ok (.getfield 32, 3) := by decide +kernel
theorem dX10_start_8 : decode cX10_start 8 = .ok (.iconst 0, 1) := by decide +kernel
theorem dX10_start_9 : decode cX10_start 9 = .ok (.invokevirtual 37, 3) := by decide +kernel
theorem dX10_start_12 : decode cX10_start 12 = .ok (.iconst 3, 1) := by decide +kernel
theorem dX10_start_13 : decode cX10_start 13 = .ok (.if_icmp .ne 7, 3) := by decide +kernel
theorem dX10_start_16 : decode cX10_start 16 = .ok (.iconst 3, 1) := by decide +kernel
theorem dX10_start_17 : decode cX10_start 17 = .ok (.goto 4, 3) := by decide +kernel
theorem dX10_start_20 : decode cX10_start 20 = .ok (.iconst 0, 1) := by decide +kernel
theorem dX10_start_21 : decode cX10_start 21 = .ok (.putfield 41, 3) := by decide +kernel
theorem dX10_start_24 : decode cX10_start 24 = .ok (.aload_n 0, 1) := by decide +kernel
theorem dX10_start_25 : decode cX10_start 25 = .ok (.iconst 0, 1) := by decide +kernel
theorem dX10_start_26 : decode cX10_start 26 = .ok (.putfield 44, 3) := by decide +kernel
theorem dX10_start_29 : decode cX10_start 29 = .ok (.aload_n 0, 1) := by decide +kernel
theorem dX10_start_30 : decode cX10_start 30 = .ok (.getfield 28, 3) := by decide +kernel
theorem dX10_start_33 : decode cX10_start 33 = .ok (.iconst 0, 1) := by decide +kernel
theorem dX10_start_34 : decode cX10_start 34 = .ok (.invokevirtual 47, 3) := by decide +kernel
theorem dX10_start_37 : decode cX10_start 37 = .ok (.return_, 1) := by decide +kernel
theorem dX10_goOn_0 : decode cX10_goOn 0 = .ok (.iconst 0, 1) := by decide +kernel
theorem dX10_goOn_1 : decode cX10_goOn 1 = .ok (.istore_n 1, 1) := by decide +kernel
theorem dX10_goOn_2 : decode cX10_goOn 2 = .ok (.iload_n 1, 1) := by decide +kernel
theorem dX10_goOn_3 : decode cX10_goOn 3 = .ok (.sipush 10000, 3) := by decide +kernel
theorem dX10_goOn_6 : decode cX10_goOn 6 = .ok (.if_icmp .ge 167, 3) := by decide +kernel
theorem dX10_goOn_9 : decode cX10_goOn 9 = .ok (.aload_n 0, 1) := by decide +kernel
theorem dX10_goOn_10 : decode cX10_goOn 10 = .ok (.aload_n 0, 1) := by decide +kernel
theorem dX10_goOn_11 : decode cX10_goOn 11 = .ok (.getfield 9, 3) := by decide +kernel
theorem dX10_goOn_14 : decode cX10_goOn 14 = .ok (.getfield 32, 3) := by decide +kernel
theorem dX10_goOn_17 : decode cX10_goOn 17 = .ok (.aload_n 0, 1) := by decide +kernel
theorem dX10_goOn_18 : decode cX10_goOn 18 = .ok (.getfield 41, 3) := by decide +kernel
theorem dX10_goOn_21 : decode cX10_goOn 21 = .ok (.invokevirtual 37, 3) := by decide +kernel
theorem dX10_goOn_24 : decode cX10_goOn 24 = .ok (.putfield 50, 3) := by decide +kernel
theorem dX10_goOn_27 : decode cX10_goOn 27 = .ok (.aload_n 0, 1) := by decide +kernel
theorem dX10_goOn_28 : decode cX10_goOn 28 = .ok (.getfield 50, 3) := by decide +kernel
theorem dX10_goOn_31 : decode cX10_goOn 31 = .ok (.tableswitch 134 4 7 #[29, 83, 120, 127], 29) := by decide +kernel
theorem dX10_goOn_60 : decode cX10_goOn 60 = .ok (.aload_n 0, 1) := by decide +kernel
theorem dX10_goOn_61 : decode cX10_goOn 61 = .ok (.dup, 1) := by decide +kernel
theorem dX10_goOn_62 : decode cX10_goOn 62 = .ok (.getfield 41, 3) := by decide +kernel
theorem dX10_goOn_65 : decode cX10_goOn 65 = .ok (.iconst 1, 1) := by decide +kernel
theorem dX10_goOn_66 : decode cX10_goOn 66 = .ok (.iadd, 1) := by decide +kernel
theorem dX10_goOn_67 : decode cX10_goOn 67 = .ok (.putfield 41, 3) := by decide +kernel
theorem dX10_goOn_70 : decode cX10_goOn 70 = .ok (.aload_n 0, 1) := by decide +kernel
theorem dX10_goOn_71 : decode cX10_goOn 71 = .ok (.aload_n 0, 1) := by decide +kernel
theorem dX10_goOn_72 : decode cX10_goOn 72 = .ok (.iconst 0, 1) := by decide +kernel
theorem dX10_goOn_73 : decode cX10_goOn 73 = .ok (.invokevirtual 53, 3) := by decide +kernel
theorem dX10_goOn_76 : decode cX10_goOn 76 = .ok (.sipush 1000, 3) := by decide +kernel
theorem dX10_goOn_79 : decode cX10_goOn 79 = .ok (.invokestatic 56, 3) := by decide +kernel
theorem dX10_goOn_82 : decode cX10_goOn 82 = .ok (.putfield 62, 3) := by decide +kernel
theorem dX10_goOn_85 : decode cX10_goOn 85 = .ok (.aload_n 0, 1) := by decide +kernel
theorem dX10_goOn_86 : decode cX10_goOn 86 = .ok (.aload_n 0, 1) := by decide +kernel
theorem dX10_goOn_87 : decode cX10_goOn 87 = .ok (.iconst 0, 1) := by decide +kernel
theorem dX10_goOn_88 : decode cX10_goOn 88 = .ok (.invokevirtual 53, 3) := by decide +kernel
theorem dX10_goOn_91 : decode cX10_goOn 91 = .ok (.putfield 65, 3) := by decide +kernel
theorem dX10_goOn_94 : decode cX10_goOn 94 = .ok (.aload_n 0, 1) := by decide +kernel
theorem dX10_goOn_95 : decode cX10_goOn 95 = .ok (.aload_n 0, 1) := by decide +kernel
theorem dX10_goOn_96 : decode cX10_goOn 96 = .ok (.getfield 62, 3) := by decide +kernel
theorem dX10_goOn_99 : decode cX10_goOn 99 = .ok (.putfield 44, 3) := by decide +kernel
theorem dX10_goOn_102 : decode cX10_goOn 102 = .ok (.aload_n 0, 1) := by decide +kernel
theorem dX10_goOn_103 : decode cX10_goOn 103 = .ok (.dup, 1) := by decide +kernel
theorem dX10_goOn_104 : decode cX10_goOn 104 = .ok (.getfield 41, 3) := by decide +kernel
theorem dX10_goOn_107 : decode cX10_goOn 107 = .ok (.iconst 1, 1) := by decide +kernel
theorem dX10_goOn_108 : decode cX10_goOn 108 = .ok (.iadd, 1) := by decide +kernel
theorem dX10_goOn_109 : decode cX10_goOn 109 = .ok (.putfield 41, 3) := by decide +kernel
theorem dX10_goOn_112 : decode cX10_goOn 112 = .ok (.iconst 1, 1) := by decide +kernel
theorem dX10_goOn_113 : decode cX10_goOn 113 = .ok (.ireturn, 1) := by decide +kernel
theorem dX10_goOn_114 : decode cX10_goOn 114 = .ok (.aload_n 0, 1) := by decide +kernel
theorem dX10_goOn_115 : decode cX10_goOn 115 = .ok (.dup, 1) := by decide +kernel
theorem dX10_goOn_116 : decode cX10_goOn 116 = .ok (.getfield 41, 3) := by decide +kernel
theorem dX10_goOn_119 : decode cX10_goOn 119 = .ok (.iconst 1, 1) := by decide +kernel
theorem dX10_goOn_120 : decode cX10_goOn 120 = .ok (.iadd, 1) := by decide +kernel
theorem dX10_goOn_121 : decode cX10_goOn 121 = .ok (.putfield 41, 3) := by decide +kernel
theorem dX10_goOn_124 : decode cX10_goOn 124 = .ok (.aload_n 0, 1) := by decide +kernel
theorem dX10_goOn_125 : decode cX10_goOn 125 = .ok (.aload_n 0, 1) := by decide +kernel
theorem dX10_goOn_126 : decode cX10_goOn 126 = .ok (.iconst 0, 1) := by decide +kernel
theorem dX10_goOn_127 : decode cX10_goOn 127 = .ok (.invokevirtual 53, 3) := by decide +kernel
theorem dX10_goOn_130 : decode cX10_goOn 130 = .ok (.sipush 1000, 3) := by decide +kernel
theorem dX10_goOn_133 : decode cX10_goOn 133 = .ok (.invokestatic 56, 3) := by decide +kernel
theorem dX10_goOn_136 : decode cX10_goOn 136 = .ok (.putfield 62, 3) := by decide +kernel
theorem dX10_goOn_139 : decode cX10_goOn 139 = .ok (.aload_n 0, 1) := by decide +kernel
theorem dX10_goOn_140 : decode cX10_goOn 140 = .ok (.dup, 1) := by decide +kernel
theorem dX10_goOn_141 : decode cX10_goOn 141 = .ok (.getfield 41, 3) := by decide +kernel
theorem dX10_goOn_144 : decode cX10_goOn 144 = .ok (.iconst 1, 1) := by decide +kernel
theorem dX10_goOn_145 : decode cX10_goOn 145 = .ok (.iadd, 1) := by decide +kernel
theorem dX10_goOn_146 : decode cX10_goOn 146 = .ok (.putfield 41, 3) := by decide +kernel
theorem dX10_goOn_149 : decode cX10_goOn 149 = .ok (.iconst 1, 1) := by decide +kernel
theorem dX10_goOn_150 : decode cX10_goOn 150 = .ok (.ireturn, 1) := by decide +kernel
theorem dX10_goOn_151 : decode cX10_goOn 151 = .ok (.aload_n 0, 1) := by decide +kernel
theorem dX10_goOn_152 : decode cX10_goOn 152 = .ok (.invokevirtual 68, 3) := by decide +kernel
theorem dX10_goOn_155 : decode cX10_goOn 155 = .ok (.goto 12, 3) := by decide +kernel
theorem dX10_goOn_158 : decode cX10_goOn 158 = .ok (.aload_n 0, 1) := by decide +kernel
theorem dX10_goOn_159 : decode cX10_goOn 159 = .ok (.invokevirtual 71, 3) := by decide +kernel
theorem dX10_goOn_162 : decode cX10_goOn 162 = .ok (.goto 5, 3) := by decide +kernel
theorem dX10_goOn_165 : decode cX10_goOn 165 = .ok (.iconst 0, 1) := by decide +kernel
theorem dX10_goOn_166 : decode cX10_goOn 166 = .ok (.ireturn, 1) := by decide +kernel
theorem dX10_goOn_167 : decode cX10_goOn 167 = .ok (.iinc 1 1, 3) := by decide +kernel
theorem dX10_goOn_170 : decode cX10_goOn 170 = .ok (.goto (-168), 3) := by decide +kernel
theorem dX10_goOn_173 : decode cX10_goOn 173 = .ok (.iconst 0, 1) := by decide +kernel
theorem dX10_goOn_174 : decode cX10_goOn 174 = .ok (.ireturn, 1) := by decide +kernel
theorem dX10_beginDo_0 : decode cX10_beginDo 0 = .ok (.aload_n 0, 1) := by decide +kernel
theorem dX10_beginDo_1 : decode cX10_beginDo 1 = .ok (.getfield 15, 3) := by decide +kernel
theorem dX10_beginDo_4 : decode cX10_beginDo 4 = .ok (.getfield 74, 3) := by decide +kernel
theorem dX10_beginDo_7 : decode cX10_beginDo 7 = .ok (.aload_n 0, 1) := by decide +kernel
theorem dX10_beginDo_8 : decode cX10_beginDo 8 = .ok (.getfield 41, 3) := by decide +kernel
theorem dX10_beginDo_11 : decode cX10_beginDo 11 = .ok (.invokevirtual 37, 3) := by decide +kernel
theorem dX10_beginDo_14 : decode cX10_beginDo 14 = .ok (.iconst 1, 1) := by decide +kernel
theorem dX10_beginDo_15 : decode cX10_beginDo 15 = .ok (.if_icmp .ne 24, 3) := by decide +kernel
theorem dX10_beginDo_18 : decode cX10_beginDo 18 = .ok (.aload_n 0, 1) := by decide +kernel
theorem dX10_beginDo_19 : decode cX10_beginDo 19 = .ok (.getfield 28, 3) := by decide +kernel
theorem dX10_beginDo_22 : decode cX10_beginDo 22 = .ok (.iconst 0, 1) := by decide +kernel
theorem dX10_beginDo_23 : decode cX10_beginDo 23 = .ok (.invokevirtual 79, 3) := by decide +kernel
theorem dX10_beginDo_26 : decode cX10_beginDo 26 = .ok (.aload_n 0, 1) := by decide +kernel
theorem dX10_beginDo_27 : decode cX10_beginDo 27 = .ok (.dup, 1) := by decide +kernel
theorem dX10_beginDo_28 : decode cX10_beginDo 28 = .ok (.getfield 41, 3) := by decide +kernel
theorem dX10_beginDo_31 : decode cX10_beginDo 31 = .ok (.iconst 3, 1) := by decide +kernel
theorem dX10_beginDo_32 : decode cX10_beginDo 32 = .ok (.iadd, 1) := by decide +kernel
theorem dX10_beginDo_33 : decode cX10_beginDo 33 = .ok (.putfield 41, 3) := by decide +kernel
theorem dX10_beginDo_36 : decode cX10_beginDo 36 = .ok (.goto 23, 3) := by decide +kernel
theorem dX10_beginDo_39 : decode cX10_beginDo 39 = .ok (.aload_n 0, 1) := by decide +kernel
theorem dX10_beginDo_40 : decode cX10_beginDo 40 = .ok (.aload_n 0, 1) := by decide +kernel
theorem dX10_beginDo_41 : decode cX10_beginDo 41 = .ok (.getfield 15, 3) := by decide +kernel
theorem dX10_beginDo_44 : decode cX10_beginDo 44 = .ok (.getfield 82, 3) := by decide +kernel
theorem dX10_beginDo_47 : decode cX10_beginDo 47 = .ok (.aload_n 0, 1) := by decide +kernel
theorem dX10_beginDo_48 : decode cX10_beginDo 48 = .ok (.getfield 41, 3) := by decide +kernel
theorem dX10_beginDo_51 : decode cX10_beginDo 51 = .ok (.invokevirtual 37, 3) := by decide +kernel
theorem dX10_beginDo_54 : decode cX10_beginDo 54 = .ok (.iconst 2, 1) := by decide +kernel
theorem dX10_beginDo_55 : decode cX10_beginDo 55 = .ok (.iadd, 1) := by decide +kernel
theorem dX10_beginDo_56 : decode cX10_beginDo 56 = .ok (.putfield 41, 3) := by decide +kernel
theorem dX10_beginDo_59 : decode cX10_beginDo 59 = .ok (.return_, 1) := by decide +kernel
theorem dX10_endRound_0 : decode cX10_endRound 0 = .ok (.aload_n 0, 1) := by decide +kernel
theorem dX10_endRound_1 : decode cX10_endRound 1 = .ok (.getfield 15, 3) := by decide +kernel
theorem dX10_endRound_4 : decode cX10_endRound 4 = .ok (.getfield 82, 3) := by decide +kernel
theorem dX10_endRound_7 : decode cX10_endRound 7 = .ok (.aload_n 0, 1) := by decide +kernel
theorem dX10_endRound_8 : decode cX10_endRound 8 = .ok (.getfield 41, 3) := by decide +kernel
theorem dX10_endRound_11 : decode cX10_endRound 11 = .ok (.invokevirtual 37, 3) := by decide +kernel
theorem dX10_endRound_14 : decode cX10_endRound 14 = .ok (.istore_n 1, 1) := by decide +kernel
theorem dX10_endRound_15 : decode cX10_endRound 15 = .ok (.aload_n 0, 1) := by decide +kernel
theorem dX10_endRound_16 : decode cX10_endRound 16 = .ok (.getfield 28, 3) := by decide +kernel
theorem dX10_endRound_19 : decode cX10_endRound 19 = .ok (.aload_n 0, 1) := by decide +kernel
theorem dX10_endRound_20 : decode cX10_endRound 20 = .ok (.getfield 28, 3) := by decide +kernel
theorem dX10_endRound_23 : decode cX10_endRound 23 = .ok (.getfield 85, 3) := by decide +kernel
theorem dX10_endRound_26 : decode cX10_endRound 26 = .ok (.iconst 1, 1) := by decide +kernel
theorem dX10_endRound_27 : decode cX10_endRound 27 = .ok (.isub, 1) := by decide +kernel
theorem dX10_endRound_28 : decode cX10_endRound 28 = .ok (.invokevirtual 37, 3) := by decide +kernel
theorem dX10_endRound_31 : decode cX10_endRound 31 = .ok (.iconst 1, 1) := by decide +kernel
theorem dX10_endRound_32 : decode cX10_endRound 32 = .ok (.iadd, 1) := by decide +kernel
theorem dX10_endRound_33 : decode cX10_endRound 33 = .ok (.istore_n 2, 1) := by decide +kernel
theorem dX10_endRound_34 : decode cX10_endRound 34 = .ok (.iload_n 2, 1) := by decide +kernel
theorem dX10_endRound_35 : decode cX10_endRound 35 = .ok (.aload_n 0, 1) := by decide +kernel
theorem dX10_endRound_36 : decode cX10_endRound 36 = .ok (.getfield 9, 3) := by decide +kernel
theorem dX10_endRound_39 : decode cX10_endRound 39 = .ok (.getfield 88, 3) := by decide +kernel
theorem dX10_endRound_42 : decode cX10_endRound 42 = .ok (.iload_n 1, 1) := by decide +kernel
theorem dX10_endRound_43 : decode cX10_endRound 43 = .ok (.iconst 1, 1) := by decide +kernel
theorem dX10_endRound_44 : decode cX10_endRound 44 = .ok (.iadd, 1) := by decide +kernel
theorem dX10_endRound_45 : decode cX10_endRound 45 = .ok (.invokevirtual 37, 3) := by decide +kernel
theorem dX10_endRound_48 : decode cX10_endRound 48 = .ok (.if_icmp .ge 30, 3) := by decide +kernel
theorem dX10_endRound_51 : decode cX10_endRound 51 = .ok (.aload_n 0, 1) := by decide +kernel
theorem dX10_endRound_52 : decode cX10_endRound 52 = .ok (.getfield 28, 3) := by decide +kernel
theorem dX10_endRound_55 : decode cX10_endRound 55 = .ok (.aload_n 0, 1) := by decide +kernel
theorem dX10_endRound_56 : decode cX10_endRound 56 = .ok (.getfield 28, 3) := by decide +kernel
theorem dX10_endRound_59 : decode cX10_endRound 59 = .ok (.getfield 85, 3) := by decide +kernel
theorem dX10_endRound_62 : decode cX10_endRound 62 = .ok (.iconst 1, 1) := by decide +kernel
theorem dX10_endRound_63 : decode cX10_endRound 63 = .ok (.isub, 1) := by decide +kernel
theorem dX10_endRound_64 : decode cX10_endRound 64 = .ok (.iload_n 2, 1) := by decide +kernel
theorem dX10_endRound_65 : decode cX10_endRound 65 = .ok (.invokevirtual 91, 3) := by decide +kernel
theorem dX10_endRound_68 : decode cX10_endRound 68 = .ok (.aload_n 0, 1) := by decide +kernel
theorem dX10_endRound_69 : decode cX10_endRound 69 = .ok (.iload_n 1, 1) := by decide +kernel
theorem dX10_endRound_70 : decode cX10_endRound 70 = .ok (.iconst 3, 1) := by decide +kernel
theorem dX10_endRound_71 : decode cX10_endRound 71 = .ok (.iadd, 1) := by decide +kernel
theorem dX10_endRound_72 : decode cX10_endRound 72 = .ok (.putfield 41, 3) := by decide +kernel
theorem dX10_endRound_75 : decode cX10_endRound 75 = .ok (.goto 29, 3) := by decide +kernel
theorem dX10_endRound_78 : decode cX10_endRound 78 = .ok (.aload_n 0, 1) := by decide +kernel
theorem dX10_endRound_79 : decode cX10_endRound 79 = .ok (.getfield 28, 3) := by decide +kernel
theorem dX10_endRound_82 : decode cX10_endRound 82 = .ok (.aload_n 0, 1) := by decide +kernel
theorem dX10_endRound_83 : decode cX10_endRound 83 = .ok (.getfield 28, 3) := by decide +kernel
theorem dX10_endRound_86 : decode cX10_endRound 86 = .ok (.getfield 85, 3) := by decide +kernel
theorem dX10_endRound_89 : decode cX10_endRound 89 = .ok (.iconst 1, 1) := by decide +kernel
theorem dX10_endRound_90 : decode cX10_endRound 90 = .ok (.isub, 1) := by decide +kernel
theorem dX10_endRound_91 : decode cX10_endRound 91 = .ok (.invokevirtual 47, 3) := by decide +kernel
theorem dX10_endRound_94 : decode cX10_endRound 94 = .ok (.aload_n 0, 1) := by decide +kernel
theorem dX10_endRound_95 : decode cX10_endRound 95 = .ok (.dup, 1) := by decide +kernel
theorem dX10_endRound_96 : decode cX10_endRound 96 = .ok (.getfield 41, 3) := by decide +kernel
theorem dX10_endRound_99 : decode cX10_endRound 99 = .ok (.iconst 2, 1) := by decide +kernel
theorem dX10_endRound_100 : decode cX10_endRound 100 = .ok (.iadd, 1) := by decide +kernel
theorem dX10_endRound_101 : decode cX10_endRound 101 = .ok (.putfield 41, 3) := by decide +kernel
theorem dX10_endRound_104 : decode cX10_endRound 104 = .ok (.return_, 1) := by decide +kernel
theorem dX10_total_0 : decode cX10_total 0 = .ok (.aload_n 0, 1) := by decide +kernel
theorem dX10_total_1 : decode cX10_total 1 = .ok (.iload_n 1, 1) := by decide +kernel
theorem dX10_total_2 : decode cX10_total 2 = .ok (.invokevirtual 95, 3) := by decide +kernel
theorem dX10_total_5 : decode cX10_total 5 = .ok (.istore_n 2, 1) := by decide +kernel
theorem dX10_total_6 : decode cX10_total 6 = .ok (.iconst 0, 1) := by decide +kernel
theorem dX10_total_7 : decode cX10_total 7 = .ok (.istore_n 3, 1) := by decide +kernel
theorem dX10_total_8 : decode cX10_total 8 = .ok (.iload_n 3, 1) := by decide +kernel
theorem dX10_total_9 : decode cX10_total 9 = .ok (.sipush 400, 3) := by decide +kernel
theorem dX10_total_12 : decode cX10_total 12 = .ok (.if_icmp .ge 78, 3) := by decide +kernel
theorem dX10_total_15 : decode cX10_total 15 = .ok (.aload_n 0, 1) := by decide +kernel
theorem dX10_total_16 : decode cX10_total 16 = .ok (.getfield 9, 3) := by decide +kernel
theorem dX10_total_19 : decode cX10_total 19 = .ok (.getfield 32, 3) := by decide +kernel
theorem dX10_total_22 : decode cX10_total 22 = .ok (.aload_n 0, 1) := by decide +kernel
theorem dX10_total_23 : decode cX10_total 23 = .ok (.getfield 41, 3) := by decide +kernel
theorem dX10_total_26 : decode cX10_total 26 = .ok (.invokevirtual 37, 3) := by decide +kernel
theorem dX10_total_29 : decode cX10_total 29 = .ok (.istore 4, 2) := by decide +kernel
theorem dX10_total_31 : decode cX10_total 31 = .ok (.iload 4, 2) := by decide +kernel
theorem dX10_total_33 : decode cX10_total 33 = .ok (.bipush 43, 2) := by decide +kernel
theorem dX10_total_35 : decode cX10_total 35 = .ok (.if_icmp .eq 13, 3) := by decide +kernel
theorem dX10_total_38 : decode cX10_total 38 = .ok (.iload 4, 2) := by decide +kernel
theorem dX10_total_40 : decode cX10_total 40 = .ok (.bipush 45, 2) := by decide +kernel
theorem dX10_total_42 : decode cX10_total 42 = .ok (.if_icmp .eq 6, 3) := by decide +kernel
theorem dX10_total_45 : decode cX10_total 45 = .ok (.goto 45, 3) := by decide +kernel
theorem dX10_total_48 : decode cX10_total 48 = .ok (.aload_n 0, 1) := by decide +kernel
theorem dX10_total_49 : decode cX10_total 49 = .ok (.dup, 1) := by decide +kernel
theorem dX10_total_50 : decode cX10_total 50 = .ok (.getfield 41, 3) := by decide +kernel
theorem dX10_total_53 : decode cX10_total 53 = .ok (.iconst 1, 1) := by decide +kernel
theorem dX10_total_54 : decode cX10_total 54 = .ok (.iadd, 1) := by decide +kernel
theorem dX10_total_55 : decode cX10_total 55 = .ok (.putfield 41, 3) := by decide +kernel
theorem dX10_total_58 : decode cX10_total 58 = .ok (.aload_n 0, 1) := by decide +kernel
theorem dX10_total_59 : decode cX10_total 59 = .ok (.iload_n 1, 1) := by decide +kernel
theorem dX10_total_60 : decode cX10_total 60 = .ok (.invokevirtual 95, 3) := by decide +kernel
theorem dX10_total_63 : decode cX10_total 63 = .ok (.istore 5, 2) := by decide +kernel
theorem dX10_total_65 : decode cX10_total 65 = .ok (.iload 4, 2) := by decide +kernel
theorem dX10_total_67 : decode cX10_total 67 = .ok (.bipush 43, 2) := by decide +kernel
theorem dX10_total_69 : decode cX10_total 69 = .ok (.if_icmp .ne 10, 3) := by decide +kernel
theorem dX10_total_72 : decode cX10_total 72 = .ok (.iload_n 2, 1) := by decide +kernel
theorem dX10_total_73 : decode cX10_total 73 = .ok (.iload 5, 2) := by decide +kernel
theorem dX10_total_75 : decode cX10_total 75 = .ok (.iadd, 1) := by decide +kernel
theorem dX10_total_76 : decode cX10_total 76 = .ok (.goto 7, 3) := by decide +kernel
theorem dX10_total_79 : decode cX10_total 79 = .ok (.iload_n 2, 1) := by decide +kernel
theorem dX10_total_80 : decode cX10_total 80 = .ok (.iload 5, 2) := by decide +kernel
theorem dX10_total_82 : decode cX10_total 82 = .ok (.isub, 1) := by decide +kernel
theorem dX10_total_83 : decode cX10_total 83 = .ok (.istore_n 2, 1) := by decide +kernel
theorem dX10_total_84 : decode cX10_total 84 = .ok (.iinc 3 1, 3) := by decide +kernel
theorem dX10_total_87 : decode cX10_total 87 = .ok (.goto (-79), 3) := by decide +kernel
theorem dX10_total_90 : decode cX10_total 90 = .ok (.iload_n 2, 1) := by decide +kernel
theorem dX10_total_91 : decode cX10_total 91 = .ok (.ireturn, 1) := by decide +kernel
theorem dX10_product_0 : decode cX10_product 0 = .ok (.aload_n 0, 1) := by decide +kernel
theorem dX10_product_1 : decode cX10_product 1 = .ok (.iload_n 1, 1) := by decide +kernel
theorem dX10_product_2 : decode cX10_product 2 = .ok (.invokevirtual 98, 3) := by decide +kernel
theorem dX10_product_5 : decode cX10_product 5 = .ok (.istore_n 2, 1) := by decide +kernel
theorem dX10_product_6 : decode cX10_product 6 = .ok (.iconst 0, 1) := by decide +kernel
theorem dX10_product_7 : decode cX10_product 7 = .ok (.istore_n 3, 1) := by decide +kernel
theorem dX10_product_8 : decode cX10_product 8 = .ok (.iload_n 3, 1) := by decide +kernel
theorem dX10_product_9 : decode cX10_product 9 = .ok (.sipush 400, 3) := by decide +kernel
theorem dX10_product_12 : decode cX10_product 12 = .ok (.if_icmp .ge 110, 3) := by decide +kernel
theorem dX10_product_15 : decode cX10_product 15 = .ok (.aload_n 0, 1) := by decide +kernel
theorem dX10_product_16 : decode cX10_product 16 = .ok (.getfield 9, 3) := by decide +kernel
theorem dX10_product_19 : decode cX10_product 19 = .ok (.getfield 32, 3) := by decide +kernel
theorem dX10_product_22 : decode cX10_product 22 = .ok (.aload_n 0, 1) := by decide +kernel
theorem dX10_product_23 : decode cX10_product 23 = .ok (.getfield 41, 3) := by decide +kernel
theorem dX10_product_26 : decode cX10_product 26 = .ok (.invokevirtual 37, 3) := by decide +kernel
theorem dX10_product_29 : decode cX10_product 29 = .ok (.istore 4, 2) := by decide +kernel
theorem dX10_product_31 : decode cX10_product 31 = .ok (.iload 4, 2) := by decide +kernel
theorem dX10_product_33 : decode cX10_product 33 = .ok (.bipush 42, 2) := by decide +kernel
theorem dX10_product_35 : decode cX10_product 35 = .ok (.if_icmp .eq 20, 3) := by decide +kernel
theorem dX10_product_38 : decode cX10_product 38 = .ok (.iload 4, 2) := by decide +kernel
theorem dX10_product_40 : decode cX10_product 40 = .ok (.bipush 47, 2) := by decide +kernel
theorem dX10_product_42 : decode cX10_product 42 = .ok (.if_icmp .eq 13, 3) := by decide +kernel
theorem dX10_product_45 : decode cX10_product 45 = .ok (.iload 4, 2) := by decide +kernel
theorem dX10_product_47 : decode cX10_product 47 = .ok (.bipush 37, 2) := by decide +kernel
theorem dX10_product_49 : decode cX10_product 49 = .ok (.if_icmp .eq 6, 3) := by decide +kernel
theorem dX10_product_52 : decode cX10_product 52 = .ok (.goto 70, 3) := by decide +kernel
theorem dX10_product_55 : decode cX10_product 55 = .ok (.aload_n 0, 1) := by decide +kernel
theorem dX10_product_56 : decode cX10_product 56 = .ok (.dup, 1) := by decide +kernel
theorem dX10_product_57 : decode cX10_product 57 = .ok (.getfield 41, 3) := by decide +kernel
theorem dX10_product_60 : decode cX10_product 60 = .ok (.iconst 1, 1) := by decide +kernel
theorem dX10_product_61 : decode cX10_product 61 = .ok (.iadd, 1) := by decide +kernel
theorem dX10_product_62 : decode cX10_product 62 = .ok (.putfield 41, 3) := by decide +kernel
theorem dX10_product_65 : decode cX10_product 65 = .ok (.aload_n 0, 1) := by decide +kernel
theorem dX10_product_66 : decode cX10_product 66 = .ok (.iload_n 1, 1) := by decide +kernel
theorem dX10_product_67 : decode cX10_product 67 = .ok (.invokevirtual 98, 3) := by decide +kernel
theorem dX10_product_70 : decode cX10_product 70 = .ok (.istore 5, 2) := by decide +kernel
theorem dX10_product_72 : decode cX10_product 72 = .ok (.iload 4, 2) := by decide +kernel
theorem dX10_product_74 : decode cX10_product 74 = .ok (.bipush 42, 2) := by decide +kernel
theorem dX10_product_76 : decode cX10_product 76 = .ok (.if_icmp .ne 11, 3) := by decide +kernel
theorem dX10_product_79 : decode cX10_product 79 = .ok (.iload_n 2, 1) := by decide +kernel
theorem dX10_product_80 : decode cX10_product 80 = .ok (.iload 5, 2) := by decide +kernel
theorem dX10_product_82 : decode cX10_product 82 = .ok (.imul, 1) := by decide +kernel
theorem dX10_product_83 : decode cX10_product 83 = .ok (.istore_n 2, 1) := by decide +kernel
theorem dX10_product_84 : decode cX10_product 84 = .ok (.goto 32, 3) := by decide +kernel
theorem dX10_product_87 : decode cX10_product 87 = .ok (.iload 5, 2) := by decide +kernel
theorem dX10_product_89 : decode cX10_product 89 = .ok (.ifCond .ne 8, 3) := by decide +kernel
theorem dX10_product_92 : decode cX10_product 92 = .ok (.iconst 0, 1) := by decide +kernel
theorem dX10_product_93 : decode cX10_product 93 = .ok (.istore_n 2, 1) := by decide +kernel
theorem dX10_product_94 : decode cX10_product 94 = .ok (.goto 22, 3) := by decide +kernel
theorem dX10_product_97 : decode cX10_product 97 = .ok (.iload 4, 2) := by decide +kernel
theorem dX10_product_99 : decode cX10_product 99 = .ok (.bipush 47, 2) := by decide +kernel
theorem dX10_product_101 : decode cX10_product 101 = .ok (.if_icmp .ne 10, 3) := by decide +kernel
theorem dX10_product_104 : decode cX10_product 104 = .ok (.iload_n 2, 1) := by decide +kernel
theorem dX10_product_105 : decode cX10_product 105 = .ok (.iload 5, 2) := by decide +kernel
theorem dX10_product_107 : decode cX10_product 107 = .ok (.idiv, 1) := by decide +kernel
theorem dX10_product_108 : decode cX10_product 108 = .ok (.goto 7, 3) := by decide +kernel
theorem dX10_product_111 : decode cX10_product 111 = .ok (.iload_n 2, 1) := by decide +kernel
theorem dX10_product_112 : decode cX10_product 112 = .ok (.iload 5, 2) := by decide +kernel
theorem dX10_product_114 : decode cX10_product 114 = .ok (.irem, 1) := by decide +kernel
theorem dX10_product_115 : decode cX10_product 115 = .ok (.istore_n 2, 1) := by decide +kernel
theorem dX10_product_116 : decode cX10_product 116 = .ok (.iinc 3 1, 3) := by decide +kernel
theorem dX10_product_119 : decode cX10_product 119 = .ok (.goto (-111), 3) := by decide +kernel
theorem dX10_product_122 : decode cX10_product 122 = .ok (.iload_n 2, 1) := by decide +kernel
theorem dX10_product_123 : decode cX10_product 123 = .ok (.ireturn, 1) := by decide +kernel
theorem dX10_unit_0 : decode cX10_unit 0 = .ok (.aload_n 0, 1) := by decide +kernel
theorem dX10_unit_1 : decode cX10_unit 1 = .ok (.getfield 9, 3) := by decide +kernel
theorem dX10_unit_4 : decode cX10_unit 4 = .ok (.getfield 32, 3) := by decide +kernel
theorem dX10_unit_7 : decode cX10_unit 7 = .ok (.aload_n 0, 1) := by decide +kernel
theorem dX10_unit_8 : decode cX10_unit 8 = .ok (.getfield 41, 3) := by decide +kernel
theorem dX10_unit_11 : decode cX10_unit 11 = .ok (.invokevirtual 37, 3) := by decide +kernel
theorem dX10_unit_14 : decode cX10_unit 14 = .ok (.istore_n 2, 1) := by decide +kernel
theorem dX10_unit_15 : decode cX10_unit 15 = .ok (.iload_n 2, 1) := by decide +kernel
theorem dX10_unit_16 : decode cX10_unit 16 = .ok (.iconst 2, 1) := by decide +kernel
theorem dX10_unit_17 : decode cX10_unit 17 = .ok (.if_icmp .ne 20, 3) := by decide +kernel
theorem dX10_unit_20 : decode cX10_unit 20 = .ok (.aload_n 0, 1) := by decide +kernel
theorem dX10_unit_21 : decode cX10_unit 21 = .ok (.getfield 9, 3) := by decide +kernel
theorem dX10_unit_24 : decode cX10_unit 24 = .ok (.getfield 88, 3) := by decide +kernel
theorem dX10_unit_27 : decode cX10_unit 27 = .ok (.aload_n 0, 1) := by decide +kernel
theorem dX10_unit_28 : decode cX10_unit 28 = .ok (.getfield 41, 3) := by decide +kernel
theorem dX10_unit_31 : decode cX10_unit 31 = .ok (.invokevirtual 37, 3) := by decide +kernel
theorem dX10_unit_34 : decode cX10_unit 34 = .ok (.goto 8, 3) := by decide +kernel
theorem dX10_unit_37 : decode cX10_unit 37 = .ok (.aload_n 0, 1) := by decide +kernel
theorem dX10_unit_38 : decode cX10_unit 38 = .ok (.iload_n 2, 1) := by decide +kernel
theorem dX10_unit_39 : decode cX10_unit 39 = .ok (.invokevirtual 101, 3) := by decide +kernel
theorem dX10_unit_42 : decode cX10_unit 42 = .ok (.istore_n 3, 1) := by decide +kernel
theorem dX10_unit_43 : decode cX10_unit 43 = .ok (.aload_n 0, 1) := by decide +kernel
theorem dX10_unit_44 : decode cX10_unit 44 = .ok (.dup, 1) := by decide +kernel
theorem dX10_unit_45 : decode cX10_unit 45 = .ok (.getfield 41, 3) := by decide +kernel
theorem dX10_unit_48 : decode cX10_unit 48 = .ok (.iconst 1, 1) := by decide +kernel
theorem dX10_unit_49 : decode cX10_unit 49 = .ok (.iadd, 1) := by decide +kernel
theorem dX10_unit_50 : decode cX10_unit 50 = .ok (.putfield 41, 3) := by decide +kernel
theorem dX10_unit_53 : decode cX10_unit 53 = .ok (.iload_n 2, 1) := by decide +kernel
theorem dX10_unit_54 : decode cX10_unit 54 = .ok (.bipush 40, 2) := by decide +kernel
theorem dX10_unit_56 : decode cX10_unit 56 = .ok (.if_icmp .ne 27, 3) := by decide +kernel
theorem dX10_unit_59 : decode cX10_unit 59 = .ok (.iload_n 1, 1) := by decide +kernel
theorem dX10_unit_60 : decode cX10_unit 60 = .ok (.bipush 6, 2) := by decide +kernel
theorem dX10_unit_62 : decode cX10_unit 62 = .ok (.if_icmp .ge 21, 3) := by decide +kernel
theorem dX10_unit_65 : decode cX10_unit 65 = .ok (.aload_n 0, 1) := by decide +kernel
theorem dX10_unit_66 : decode cX10_unit 66 = .ok (.iload_n 1, 1) := by decide +kernel
theorem dX10_unit_67 : decode cX10_unit 67 = .ok (.iconst 1, 1) := by decide +kernel
theorem dX10_unit_68 : decode cX10_unit 68 = .ok (.iadd, 1) := by decide +kernel
theorem dX10_unit_69 : decode cX10_unit 69 = .ok (.invokevirtual 53, 3) := by decide +kernel
theorem dX10_unit_72 : decode cX10_unit 72 = .ok (.istore_n 3, 1) := by decide +kernel
theorem dX10_unit_73 : decode cX10_unit 73 = .ok (.aload_n 0, 1) := by decide +kernel
theorem dX10_unit_74 : decode cX10_unit 74 = .ok (.dup, 1) := by decide +kernel
theorem dX10_unit_75 : decode cX10_unit 75 = .ok (.getfield 41, 3) := by decide +kernel
theorem dX10_unit_78 : decode cX10_unit 78 = .ok (.iconst 1, 1) := by decide +kernel
theorem dX10_unit_79 : decode cX10_unit 79 = .ok (.iadd, 1) := by decide +kernel
theorem dX10_unit_80 : decode cX10_unit 80 = .ok (.putfield 41, 3) := by decide +kernel
theorem dX10_unit_83 : decode cX10_unit 83 = .ok (.iload_n 3, 1) := by decide +kernel
theorem dX10_unit_84 : decode cX10_unit 84 = .ok (.ireturn, 1) := by decide +kernel
theorem dX10_variable_0 : decode cX10_variable 0 = .ok (.iload_n 1, 1) := by decide +kernel
theorem dX10_variable_1 : decode cX10_variable 1 = .ok (.tableswitch 114 8 13 #[39, 56, 73, 84, 95, 100], 39) := by decide +kernel
theorem dX10_variable_40 : decode cX10_variable 40 = .ok (.aload_n 0, 1) := by decide +kernel
theorem dX10_variable_41 : decode cX10_variable 41 = .ok (.getfield 28, 3) := by decide +kernel
theorem dX10_variable_44 : decode cX10_variable 44 = .ok (.aload_n 0, 1) := by decide +kernel
theorem dX10_variable_45 : decode cX10_variable 45 = .ok (.getfield 28, 3) := by decide +kernel
theorem dX10_variable_48 : decode cX10_variable 48 = .ok (.getfield 85, 3) := by decide +kernel
theorem dX10_variable_51 : decode cX10_variable 51 = .ok (.iconst 1, 1) := by decide +kernel
theorem dX10_variable_52 : decode cX10_variable 52 = .ok (.isub, 1) := by decide +kernel
theorem dX10_variable_53 : decode cX10_variable 53 = .ok (.invokevirtual 37, 3) := by decide +kernel
theorem dX10_variable_56 : decode cX10_variable 56 = .ok (.ireturn, 1) := by decide +kernel
theorem dX10_variable_57 : decode cX10_variable 57 = .ok (.aload_n 0, 1) := by decide +kernel
theorem dX10_variable_58 : decode cX10_variable 58 = .ok (.getfield 28, 3) := by decide +kernel
theorem dX10_variable_61 : decode cX10_variable 61 = .ok (.aload_n 0, 1) := by decide +kernel
theorem dX10_variable_62 : decode cX10_variable 62 = .ok (.getfield 28, 3) := by decide +kernel
theorem dX10_variable_65 : decode cX10_variable 65 = .ok (.getfield 85, 3) := by decide +kernel
theorem dX10_variable_68 : decode cX10_variable 68 = .ok (.iconst 2, 1) := by decide +kernel
theorem dX10_variable_69 : decode cX10_variable 69 = .ok (.isub, 1) := by decide +kernel
theorem dX10_variable_70 : decode cX10_variable 70 = .ok (.invokevirtual 37, 3) := by decide +kernel
theorem dX10_variable_73 : decode cX10_variable 73 = .ok (.ireturn, 1) := by decide +kernel
theorem dX10_variable_74 : decode cX10_variable 74 = .ok (.aload_n 0, 1) := by decide +kernel
theorem dX10_variable_75 : decode cX10_variable 75 = .ok (.getfield 19, 3) := by decide +kernel
theorem dX10_variable_78 : decode cX10_variable 78 = .ok (.getfield 104, 3) := by decide +kernel
theorem dX10_variable_81 : decode cX10_variable 81 = .ok (.invokevirtual 110, 3) := by decide +kernel
theorem dX10_variable_84 : decode cX10_variable 84 = .ok (.ireturn, 1) := by decide +kernel
theorem dX10_variable_85 : decode cX10_variable 85 = .ok (.aload_n 0, 1) := by decide +kernel
theorem dX10_variable_86 : decode cX10_variable 86 = .ok (.getfield 19, 3) := by decide +kernel
theorem dX10_variable_89 : decode cX10_variable 89 = .ok (.getfield 104, 3) := by decide +kernel
theorem dX10_variable_92 : decode cX10_variable 92 = .ok (.getfield 116, 3) := by decide +kernel
theorem dX10_variable_95 : decode cX10_variable 95 = .ok (.ireturn, 1) := by decide +kernel
theorem dX10_variable_96 : decode cX10_variable 96 = .ok (.aload_n 0, 1) := by decide +kernel
theorem dX10_variable_97 : decode cX10_variable 97 = .ok (.getfield 44, 3) := by decide +kernel
theorem dX10_variable_100 : decode cX10_variable 100 = .ok (.ireturn, 1) := by decide +kernel
theorem dX10_variable_101 : decode cX10_variable 101 = .ok (.aload_n 0, 1) := by decide +kernel
theorem dX10_variable_102 : decode cX10_variable 102 = .ok (.getfield 19, 3) := by decide +kernel
theorem dX10_variable_105 : decode cX10_variable 105 = .ok (.getfield 119, 3) := by decide +kernel
theorem dX10_variable_108 : decode cX10_variable 108 = .ok (.getfield 123, 3) := by decide +kernel
theorem dX10_variable_111 : decode cX10_variable 111 = .ok (.getfield 85, 3) := by decide +kernel
theorem dX10_variable_114 : decode cX10_variable 114 = .ok (.ireturn, 1) := by decide +kernel
theorem dX10_variable_115 : decode cX10_variable 115 = .ok (.iconst 0, 1) := by decide +kernel
theorem dX10_variable_116 : decode cX10_variable 116 = .ok (.ireturn, 1) := by decide +kernel
theorem dX11_init_0 : decode cX11_init 0 = .ok (.aload_n 0, 1) := by decide +kernel
theorem dX11_init_1 : decode cX11_init 1 = .ok (.invokespecial 1, 3) := by decide +kernel
theorem dX11_init_4 : decode cX11_init 4 = .ok (.aload_n 0, 1) := by decide +kernel
theorem dX11_init_5 : decode cX11_init 5 = .ok (.new 7, 3) := by decide +kernel
theorem dX11_init_8 : decode cX11_init 8 = .ok (.dup, 1) := by decide +kernel
theorem dX11_init_9 : decode cX11_init 9 = .ok (.sipush 128, 3) := by decide +kernel
theorem dX11_init_12 : decode cX11_init 12 = .ok (.invokespecial 9, 3) := by decide +kernel
theorem dX11_init_15 : decode cX11_init 15 = .ok (.putfield 12, 3) := by decide +kernel
theorem dX11_init_18 : decode cX11_init 18 = .ok (.aload_n 0, 1) := by decide +kernel
theorem dX11_init_19 : decode cX11_init 19 = .ok (.new 18, 3) := by decide +kernel
theorem dX11_init_22 : decode cX11_init 22 = .ok (.dup, 1) := by decide +kernel
theorem dX11_init_23 : decode cX11_init 23 = .ok (.aload_n 0, 1) := by decide +kernel
theorem dX11_init_24 : decode cX11_init 24 = .ok (.getfield 12, 3) := by decide +kernel
theorem dX11_init_27 : decode cX11_init 27 = .ok (.invokespecial 20, 3) := by decide +kernel
theorem dX11_init_30 : decode cX11_init 30 = .ok (.putfield 23, 3) := by decide +kernel
theorem dX11_init_33 : decode cX11_init 33 = .ok (.aload_n 0, 1) := by decide +kernel
theorem dX11_init_34 : decode cX11_init 34 = .ok (.new 27, 3) := by decide +kernel
theorem dX11_init_37 : decode cX11_init 37 = .ok (.dup, 1) := by decide +kernel
theorem dX11_init_38 : decode cX11_init 38 = .ok (.aload_n 0, 1) := by decide +kernel
theorem dX11_init_39 : decode cX11_init 39 = .ok (.getfield 23, 3) := by decide +kernel
theorem dX11_init_42 : decode cX11_init 42 = .ok (.invokespecial 29, 3) := by decide +kernel
theorem dX11_init_45 : decode cX11_init 45 = .ok (.putfield 32, 3) := by decide +kernel
theorem dX11_init_48 : decode cX11_init 48 = .ok (.aload_n 0, 1) := by decide +kernel
theorem dX11_init_49 : decode cX11_init 49 = .ok (.new 36, 3) := by decide +kernel
theorem dX11_init_52 : decode cX11_init 52 = .ok (.dup, 1) := by decide +kernel
theorem dX11_init_53 : decode cX11_init 53 = .ok (.invokespecial 38, 3) := by decide +kernel
theorem dX11_init_56 : decode cX11_init 56 = .ok (.putfield 39, 3) := by decide +kernel
theorem dX11_init_59 : decode cX11_init 59 = .ok (.aload_n 0, 1) := by decide +kernel
theorem dX11_init_60 : decode cX11_init 60 = .ok (.new 43, 3) := by decide +kernel
theorem dX11_init_63 : decode cX11_init 63 = .ok (.dup, 1) := by decide +kernel
theorem dX11_init_64 : decode cX11_init 64 = .ok (.aload_n 0, 1) := by decide +kernel
theorem dX11_init_65 : decode cX11_init 65 = .ok (.getfield 23, 3) := by decide +kernel
theorem dX11_init_68 : decode cX11_init 68 = .ok (.aload_n 0, 1) := by decide +kernel
theorem dX11_init_69 : decode cX11_init 69 = .ok (.getfield 32, 3) := by decide +kernel
theorem dX11_init_72 : decode cX11_init 72 = .ok (.aload_n 0, 1) := by decide +kernel
theorem dX11_init_73 : decode cX11_init 73 = .ok (.getfield 39, 3) := by decide +kernel
theorem dX11_init_76 : decode cX11_init 76 = .ok (.invokespecial 45, 3) := by decide +kernel
theorem dX11_init_79 : decode cX11_init 79 = .ok (.putfield 48, 3) := by decide +kernel
theorem dX11_init_82 : decode cX11_init 82 = .ok (.aload_n 0, 1) := by decide +kernel
theorem dX11_init_83 : decode cX11_init 83 = .ok (.new 52, 3) := by decide +kernel
theorem dX11_init_86 : decode cX11_init 86 = .ok (.dup, 1) := by decide +kernel
theorem dX11_init_87 : decode cX11_init 87 = .ok (.aload_n 0, 1) := by decide +kernel
theorem dX11_init_88 : decode cX11_init 88 = .ok (.getfield 39, 3) := by decide +kernel
theorem dX11_init_91 : decode cX11_init 91 = .ok (.invokespecial 54, 3) := by decide +kernel
theorem dX11_init_94 : decode cX11_init 94 = .ok (.putfield 57, 3) := by decide +kernel
theorem dX11_init_97 : decode cX11_init 97 = .ok (.aload_n 0, 1) := by decide +kernel
theorem dX11_init_98 : decode cX11_init 98 = .ok (.new 61, 3) := by decide +kernel
theorem dX11_init_101 : decode cX11_init 101 = .ok (.dup, 1) := by decide +kernel
theorem dX11_init_102 : decode cX11_init 102 = .ok (.aload_n 0, 1) := by decide +kernel
theorem dX11_init_103 : decode cX11_init 103 = .ok (.getfield 39, 3) := by decide +kernel
theorem dX11_init_106 : decode cX11_init 106 = .ok (.getfield 63, 3) := by decide +kernel
theorem dX11_init_109 : decode cX11_init 109 = .ok (.invokespecial 67, 3) := by decide +kernel
theorem dX11_init_112 : decode cX11_init 112 = .ok (.putfield 70, 3) := by decide +kernel
theorem dX11_init_115 : decode cX11_init 115 = .ok (.aload_n 0, 1) := by decide +kernel
theorem dX11_init_116 : decode cX11_init 116 = .ok (.new 74, 3) := by decide +kernel
theorem dX11_init_119 : decode cX11_init 119 = .ok (.dup, 1) := by decide +kernel
theorem dX11_init_120 : decode cX11_init 120 = .ok (.aload_n 0, 1) := by decide +kernel
theorem dX11_init_121 : decode cX11_init 121 = .ok (.getfield 39, 3) := by decide +kernel
theorem dX11_init_124 : decode cX11_init 124 = .ok (.invokespecial 76, 3) := by decide +kernel
theorem dX11_init_127 : decode cX11_init 127 = .ok (.putfield 77, 3) := by decide +kernel
theorem dX11_init_130 : decode cX11_init 130 = .ok (.aload_n 0, 1) := by decide +kernel
theorem dX11_init_131 : decode cX11_init 131 = .ok (.iconst 3, 1) := by decide +kernel
theorem dX11_init_132 : decode cX11_init 132 = .ok (.anewarray 36, 3) := by decide +kernel
theorem dX11_init_135 : decode cX11_init 135 = .ok (.putfield 81, 3) := by decide +kernel
theorem dX11_init_138 : decode cX11_init 138 = .ok (.iconst 0, 1) := by decide +kernel
theorem dX11_init_139 : decode cX11_init 139 = .ok (.istore_n 1, 1) := by decide +kernel
theorem dX11_init_140 : decode cX11_init 140 = .ok (.iload_n 1, 1) := by decide +kernel
theorem dX11_init_141 : decode cX11_init 141 = .ok (.iconst 3, 1) := by decide +kernel
theorem dX11_init_142 : decode cX11_init 142 = .ok (.if_icmp .ge 22, 3) := by decide +kernel
theorem dX11_init_145 : decode cX11_init 145 = .ok (.aload_n 0, 1) := by decide +kernel
theorem dX11_init_146 : decode cX11_init 146 = .ok (.getfield 81, 3) := by decide +kernel
theorem dX11_init_149 : decode cX11_init 149 = .ok (.iload_n 1, 1) := by decide +kernel
theorem dX11_init_150 : decode cX11_init 150 = .ok (.new 36, 3) := by decide +kernel
theorem dX11_init_153 : decode cX11_init 153 = .ok (.dup, 1) := by decide +kernel
theorem dX11_init_154 : decode cX11_init 154 = .ok (.invokespecial 38, 3) := by decide +kernel
theorem dX11_init_157 : decode cX11_init 157 = .ok (.aastore, 1) := by decide +kernel
theorem dX11_init_158 : decode cX11_init 158 = .ok (.iinc 1 1, 3) := by decide +kernel
theorem dX11_init_161 : decode cX11_init 161 = .ok (.goto (-21), 3) := by decide +kernel
theorem dX11_init_164 : decode cX11_init 164 = .ok (.aload_n 0, 1) := by decide +kernel
theorem dX11_init_165 : decode cX11_init 165 = .ok (.iconst (-1), 1) := by decide +kernel
theorem dX11_init_166 : decode cX11_init 166 = .ok (.putfield 85, 3) := by decide +kernel
theorem dX11_init_169 : decode cX11_init 169 = .ok (.aload_n 0, 1) := by decide +kernel
theorem dX11_init_170 : decode cX11_init 170 = .ok (.iconst 0, 1) := by decide +kernel
theorem dX11_init_171 : decode cX11_init 171 = .ok (.putfield 89, 3) := by decide +kernel
theorem dX11_init_174 : decode cX11_init 174 = .ok (.aload_n 0, 1) := by decide +kernel
theorem dX11_init_175 : decode cX11_init 175 = .ok (.iconst 0, 1) := by decide +kernel
theorem dX11_init_176 : decode cX11_init 176 = .ok (.putfield 92, 3) := by decide +kernel
theorem dX11_init_179 : decode cX11_init 179 = .ok (.aload_n 0, 1) := by decide +kernel
theorem dX11_init_180 : decode cX11_init 180 = .ok (.getfield 39, 3) := by decide +kernel
theorem dX11_init_183 : decode cX11_init 183 = .ok (.bipush 8, 2) := by decide +kernel
theorem dX11_init_185 : decode cX11_init 185 = .ok (.invokevirtual 95, 3) := by decide +kernel
theorem dX11_init_188 : decode cX11_init 188 = .ok (.return_, 1) := by decide +kernel
theorem dX11_feed_0 : decode cX11_feed 0 = .ok (.aload_n 0, 1) := by decide +kernel
theorem dX11_feed_1 : decode cX11_feed 1 = .ok (.getfield 12, 3) := by decide +kernel
theorem dX11_feed_4 : decode cX11_feed 4 = .ok (.getfield 98, 3) := by decide +kernel
theorem dX11_feed_7 : decode cX11_feed 7 = .ok (.bipush 20, 2) := by decide +kernel
theorem dX11_feed_9 : decode cX11_feed 9 = .ok (.iadd, 1) := by decide +kernel
theorem dX11_feed_10 : decode cX11_feed 10 = .ok (.sipush 2000, 3) := by decide +kernel
theorem dX11_feed_13 : decode cX11_feed 13 = .ok (.if_icmp .le 5, 3) := by decide +kernel
theorem dX11_feed_16 : decode cX11_feed 16 = .ok (.iconst (-1), 1) := by decide +kernel
theorem dX11_feed_17 : decode cX11_feed 17 = .ok (.ireturn, 1) := by decide +kernel
theorem dX11_feed_18 : decode cX11_feed 18 = .ok (.aload_n 0, 1) := by decide +kernel
theorem dX11_feed_19 : decode cX11_feed 19 = .ok (.iload_n 1, 1) := by decide +kernel
theorem dX11_feed_20 : decode cX11_feed 20 = .ok (.invokevirtual 101, 3) := by decide +kernel
theorem dX11_feed_23 : decode cX11_feed 23 = .ok (.aload_n 0, 1) := by decide +kernel
theorem dX11_feed_24 : decode cX11_feed 24 = .ok (.iload_n 2, 1) := by decide +kernel
theorem dX11_feed_25 : decode cX11_feed 25 = .ok (.invokevirtual 101, 3) := by decide +kernel
theorem dX11_feed_28 : decode cX11_feed 28 = .ok (.aload_n 0, 1) := by decide +kernel
theorem dX11_feed_29 : decode cX11_feed 29 = .ok (.iload_n 3, 1) := by decide +kernel
theorem dX11_feed_30 : decode cX11_feed 30 = .ok (.invokevirtual 101, 3) := by decide +kernel
theorem dX11_feed_33 : decode cX11_feed 33 = .ok (.aload_n 0, 1) := by decide +kernel
theorem dX11_feed_34 : decode cX11_feed 34 = .ok (.iload 4, 2) := by decide +kernel
theorem dX11_feed_36 : decode cX11_feed 36 = .ok (.invokevirtual 101, 3) := by decide +kernel
theorem dX11_feed_39 : decode cX11_feed 39 = .ok (.aload_n 0, 1) := by decide +kernel
theorem dX11_feed_40 : decode cX11_feed 40 = .ok (.iload 5, 2) := by decide +kernel
theorem dX11_feed_42 : decode cX11_feed 42 = .ok (.invokevirtual 101, 3) := by decide +kernel
theorem dX11_feed_45 : decode cX11_feed 45 = .ok (.aload_n 0, 1) := by decide +kernel
theorem dX11_feed_46 : decode cX11_feed 46 = .ok (.getfield 12, 3) := by decide +kernel
theorem dX11_feed_49 : decode cX11_feed 49 = .ok (.getfield 98, 3) := by decide +kernel
theorem dX11_feed_52 : decode cX11_feed 52 = .ok (.ireturn, 1) := by decide +kernel
theorem dX11_back_0 : decode cX11_back 0 = .ok (.iload_n 1, 1) := by decide +kernel
theorem dX11_back_1 : decode cX11_back 1 = .ok (.ifCond .lt 14, 3) := by decide +kernel
theorem dX11_back_4 : decode cX11_back 4 = .ok (.iload_n 1, 1) := by decide +kernel
theorem dX11_back_5 : decode cX11_back 5 = .ok (.aload_n 0, 1) := by decide +kernel
theorem dX11_back_6 : decode cX11_back 6 = .ok (.getfield 12, 3) := by decide +kernel
theorem dX11_back_9 : decode cX11_back 9 = .ok (.getfield 98, 3) := by decide +kernel
theorem dX11_back_12 : decode cX11_back 12 = .ok (.if_icmp .le 5, 3) := by decide +kernel
theorem dX11_back_15 : decode cX11_back 15 = .ok (.iconst (-1), 1) := by decide +kernel
theorem dX11_back_16 : decode cX11_back 16 = .ok (.ireturn, 1) := by decide +kernel
theorem dX11_back_17 : decode cX11_back 17 = .ok (.aload_n 0, 1) := by decide +kernel
theorem dX11_back_18 : decode cX11_back 18 = .ok (.getfield 12, 3) := by decide +kernel
theorem dX11_back_21 : decode cX11_back 21 = .ok (.aload_n 0, 1) := by decide +kernel
theorem dX11_back_22 : decode cX11_back 22 = .ok (.getfield 12, 3) := by decide +kernel
theorem dX11_back_25 : decode cX11_back 25 = .ok (.getfield 98, 3) := by decide +kernel
theorem dX11_back_28 : decode cX11_back 28 = .ok (.iload_n 1, 1) := by decide +kernel
theorem dX11_back_29 : decode cX11_back 29 = .ok (.isub, 1) := by decide +kernel
theorem dX11_back_30 : decode cX11_back 30 = .ok (.invokevirtual 104, 3) := by decide +kernel
theorem dX11_back_33 : decode cX11_back 33 = .ok (.aload_n 0, 1) := by decide +kernel
theorem dX11_back_34 : decode cX11_back 34 = .ok (.getfield 12, 3) := by decide +kernel
theorem dX11_back_37 : decode cX11_back 37 = .ok (.getfield 98, 3) := by decide +kernel
theorem dX11_back_40 : decode cX11_back 40 = .ok (.ireturn, 1) := by decide +kernel
theorem dX11_read_0 : decode cX11_read 0 = .ok (.aload_n 0, 1) := by decide +kernel
theorem dX11_read_1 : decode cX11_read 1 = .ok (.getfield 23, 3) := by decide +kernel
theorem dX11_read_4 : decode cX11_read 4 = .ok (.invokevirtual 107, 3) := by decide +kernel
theorem dX11_read_7 : decode cX11_read 7 = .ok (.aload_n 0, 1) := by decide +kernel
theorem dX11_read_8 : decode cX11_read 8 = .ok (.getfield 32, 3) := by decide +kernel
theorem dX11_read_11 : decode cX11_read 11 = .ok (.invokevirtual 110, 3) := by decide +kernel
theorem dX11_read_14 : decode cX11_read 14 = .ok (.aload_n 0, 1) := by decide +kernel
theorem dX11_read_15 : decode cX11_read 15 = .ok (.getfield 12, 3) := by decide +kernel
theorem dX11_read_18 : decode cX11_read 18 = .ok (.iconst 0, 1) := by decide +kernel
theorem dX11_read_19 : decode cX11_read 19 = .ok (.invokevirtual 104, 3) := by decide +kernel
theorem dX11_read_22 : decode cX11_read 22 = .ok (.aload_n 0, 1) := by decide +kernel
theorem dX11_read_23 : decode cX11_read 23 = .ok (.aload_n 0, 1) := by decide +kernel
theorem dX11_read_24 : decode cX11_read 24 = .ok (.getfield 32, 3) := by decide +kernel
theorem dX11_read_27 : decode cX11_read 27 = .ok (.getfield 113, 3) := by decide +kernel
theorem dX11_read_30 : decode cX11_read 30 = .ok (.putfield 85, 3) := by decide +kernel
theorem dX11_read_33 : decode cX11_read 33 = .ok (.aload_n 0, 1) := by decide +kernel
theorem dX11_read_34 : decode cX11_read 34 = .ok (.getfield 32, 3) := by decide +kernel
theorem dX11_read_37 : decode cX11_read 37 = .ok (.getfield 114, 3) := by decide +kernel
theorem dX11_read_40 : decode cX11_read 40 = .ok (.ifCond .eq 11, 3) := by decide +kernel
theorem dX11_read_43 : decode cX11_read 43 = .ok (.aload_n 0, 1) := by decide +kernel
theorem dX11_read_44 : decode cX11_read 44 = .ok (.getfield 32, 3) := by decide +kernel
theorem dX11_read_47 : decode cX11_read 47 = .ok (.getfield 114, 3) := by decide +kernel
theorem dX11_read_50 : decode cX11_read 50 = .ok (.ireturn, 1) := by decide +kernel
theorem dX11_read_51 : decode cX11_read 51 = .ok (.aload_n 0, 1) := by decide +kernel
theorem dX11_read_52 : decode cX11_read 52 = .ok (.getfield 39, 3) := by decide +kernel
theorem dX11_read_55 : decode cX11_read 55 = .ok (.aload_n 0, 1) := by decide +kernel
theorem dX11_read_56 : decode cX11_read 56 = .ok (.getfield 32, 3) := by decide +kernel
theorem dX11_read_59 : decode cX11_read 59 = .ok (.getfield 117, 3) := by decide +kernel
theorem dX11_read_62 : decode cX11_read 62 = .ok (.invokevirtual 95, 3) := by decide +kernel
theorem dX11_read_65 : decode cX11_read 65 = .ok (.aload_n 0, 1) := by decide +kernel
theorem dX11_read_66 : decode cX11_read 66 = .ok (.invokevirtual 120, 3) := by decide +kernel
theorem dX11_read_69 : decode cX11_read 69 = .ok (.aload_n 0, 1) := by decide +kernel
theorem dX11_read_70 : decode cX11_read 70 = .ok (.invokevirtual 123, 3) := by decide +kernel
theorem dX11_read_73 : decode cX11_read 73 = .ok (.iconst 0, 1) := by decide +kernel
theorem dX11_read_74 : decode cX11_read 74 = .ok (.ireturn, 1) := by decide +kernel
theorem dX11_place_0 : decode cX11_place 0 = .ok (.aload_n 0, 1) := by decide +kernel
theorem dX11_place_1 : decode cX11_place 1 = .ok (.getfield 85, 3) := by decide +kernel
theorem dX11_place_4 : decode cX11_place 4 = .ok (.ireturn, 1) := by decide +kernel
theorem dX11_put_0 : decode cX11_put 0 = .ok (.iload_n 1, 1) := by decide +kernel
theorem dX11_put_1 : decode cX11_put 1 = .ok (.invokestatic 126, 3) := by decide +kernel
theorem dX11_put_4 : decode cX11_put 4 = .ok (.ifCond .eq 28, 3) := by decide +kernel
theorem dX11_put_7 : decode cX11_put 7 = .ok (.aload_n 0, 1) := by decide +kernel
theorem dX11_put_8 : decode cX11_put 8 = .ok (.getfield 57, 3) := by decide +kernel
theorem dX11_put_11 : decode cX11_put 11 = .ok (.iload_n 1, 1) := by decide +kernel
theorem dX11_put_12 : decode cX11_put 12 = .ok (.iload_n 2, 1) := by decide +kernel
theorem dX11_put_13 : decode cX11_put 13 = .ok (.invokevirtual 130, 3) := by decide +kernel
theorem dX11_put_16 : decode cX11_put 16 = .ok (.ifCond .eq 16, 3) := by decide +kernel
theorem dX11_put_19 : decode cX11_put 19 = .ok (.aload_n 0, 1) := by decide +kernel
theorem dX11_put_20 : decode cX11_put 20 = .ok (.getfield 39, 3) := by decide +kernel
theorem dX11_put_23 : decode cX11_put 23 = .ok (.getfield 63, 3) := by decide +kernel
theorem dX11_put_26 : decode cX11_put 26 = .ok (.invokevirtual 134, 3) := by decide +kernel
theorem dX11_put_29 : decode cX11_put 29 = .ok (.goto 4, 3) := by decide +kernel
theorem dX11_put_32 : decode cX11_put 32 = .ok (.iconst (-1), 1) := by decide +kernel
theorem dX11_put_33 : decode cX11_put 33 = .ok (.ireturn, 1) := by decide +kernel
theorem dX11_cut_0 : decode cX11_cut 0 = .ok (.iload_n 1, 1) := by decide +kernel
theorem dX11_cut_1 : decode cX11_cut 1 = .ok (.invokestatic 126, 3) := by decide +kernel
theorem dX11_cut_4 : decode cX11_cut 4 = .ok (.ifCond .eq 27, 3) := by decide +kernel
theorem dX11_cut_7 : decode cX11_cut 7 = .ok (.aload_n 0, 1) := by decide +kernel
theorem dX11_cut_8 : decode cX11_cut 8 = .ok (.getfield 57, 3) := by decide +kernel
theorem dX11_cut_11 : decode cX11_cut 11 = .ok (.iload_n 1, 1) := by decide +kernel
theorem dX11_cut_12 : decode cX11_cut 12 = .ok (.invokevirtual 140, 3) := by decide +kernel
theorem dX11_cut_15 : decode cX11_cut 15 = .ok (.ifCond .eq 16, 3) := by decide +kernel
theorem dX11_cut_18 : decode cX11_cut 18 = .ok (.aload_n 0, 1) := by decide +kernel
theorem dX11_cut_19 : decode cX11_cut 19 = .ok (.getfield 39, 3) := by decide +kernel
theorem dX11_cut_22 : decode cX11_cut 22 = .ok (.getfield 63, 3) := by decide +kernel
theorem dX11_cut_25 : decode cX11_cut 25 = .ok (.invokevirtual 134, 3) := by decide +kernel
theorem dX11_cut_28 : decode cX11_cut 28 = .ok (.goto 4, 3) := by decide +kernel
theorem dX11_cut_31 : decode cX11_cut 31 = .ok (.iconst (-1), 1) := by decide +kernel
theorem dX11_cut_32 : decode cX11_cut 32 = .ok (.ireturn, 1) := by decide +kernel
theorem dX11_has_0 : decode cX11_has 0 = .ok (.iload_n 1, 1) := by decide +kernel
theorem dX11_has_1 : decode cX11_has 1 = .ok (.invokestatic 126, 3) := by decide +kernel
theorem dX11_has_4 : decode cX11_has 4 = .ok (.ifCond .eq 11, 3) := by decide +kernel
theorem dX11_has_7 : decode cX11_has 7 = .ok (.aload_n 0, 1) := by decide +kernel
theorem dX11_has_8 : decode cX11_has 8 = .ok (.iload_n 2, 1) := by decide +kernel
theorem dX11_has_9 : decode cX11_has 9 = .ok (.invokevirtual 143, 3) := by decide +kernel
theorem dX11_has_12 : decode cX11_has 12 = .ok (.ifCond .ne 5, 3) := by decide +kernel
theorem dX11_has_15 : decode cX11_has 15 = .ok (.iconst (-1), 1) := by decide +kernel
theorem dX11_has_16 : decode cX11_has 16 = .ok (.ireturn, 1) := by decide +kernel
theorem dX11_has_17 : decode cX11_has 17 = .ok (.aload_n 0, 1) := by decide +kernel
theorem dX11_has_18 : decode cX11_has 18 = .ok (.getfield 39, 3) := by decide +kernel
theorem dX11_has_21 : decode cX11_has 21 = .ok (.getfield 63, 3) := by decide +kernel
theorem dX11_has_24 : decode cX11_has 24 = .ok (.iload_n 1, 1) := by decide +kernel
theorem dX11_has_25 : decode cX11_has 25 = .ok (.iload_n 2, 1) := by decide +kernel
theorem dX11_has_26 : decode cX11_has 26 = .ok (.invokevirtual 146, 3) := by decide +kernel
theorem dX11_has_29 : decode cX11_has 29 = .ok (.iconst (-1), 1) := by decide +kernel
theorem dX11_has_30 : decode cX11_has 30 = .ok (.if_icmp .ne 7, 3) := by decide +kernel
theorem dX11_has_33 : decode cX11_has 33 = .ok (.iconst 0, 1) := by decide +kernel
theorem dX11_has_34 : decode cX11_has 34 = .ok (.goto 4, 3) := by decide +kernel
theorem dX11_has_37 : decode cX11_has 37 = .ok (.iconst 1, 1) := by decide +kernel
theorem dX11_has_38 : decode cX11_has 38 = .ok (.ireturn, 1) := by decide +kernel
theorem dX11_value_0 : decode cX11_value 0 = .ok (.iload_n 1, 1) := by decide +kernel
theorem dX11_value_1 : decode cX11_value 1 = .ok (.invokestatic 126, 3) := by decide +kernel
theorem dX11_value_4 : decode cX11_value 4 = .ok (.ifCond .eq 11, 3) := by decide +kernel
theorem dX11_value_7 : decode cX11_value 7 = .ok (.aload_n 0, 1) := by decide +kernel
theorem dX11_value_8 : decode cX11_value 8 = .ok (.iload_n 2, 1) := by decide +kernel
theorem dX11_value_9 : decode cX11_value 9 = .ok (.invokevirtual 143, 3) := by decide +kernel
theorem dX11_value_12 : decode cX11_value 12 = .ok (.ifCond .ne 5, 3) := by decide +kernel
theorem dX11_value_15 : decode cX11_value 15 = .ok (.iconst 0, 1) := by decide +kernel
theorem dX11_value_16 : decode cX11_value 16 = .ok (.ireturn, 1) := by decide +kernel
theorem dX11_value_17 : decode cX11_value 17 = .ok (.aload_n 0, 1) := by decide +kernel
theorem dX11_value_18 : decode cX11_value 18 = .ok (.getfield 39, 3) := by decide +kernel
theorem dX11_value_21 : decode cX11_value 21 = .ok (.getfield 63, 3) := by decide +kernel
theorem dX11_value_24 : decode cX11_value 24 = .ok (.iload_n 1, 1) := by decide +kernel
theorem dX11_value_25 : decode cX11_value 25 = .ok (.iload_n 2, 1) := by decide +kernel
theorem dX11_value_26 : decode cX11_value 26 = .ok (.invokevirtual 146, 3) := by decide +kernel
theorem dX11_value_29 : decode cX11_value 29 = .ok (.istore_n 3, 1) := by decide +kernel
theorem dX11_value_30 : decode cX11_value 30 = .ok (.iload_n 3, 1) := by decide +kernel
theorem dX11_value_31 : decode cX11_value 31 = .ok (.iconst (-1), 1) := by decide +kernel
theorem dX11_value_32 : decode cX11_value 32 = .ok (.if_icmp .ne 7, 3) := by decide +kernel
theorem dX11_value_35 : decode cX11_value 35 = .ok (.iconst 0, 1) := by decide +kernel
theorem dX11_value_36 : decode cX11_value 36 = .ok (.goto 17, 3) := by decide +kernel
theorem dX11_value_39 : decode cX11_value 39 = .ok (.aload_n 0, 1) := by decide +kernel
theorem dX11_value_40 : decode cX11_value 40 = .ok (.getfield 39, 3) := by decide +kernel
theorem dX11_value_43 : decode cX11_value 43 = .ok (.getfield 63, 3) := by decide +kernel
theorem dX11_value_46 : decode cX11_value 46 = .ok (.getfield 150, 3) := by decide +kernel
theorem dX11_value_49 : decode cX11_value 49 = .ok (.iload_n 3, 1) := by decide +kernel
theorem dX11_value_50 : decode cX11_value 50 = .ok (.invokevirtual 153, 3) := by decide +kernel
theorem dX11_value_53 : decode cX11_value 53 = .ok (.ireturn, 1) := by decide +kernel
theorem dX11_since_0 : decode cX11_since 0 = .ok (.iload_n 1, 1) := by decide +kernel
theorem dX11_since_1 : decode cX11_since 1 = .ok (.invokestatic 126, 3) := by decide +kernel
theorem dX11_since_4 : decode cX11_since 4 = .ok (.ifCond .eq 11, 3) := by decide +kernel
theorem dX11_since_7 : decode cX11_since 7 = .ok (.aload_n 0, 1) := by decide +kernel
theorem dX11_since_8 : decode cX11_since 8 = .ok (.iload_n 2, 1) := by decide +kernel
theorem dX11_since_9 : decode cX11_since 9 = .ok (.invokevirtual 143, 3) := by decide +kernel
theorem dX11_since_12 : decode cX11_since 12 = .ok (.ifCond .ne 5, 3) := by decide +kernel
theorem dX11_since_15 : decode cX11_since 15 = .ok (.iconst (-1), 1) := by decide +kernel
theorem dX11_since_16 : decode cX11_since 16 = .ok (.ireturn, 1) := by decide +kernel
theorem dX11_since_17 : decode cX11_since 17 = .ok (.aload_n 0, 1) := by decide +kernel
theorem dX11_since_18 : decode cX11_since 18 = .ok (.getfield 39, 3) := by decide +kernel
theorem dX11_since_21 : decode cX11_since 21 = .ok (.getfield 63, 3) := by decide +kernel
theorem dX11_since_24 : decode cX11_since 24 = .ok (.iload_n 1, 1) := by decide +kernel
theorem dX11_since_25 : decode cX11_since 25 = .ok (.iload_n 2, 1) := by decide +kernel
theorem dX11_since_26 : decode cX11_since 26 = .ok (.invokevirtual 146, 3) := by decide +kernel
theorem dX11_since_29 : decode cX11_since 29 = .ok (.istore_n 3, 1) := by decide +kernel
theorem dX11_since_30 : decode cX11_since 30 = .ok (.iload_n 3, 1) := by decide +kernel
theorem dX11_since_31 : decode cX11_since 31 = .ok (.iconst (-1), 1) := by decide +kernel
theorem dX11_since_32 : decode cX11_since 32 = .ok (.if_icmp .ne 8, 3) := by decide +kernel
theorem dX11_since_35 : decode cX11_since 35 = .ok (.bipush (-2), 2) := by decide +kernel
theorem dX11_since_37 : decode cX11_since 37 = .ok (.goto 4, 3) := by decide +kernel
theorem dX11_since_40 : decode cX11_since 40 = .ok (.iload_n 3, 1) := by decide +kernel
theorem dX11_since_41 : decode cX11_since 41 = .ok (.ireturn, 1) := by decide +kernel
theorem dX11_many_0 : decode cX11_many 0 = .ok (.iload_n 1, 1) := by decide +kernel
theorem dX11_many_1 : decode cX11_many 1 = .ok (.iload_n 2, 1) := by decide +kernel
theorem dX11_many_2 : decode cX11_many 2 = .ok (.invokestatic 157, 3) := by decide +kernel
theorem dX11_many_5 : decode cX11_many 5 = .ok (.ifCond .eq 24, 3) := by decide +kernel
theorem dX11_many_8 : decode cX11_many 8 = .ok (.aload_n 0, 1) := by decide +kernel
theorem dX11_many_9 : decode cX11_many 9 = .ok (.iload_n 3, 1) := by decide +kernel
theorem dX11_many_10 : decode cX11_many 10 = .ok (.invokevirtual 143, 3) := by decide +kernel
theorem dX11_many_13 : decode cX11_many 13 = .ok (.ifCond .eq 16, 3) := by decide +kernel
theorem dX11_many_16 : decode cX11_many 16 = .ok (.aload_n 0, 1) := by decide +kernel
theorem dX11_many_17 : decode cX11_many 17 = .ok (.getfield 70, 3) := by decide +kernel
theorem dX11_many_20 : decode cX11_many 20 = .ok (.iload_n 1, 1) := by decide +kernel
theorem dX11_many_21 : decode cX11_many 21 = .ok (.iload_n 2, 1) := by decide +kernel
theorem dX11_many_22 : decode cX11_many 22 = .ok (.iload_n 3, 1) := by decide +kernel
theorem dX11_many_23 : decode cX11_many 23 = .ok (.invokevirtual 160, 3) := by decide +kernel
theorem dX11_many_26 : decode cX11_many 26 = .ok (.goto 4, 3) := by decide +kernel
theorem dX11_many_29 : decode cX11_many 29 = .ok (.iconst (-1), 1) := by decide +kernel
theorem dX11_many_30 : decode cX11_many 30 = .ok (.ireturn, 1) := by decide +kernel
theorem dX11_sum_0 : decode cX11_sum 0 = .ok (.iload_n 1, 1) := by decide +kernel
theorem dX11_sum_1 : decode cX11_sum 1 = .ok (.iload_n 2, 1) := by decide +kernel
theorem dX11_sum_2 : decode cX11_sum 2 = .ok (.invokestatic 157, 3) := by decide +kernel
theorem dX11_sum_5 : decode cX11_sum 5 = .ok (.ifCond .eq 24, 3) := by decide +kernel
theorem dX11_sum_8 : decode cX11_sum 8 = .ok (.aload_n 0, 1) := by decide +kernel
theorem dX11_sum_9 : decode cX11_sum 9 = .ok (.iload_n 3, 1) := by decide +kernel
theorem dX11_sum_10 : decode cX11_sum 10 = .ok (.invokevirtual 143, 3) := by decide +kernel
theorem dX11_sum_13 : decode cX11_sum 13 = .ok (.ifCond .eq 16, 3) := by decide +kernel
theorem dX11_sum_16 : decode cX11_sum 16 = .ok (.aload_n 0, 1) := by decide +kernel
theorem dX11_sum_17 : decode cX11_sum 17 = .ok (.getfield 70, 3) := by decide +kernel
theorem dX11_sum_20 : decode cX11_sum 20 = .ok (.iload_n 1, 1) := by decide +kernel
theorem dX11_sum_21 : decode cX11_sum 21 = .ok (.iload_n 2, 1) := by decide +kernel
theorem dX11_sum_22 : decode cX11_sum 22 = .ok (.iload_n 3, 1) := by decide +kernel
theorem dX11_sum_23 : decode cX11_sum 23 = .ok (.invokevirtual 164, 3) := by decide +kernel
theorem dX11_sum_26 : decode cX11_sum 26 = .ok (.goto 4, 3) := by decide +kernel
theorem dX11_sum_29 : decode cX11_sum 29 = .ok (.iconst 0, 1) := by decide +kernel
theorem dX11_sum_30 : decode cX11_sum 30 = .ok (.ireturn, 1) := by decide +kernel
theorem dX11_nth_0 : decode cX11_nth 0 = .ok (.iload_n 1, 1) := by decide +kernel
theorem dX11_nth_1 : decode cX11_nth 1 = .ok (.ifCond .lt 23, 3) := by decide +kernel
theorem dX11_nth_4 : decode cX11_nth 4 = .ok (.aload_n 0, 1) := by decide +kernel
theorem dX11_nth_5 : decode cX11_nth 5 = .ok (.iload_n 2, 1) := by decide +kernel
theorem dX11_nth_6 : decode cX11_nth 6 = .ok (.invokevirtual 143, 3) := by decide +kernel
theorem dX11_nth_9 : decode cX11_nth 9 = .ok (.ifCond .eq 15, 3) := by decide +kernel
theorem dX11_nth_12 : decode cX11_nth 12 = .ok (.aload_n 0, 1) := by decide +kernel
theorem dX11_nth_13 : decode cX11_nth 13 = .ok (.getfield 70, 3) := by decide +kernel
theorem dX11_nth_16 : decode cX11_nth 16 = .ok (.iload_n 1, 1) := by decide +kernel
theorem dX11_nth_17 : decode cX11_nth 17 = .ok (.iload_n 2, 1) := by decide +kernel
theorem dX11_nth_18 : decode cX11_nth 18 = .ok (.invokevirtual 167, 3) := by decide +kernel
theorem dX11_nth_21 : decode cX11_nth 21 = .ok (.goto 4, 3) := by decide +kernel
theorem dX11_nth_24 : decode cX11_nth 24 = .ok (.iconst (-1), 1) := by decide +kernel
theorem dX11_nth_25 : decode cX11_nth 25 = .ok (.ireturn, 1) := by decide +kernel
theorem dX11_next_0 : decode cX11_next 0 = .ok (.iload_n 1, 1) := by decide +kernel
theorem dX11_next_1 : decode cX11_next 1 = .ok (.invokestatic 126, 3) := by decide +kernel
theorem dX11_next_4 : decode cX11_next 4 = .ok (.ifCond .eq 23, 3) := by decide +kernel
theorem dX11_next_7 : decode cX11_next 7 = .ok (.aload_n 0, 1) := by decide +kernel
theorem dX11_next_8 : decode cX11_next 8 = .ok (.iload_n 2, 1) := by decide +kernel
theorem dX11_next_9 : decode cX11_next 9 = .ok (.invokevirtual 143, 3) := by decide +kernel
theorem dX11_next_12 : decode cX11_next 12 = .ok (.ifCond .eq 15, 3) := by decide +kernel
theorem dX11_next_15 : decode cX11_next 15 = .ok (.aload_n 0, 1) := by decide +kernel
theorem dX11_next_16 : decode cX11_next 16 = .ok (.getfield 70, 3) := by decide +kernel
theorem dX11_next_19 : decode cX11_next 19 = .ok (.iload_n 1, 1) := by decide +kernel
theorem dX11_next_20 : decode cX11_next 20 = .ok (.iload_n 2, 1) := by decide +kernel
theorem dX11_next_21 : decode cX11_next 21 = .ok (.invokevirtual 170, 3) := by decide +kernel
theorem dX11_next_24 : decode cX11_next 24 = .ok (.goto 4, 3) := by decide +kernel
theorem dX11_next_27 : decode cX11_next 27 = .ok (.iconst (-1), 1) := by decide +kernel
theorem dX11_next_28 : decode cX11_next 28 = .ok (.ireturn, 1) := by decide +kernel
theorem dX11_prior_0 : decode cX11_prior 0 = .ok (.iload_n 1, 1) := by decide +kernel
theorem dX11_prior_1 : decode cX11_prior 1 = .ok (.invokestatic 126, 3) := by decide +kernel
theorem dX11_prior_4 : decode cX11_prior 4 = .ok (.ifCond .eq 23, 3) := by decide +kernel
theorem dX11_prior_7 : decode cX11_prior 7 = .ok (.aload_n 0, 1) := by decide +kernel
theorem dX11_prior_8 : decode cX11_prior 8 = .ok (.iload_n 2, 1) := by decide +kernel
theorem dX11_prior_9 : decode cX11_prior 9 = .ok (.invokevirtual 143, 3) := by decide +kernel
theorem dX11_prior_12 : decode cX11_prior 12 = .ok (.ifCond .eq 15, 3) := by decide +kernel
theorem dX11_prior_15 : decode cX11_prior 15 = .ok (.aload_n 0, 1) := by decide +kernel
theorem dX11_prior_16 : decode cX11_prior 16 = .ok (.getfield 70, 3) := by decide +kernel
theorem dX11_prior_19 : decode cX11_prior 19 = .ok (.iload_n 1, 1) := by decide +kernel
theorem dX11_prior_20 : decode cX11_prior 20 = .ok (.iload_n 2, 1) := by decide +kernel
theorem dX11_prior_21 : decode cX11_prior 21 = .ok (.invokevirtual 173, 3) := by decide +kernel
theorem dX11_prior_24 : decode cX11_prior 24 = .ok (.goto 4, 3) := by decide +kernel
theorem dX11_prior_27 : decode cX11_prior 27 = .ok (.iconst (-1), 1) := by decide +kernel
theorem dX11_prior_28 : decode cX11_prior 28 = .ok (.ireturn, 1) := by decide +kernel
theorem dX11_differ_0 : decode cX11_differ 0 = .ok (.iload_n 1, 1) := by decide +kernel
theorem dX11_differ_1 : decode cX11_differ 1 = .ok (.iload_n 2, 1) := by decide +kernel
theorem dX11_differ_2 : decode cX11_differ 2 = .ok (.invokestatic 157, 3) := by decide +kernel
theorem dX11_differ_5 : decode cX11_differ 5 = .ok (.ifCond .eq 35, 3) := by decide +kernel
theorem dX11_differ_8 : decode cX11_differ 8 = .ok (.aload_n 0, 1) := by decide +kernel
theorem dX11_differ_9 : decode cX11_differ 9 = .ok (.iload_n 3, 1) := by decide +kernel
theorem dX11_differ_10 : decode cX11_differ 10 = .ok (.invokevirtual 143, 3) := by decide +kernel
theorem dX11_differ_13 : decode cX11_differ 13 = .ok (.ifCond .eq 27, 3) := by decide +kernel
theorem dX11_differ_16 : decode cX11_differ 16 = .ok (.aload_n 0, 1) := by decide +kernel
theorem dX11_differ_17 : decode cX11_differ 17 = .ok (.iload 4, 2) := by decide +kernel
theorem dX11_differ_19 : decode cX11_differ 19 = .ok (.invokevirtual 143, 3) := by decide +kernel
theorem dX11_differ_22 : decode cX11_differ 22 = .ok (.ifCond .eq 18, 3) := by decide +kernel
theorem dX11_differ_25 : decode cX11_differ 25 = .ok (.aload_n 0, 1) := by decide +kernel
theorem dX11_differ_26 : decode cX11_differ 26 = .ok (.getfield 70, 3) := by decide +kernel
theorem dX11_differ_29 : decode cX11_differ 29 = .ok (.iload_n 1, 1) := by decide +kernel
theorem dX11_differ_30 : decode cX11_differ 30 = .ok (.iload_n 2, 1) := by decide +kernel
theorem dX11_differ_31 : decode cX11_differ 31 = .ok (.iload_n 3, 1) := by decide +kernel
theorem dX11_differ_32 : decode cX11_differ 32 = .ok (.iload 4, 2) := by decide +kernel
theorem dX11_differ_34 : decode cX11_differ 34 = .ok (.invokevirtual 176, 3) := by decide +kernel
theorem dX11_differ_37 : decode cX11_differ 37 = .ok (.goto 4, 3) := by decide +kernel
theorem dX11_differ_40 : decode cX11_differ 40 = .ok (.iconst (-1), 1) := by decide +kernel
theorem dX11_differ_41 : decode cX11_differ 41 = .ok (.ireturn, 1) := by decide +kernel
theorem dX11_ever_0 : decode cX11_ever 0 = .ok (.iload_n 1, 1) := by decide +kernel
theorem dX11_ever_1 : decode cX11_ever 1 = .ok (.iload_n 2, 1) := by decide +kernel
theorem dX11_ever_2 : decode cX11_ever 2 = .ok (.invokestatic 157, 3) := by decide +kernel
theorem dX11_ever_5 : decode cX11_ever 5 = .ok (.ifCond .eq 28, 3) := by decide +kernel
theorem dX11_ever_8 : decode cX11_ever 8 = .ok (.aload_n 0, 1) := by decide +kernel
theorem dX11_ever_9 : decode cX11_ever 9 = .ok (.iload_n 3, 1) := by decide +kernel
theorem dX11_ever_10 : decode cX11_ever 10 = .ok (.iload 4, 2) := by decide +kernel
theorem dX11_ever_12 : decode cX11_ever 12 = .ok (.invokevirtual 180, 3) := by decide +kernel
theorem dX11_ever_15 : decode cX11_ever 15 = .ok (.ifCond .eq 18, 3) := by decide +kernel
theorem dX11_ever_18 : decode cX11_ever 18 = .ok (.aload_n 0, 1) := by decide +kernel
theorem dX11_ever_19 : decode cX11_ever 19 = .ok (.getfield 70, 3) := by decide +kernel
theorem dX11_ever_22 : decode cX11_ever 22 = .ok (.iload_n 1, 1) := by decide +kernel
theorem dX11_ever_23 : decode cX11_ever 23 = .ok (.iload_n 2, 1) := by decide +kernel
theorem dX11_ever_24 : decode cX11_ever 24 = .ok (.iload_n 3, 1) := by decide +kernel
theorem dX11_ever_25 : decode cX11_ever 25 = .ok (.iload 4, 2) := by decide +kernel
theorem dX11_ever_27 : decode cX11_ever 27 = .ok (.invokevirtual 183, 3) := by decide +kernel
theorem dX11_ever_30 : decode cX11_ever 30 = .ok (.goto 4, 3) := by decide +kernel
theorem dX11_ever_33 : decode cX11_ever 33 = .ok (.iconst (-1), 1) := by decide +kernel
theorem dX11_ever_34 : decode cX11_ever 34 = .ok (.ireturn, 1) := by decide +kernel
theorem dX11_stay_0 : decode cX11_stay 0 = .ok (.iload_n 1, 1) := by decide +kernel
theorem dX11_stay_1 : decode cX11_stay 1 = .ok (.invokestatic 126, 3) := by decide +kernel
theorem dX11_stay_4 : decode cX11_stay 4 = .ok (.ifCond .eq 25, 3) := by decide +kernel
theorem dX11_stay_7 : decode cX11_stay 7 = .ok (.aload_n 0, 1) := by decide +kernel
theorem dX11_stay_8 : decode cX11_stay 8 = .ok (.iload_n 2, 1) := by decide +kernel
theorem dX11_stay_9 : decode cX11_stay 9 = .ok (.iload_n 3, 1) := by decide +kernel
theorem dX11_stay_10 : decode cX11_stay 10 = .ok (.invokevirtual 180, 3) := by decide +kernel
theorem dX11_stay_13 : decode cX11_stay 13 = .ok (.ifCond .eq 16, 3) := by decide +kernel
theorem dX11_stay_16 : decode cX11_stay 16 = .ok (.aload_n 0, 1) := by decide +kernel
theorem dX11_stay_17 : decode cX11_stay 17 = .ok (.getfield 70, 3) := by decide +kernel
theorem dX11_stay_20 : decode cX11_stay 20 = .ok (.iload_n 1, 1) := by decide +kernel
theorem dX11_stay_21 : decode cX11_stay 21 = .ok (.iload_n 2, 1) := by decide +kernel
theorem dX11_stay_22 : decode cX11_stay 22 = .ok (.iload_n 3, 1) := by decide +kernel
theorem dX11_stay_23 : decode cX11_stay 23 = .ok (.invokevirtual 186, 3) := by decide +kernel
theorem dX11_stay_26 : decode cX11_stay 26 = .ok (.goto 4, 3) := by decide +kernel
theorem dX11_stay_29 : decode cX11_stay 29 = .ok (.iconst (-1), 1) := by decide +kernel
theorem dX11_stay_30 : decode cX11_stay 30 = .ok (.ireturn, 1) := by decide +kernel
theorem dX11_versions_0 : decode cX11_versions 0 = .ok (.iload_n 1, 1) := by decide +kernel
theorem dX11_versions_1 : decode cX11_versions 1 = .ok (.invokestatic 126, 3) := by decide +kernel
theorem dX11_versions_4 : decode cX11_versions 4 = .ok (.ifCond .eq 17, 3) := by decide +kernel
theorem dX11_versions_7 : decode cX11_versions 7 = .ok (.aload_n 0, 1) := by decide +kernel
theorem dX11_versions_8 : decode cX11_versions 8 = .ok (.getfield 39, 3) := by decide +kernel
theorem dX11_versions_11 : decode cX11_versions 11 = .ok (.getfield 63, 3) := by decide +kernel
theorem dX11_versions_14 : decode cX11_versions 14 = .ok (.iload_n 1, 1) := by decide +kernel
theorem dX11_versions_15 : decode cX11_versions 15 = .ok (.invokevirtual 189, 3) := by decide +kernel
theorem dX11_versions_18 : decode cX11_versions 18 = .ok (.goto 4, 3) := by decide +kernel
theorem dX11_versions_21 : decode cX11_versions 21 = .ok (.iconst (-1), 1) := by decide +kernel
theorem dX11_versions_22 : decode cX11_versions 22 = .ok (.ireturn, 1) := by decide +kernel
theorem dX11_version_0 : decode cX11_version 0 = .ok (.iload_n 1, 1) := by decide +kernel
theorem dX11_version_1 : decode cX11_version 1 = .ok (.invokestatic 126, 3) := by decide +kernel
theorem dX11_version_4 : decode cX11_version 4 = .ok (.ifCond .ne 7, 3) := by decide +kernel
theorem dX11_version_7 : decode cX11_version 7 = .ok (.sipush (-1000), 3) := by decide +kernel
theorem dX11_version_10 : decode cX11_version 10 = .ok (.ireturn, 1) := by decide +kernel
theorem dX11_version_11 : decode cX11_version 11 = .ok (.aload_n 0, 1) := by decide +kernel
theorem dX11_version_12 : decode cX11_version 12 = .ok (.getfield 39, 3) := by decide +kernel
theorem dX11_version_15 : decode cX11_version 15 = .ok (.getfield 63, 3) := by decide +kernel
theorem dX11_version_18 : decode cX11_version 18 = .ok (.iload_n 1, 1) := by decide +kernel
theorem dX11_version_19 : decode cX11_version 19 = .ok (.iload_n 2, 1) := by decide +kernel
theorem dX11_version_20 : decode cX11_version 20 = .ok (.invokevirtual 192, 3) := by decide +kernel
theorem dX11_version_23 : decode cX11_version 23 = .ok (.istore 4, 2) := by decide +kernel
theorem dX11_version_25 : decode cX11_version 25 = .ok (.iload 4, 2) := by decide +kernel
theorem dX11_version_27 : decode cX11_version 27 = .ok (.iconst (-1), 1) := by decide +kernel
theorem dX11_version_28 : decode cX11_version 28 = .ok (.if_icmp .ne 7, 3) := by decide +kernel
theorem dX11_version_31 : decode cX11_version 31 = .ok (.sipush (-1000), 3) := by decide +kernel
theorem dX11_version_34 : decode cX11_version 34 = .ok (.ireturn, 1) := by decide +kernel
theorem dX11_version_35 : decode cX11_version 35 = .ok (.iload_n 3, 1) := by decide +kernel
theorem dX11_version_36 : decode cX11_version 36 = .ok (.tableswitch 63 0 2 #[28, 31, 47], 28) := by decide +kernel
theorem dX11_version_64 : decode cX11_version 64 = .ok (.iload 4, 2) := by decide +kernel
theorem dX11_version_66 : decode cX11_version 66 = .ok (.ireturn, 1) := by decide +kernel
theorem dX11_version_67 : decode cX11_version 67 = .ok (.aload_n 0, 1) := by decide +kernel
theorem dX11_version_68 : decode cX11_version 68 = .ok (.getfield 39, 3) := by decide +kernel
theorem dX11_version_71 : decode cX11_version 71 = .ok (.getfield 63, 3) := by decide +kernel
theorem dX11_version_74 : decode cX11_version 74 = .ok (.getfield 195, 3) := by decide +kernel
theorem dX11_version_77 : decode cX11_version 77 = .ok (.iload 4, 2) := by decide +kernel
theorem dX11_version_79 : decode cX11_version 79 = .ok (.invokevirtual 153, 3) := by decide +kernel
theorem dX11_version_82 : decode cX11_version 82 = .ok (.ireturn, 1) := by decide +kernel
theorem dX11_version_83 : decode cX11_version 83 = .ok (.aload_n 0, 1) := by decide +kernel
theorem dX11_version_84 : decode cX11_version 84 = .ok (.getfield 39, 3) := by decide +kernel
theorem dX11_version_87 : decode cX11_version 87 = .ok (.getfield 63, 3) := by decide +kernel
theorem dX11_version_90 : decode cX11_version 90 = .ok (.getfield 150, 3) := by decide +kernel
theorem dX11_version_93 : decode cX11_version 93 = .ok (.iload 4, 2) := by decide +kernel
theorem dX11_version_95 : decode cX11_version 95 = .ok (.invokevirtual 153, 3) := by decide +kernel
theorem dX11_version_98 : decode cX11_version 98 = .ok (.ireturn, 1) := by decide +kernel
theorem dX11_version_99 : decode cX11_version 99 = .ok (.sipush (-1000), 3) := by decide +kernel
theorem dX11_version_102 : decode cX11_version 102 = .ok (.ireturn, 1) := by decide +kernel
theorem dX11_peak_0 : decode cX11_peak 0 = .ok (.iload_n 1, 1) := by decide +kernel
theorem dX11_peak_1 : decode cX11_peak 1 = .ok (.iload_n 2, 1) := by decide +kernel
theorem dX11_peak_2 : decode cX11_peak 2 = .ok (.invokestatic 157, 3) := by decide +kernel
theorem dX11_peak_5 : decode cX11_peak 5 = .ok (.ifCond .eq 23, 3) := by decide +kernel
theorem dX11_peak_8 : decode cX11_peak 8 = .ok (.iload_n 3, 1) := by decide +kernel
theorem dX11_peak_9 : decode cX11_peak 9 = .ok (.invokestatic 198, 3) := by decide +kernel
theorem dX11_peak_12 : decode cX11_peak 12 = .ok (.ifCond .eq 16, 3) := by decide +kernel
theorem dX11_peak_15 : decode cX11_peak 15 = .ok (.aload_n 0, 1) := by decide +kernel
theorem dX11_peak_16 : decode cX11_peak 16 = .ok (.getfield 70, 3) := by decide +kernel
theorem dX11_peak_19 : decode cX11_peak 19 = .ok (.iload_n 1, 1) := by decide +kernel
theorem dX11_peak_20 : decode cX11_peak 20 = .ok (.iload_n 2, 1) := by decide +kernel
theorem dX11_peak_21 : decode cX11_peak 21 = .ok (.iload_n 3, 1) := by decide +kernel
theorem dX11_peak_22 : decode cX11_peak 22 = .ok (.invokevirtual 201, 3) := by decide +kernel
theorem dX11_peak_25 : decode cX11_peak 25 = .ok (.goto 4, 3) := by decide +kernel
theorem dX11_peak_28 : decode cX11_peak 28 = .ok (.iconst (-1), 1) := by decide +kernel
theorem dX11_peak_29 : decode cX11_peak 29 = .ok (.ireturn, 1) := by decide +kernel
theorem dX11_root_0 : decode cX11_root 0 = .ok (.aload_n 0, 1) := by decide +kernel
theorem dX11_root_1 : decode cX11_root 1 = .ok (.iload_n 1, 1) := by decide +kernel
theorem dX11_root_2 : decode cX11_root 2 = .ok (.invokevirtual 143, 3) := by decide +kernel
theorem dX11_root_5 : decode cX11_root 5 = .ok (.ifCond .eq 14, 3) := by decide +kernel
theorem dX11_root_8 : decode cX11_root 8 = .ok (.aload_n 0, 1) := by decide +kernel
theorem dX11_root_9 : decode cX11_root 9 = .ok (.getfield 39, 3) := by decide +kernel
theorem dX11_root_12 : decode cX11_root 12 = .ok (.iload_n 1, 1) := by decide +kernel
theorem dX11_root_13 : decode cX11_root 13 = .ok (.invokevirtual 204, 3) := by decide +kernel
theorem dX11_root_16 : decode cX11_root 16 = .ok (.goto 4, 3) := by decide +kernel
theorem dX11_root_19 : decode cX11_root 19 = .ok (.iconst (-1), 1) := by decide +kernel
theorem dX11_root_20 : decode cX11_root 20 = .ok (.ireturn, 1) := by decide +kernel
theorem dX11_deep_0 : decode cX11_deep 0 = .ok (.aload_n 0, 1) := by decide +kernel
theorem dX11_deep_1 : decode cX11_deep 1 = .ok (.iload_n 1, 1) := by decide +kernel
theorem dX11_deep_2 : decode cX11_deep 2 = .ok (.invokevirtual 143, 3) := by decide +kernel
theorem dX11_deep_5 : decode cX11_deep 5 = .ok (.ifCond .eq 14, 3) := by decide +kernel
theorem dX11_deep_8 : decode cX11_deep 8 = .ok (.aload_n 0, 1) := by decide +kernel
theorem dX11_deep_9 : decode cX11_deep 9 = .ok (.getfield 77, 3) := by decide +kernel
theorem dX11_deep_12 : decode cX11_deep 12 = .ok (.iload_n 1, 1) := by decide +kernel
theorem dX11_deep_13 : decode cX11_deep 13 = .ok (.invokevirtual 207, 3) := by decide +kernel
theorem dX11_deep_16 : decode cX11_deep 16 = .ok (.goto 4, 3) := by decide +kernel
theorem dX11_deep_19 : decode cX11_deep 19 = .ok (.iconst (-1), 1) := by decide +kernel
theorem dX11_deep_20 : decode cX11_deep 20 = .ok (.ireturn, 1) := by decide +kernel
theorem dX11_leaf_0 : decode cX11_leaf 0 = .ok (.iload_n 1, 1) := by decide +kernel
theorem dX11_leaf_1 : decode cX11_leaf 1 = .ok (.invokestatic 126, 3) := by decide +kernel
theorem dX11_leaf_4 : decode cX11_leaf 4 = .ok (.ifCond .eq 23, 3) := by decide +kernel
theorem dX11_leaf_7 : decode cX11_leaf 7 = .ok (.aload_n 0, 1) := by decide +kernel
theorem dX11_leaf_8 : decode cX11_leaf 8 = .ok (.iload_n 2, 1) := by decide +kernel
theorem dX11_leaf_9 : decode cX11_leaf 9 = .ok (.invokevirtual 143, 3) := by decide +kernel
theorem dX11_leaf_12 : decode cX11_leaf 12 = .ok (.ifCond .eq 15, 3) := by decide +kernel
theorem dX11_leaf_15 : decode cX11_leaf 15 = .ok (.aload_n 0, 1) := by decide +kernel
theorem dX11_leaf_16 : decode cX11_leaf 16 = .ok (.getfield 77, 3) := by decide +kernel
theorem dX11_leaf_19 : decode cX11_leaf 19 = .ok (.iload_n 1, 1) := by decide +kernel
theorem dX11_leaf_20 : decode cX11_leaf 20 = .ok (.iload_n 2, 1) := by decide +kernel
theorem dX11_leaf_21 : decode cX11_leaf 21 = .ok (.invokevirtual 210, 3) := by decide +kernel
theorem dX11_leaf_24 : decode cX11_leaf 24 = .ok (.goto 4, 3) := by decide +kernel
theorem dX11_leaf_27 : decode cX11_leaf 27 = .ok (.iconst (-1), 1) := by decide +kernel
theorem dX11_leaf_28 : decode cX11_leaf 28 = .ok (.ireturn, 1) := by decide +kernel
theorem dX11_reads_0 : decode cX11_reads 0 = .ok (.iload_n 1, 1) := by decide +kernel
theorem dX11_reads_1 : decode cX11_reads 1 = .ok (.iload_n 2, 1) := by decide +kernel
theorem dX11_reads_2 : decode cX11_reads 2 = .ok (.invokestatic 157, 3) := by decide +kernel
theorem dX11_reads_5 : decode cX11_reads 5 = .ok (.ifCond .eq 24, 3) := by decide +kernel
theorem dX11_reads_8 : decode cX11_reads 8 = .ok (.aload_n 0, 1) := by decide +kernel
theorem dX11_reads_9 : decode cX11_reads 9 = .ok (.iload_n 3, 1) := by decide +kernel
theorem dX11_reads_10 : decode cX11_reads 10 = .ok (.invokevirtual 143, 3) := by decide +kernel
theorem dX11_reads_13 : decode cX11_reads 13 = .ok (.ifCond .eq 16, 3) := by decide +kernel
theorem dX11_reads_16 : decode cX11_reads 16 = .ok (.aload_n 0, 1) := by decide +kernel
theorem dX11_reads_17 : decode cX11_reads 17 = .ok (.getfield 77, 3) := by decide +kernel
theorem dX11_reads_20 : decode cX11_reads 20 = .ok (.iload_n 1, 1) := by decide +kernel
theorem dX11_reads_21 : decode cX11_reads 21 = .ok (.iload_n 2, 1) := by decide +kernel
theorem dX11_reads_22 : decode cX11_reads 22 = .ok (.iload_n 3, 1) := by decide +kernel
theorem dX11_reads_23 : decode cX11_reads 23 = .ok (.invokevirtual 213, 3) := by decide +kernel
theorem dX11_reads_26 : decode cX11_reads 26 = .ok (.goto 4, 3) := by decide +kernel
theorem dX11_reads_29 : decode cX11_reads 29 = .ok (.iconst (-1), 1) := by decide +kernel
theorem dX11_reads_30 : decode cX11_reads 30 = .ok (.ireturn, 1) := by decide +kernel
theorem dX11_thin_0 : decode cX11_thin 0 = .ok (.aload_n 0, 1) := by decide +kernel
theorem dX11_thin_1 : decode cX11_thin 1 = .ok (.iload_n 1, 1) := by decide +kernel
theorem dX11_thin_2 : decode cX11_thin 2 = .ok (.invokevirtual 143, 3) := by decide +kernel
theorem dX11_thin_5 : decode cX11_thin 5 = .ok (.ifCond .eq 14, 3) := by decide +kernel
theorem dX11_thin_8 : decode cX11_thin 8 = .ok (.aload_n 0, 1) := by decide +kernel
theorem dX11_thin_9 : decode cX11_thin 9 = .ok (.getfield 77, 3) := by decide +kernel
theorem dX11_thin_12 : decode cX11_thin 12 = .ok (.iload_n 1, 1) := by decide +kernel
theorem dX11_thin_13 : decode cX11_thin 13 = .ok (.invokevirtual 216, 3) := by decide +kernel
theorem dX11_thin_16 : decode cX11_thin 16 = .ok (.goto 4, 3) := by decide +kernel
theorem dX11_thin_19 : decode cX11_thin 19 = .ok (.iconst (-1), 1) := by decide +kernel
theorem dX11_thin_20 : decode cX11_thin 20 = .ok (.ireturn, 1) := by decide +kernel
theorem dX11_way_0 : decode cX11_way 0 = .ok (.iload_n 1, 1) := by decide +kernel
theorem dX11_way_1 : decode cX11_way 1 = .ok (.invokestatic 126, 3) := by decide +kernel
theorem dX11_way_4 : decode cX11_way 4 = .ok (.ifCond .eq 24, 3) := by decide +kernel
theorem dX11_way_7 : decode cX11_way 7 = .ok (.aload_n 0, 1) := by decide +kernel
theorem dX11_way_8 : decode cX11_way 8 = .ok (.iload_n 2, 1) := by decide +kernel
theorem dX11_way_9 : decode cX11_way 9 = .ok (.invokevirtual 143, 3) := by decide +kernel
theorem dX11_way_12 : decode cX11_way 12 = .ok (.ifCond .eq 16, 3) := by decide +kernel
theorem dX11_way_15 : decode cX11_way 15 = .ok (.aload_n 0, 1) := by decide +kernel
theorem dX11_way_16 : decode cX11_way 16 = .ok (.getfield 77, 3) := by decide +kernel
theorem dX11_way_19 : decode cX11_way 19 = .ok (.iload_n 1, 1) := by decide +kernel
theorem dX11_way_20 : decode cX11_way 20 = .ok (.iload_n 2, 1) := by decide +kernel
theorem dX11_way_21 : decode cX11_way 21 = .ok (.iload_n 3, 1) := by decide +kernel
theorem dX11_way_22 : decode cX11_way 22 = .ok (.invokevirtual 219, 3) := by decide +kernel
theorem dX11_way_25 : decode cX11_way 25 = .ok (.goto 4, 3) := by decide +kernel
theorem dX11_way_28 : decode cX11_way 28 = .ok (.iconst (-1), 1) := by decide +kernel
theorem dX11_way_29 : decode cX11_way 29 = .ok (.ireturn, 1) := by decide +kernel
theorem dX11_longest_0 : decode cX11_longest 0 = .ok (.iload_n 1, 1) := by decide +kernel
theorem dX11_longest_1 : decode cX11_longest 1 = .ok (.invokestatic 126, 3) := by decide +kernel
theorem dX11_longest_4 : decode cX11_longest 4 = .ok (.ifCond .eq 22, 3) := by decide +kernel
theorem dX11_longest_7 : decode cX11_longest 7 = .ok (.iload_n 2, 1) := by decide +kernel
theorem dX11_longest_8 : decode cX11_longest 8 = .ok (.invokestatic 198, 3) := by decide +kernel
theorem dX11_longest_11 : decode cX11_longest 11 = .ok (.ifCond .eq 15, 3) := by decide +kernel
theorem dX11_longest_14 : decode cX11_longest 14 = .ok (.aload_n 0, 1) := by decide +kernel
theorem dX11_longest_15 : decode cX11_longest 15 = .ok (.getfield 70, 3) := by decide +kernel
theorem dX11_longest_18 : decode cX11_longest 18 = .ok (.iload_n 1, 1) := by decide +kernel
theorem dX11_longest_19 : decode cX11_longest 19 = .ok (.iload_n 2, 1) := by decide +kernel
theorem dX11_longest_20 : decode cX11_longest 20 = .ok (.invokevirtual 222, 3) := by decide +kernel
theorem dX11_longest_23 : decode cX11_longest 23 = .ok (.goto 4, 3) := by decide +kernel
theorem dX11_longest_26 : decode cX11_longest 26 = .ok (.iconst (-1), 1) := by decide +kernel
theorem dX11_longest_27 : decode cX11_longest 27 = .ok (.ireturn, 1) := by decide +kernel
theorem dX11_busiest_0 : decode cX11_busiest 0 = .ok (.iload_n 1, 1) := by decide +kernel
theorem dX11_busiest_1 : decode cX11_busiest 1 = .ok (.iload_n 2, 1) := by decide +kernel
theorem dX11_busiest_2 : decode cX11_busiest 2 = .ok (.invokestatic 157, 3) := by decide +kernel
theorem dX11_busiest_5 : decode cX11_busiest 5 = .ok (.ifCond .eq 23, 3) := by decide +kernel
theorem dX11_busiest_8 : decode cX11_busiest 8 = .ok (.iload_n 3, 1) := by decide +kernel
theorem dX11_busiest_9 : decode cX11_busiest 9 = .ok (.invokestatic 198, 3) := by decide +kernel
theorem dX11_busiest_12 : decode cX11_busiest 12 = .ok (.ifCond .eq 16, 3) := by decide +kernel
theorem dX11_busiest_15 : decode cX11_busiest 15 = .ok (.aload_n 0, 1) := by decide +kernel
theorem dX11_busiest_16 : decode cX11_busiest 16 = .ok (.getfield 70, 3) := by decide +kernel
theorem dX11_busiest_19 : decode cX11_busiest 19 = .ok (.iload_n 1, 1) := by decide +kernel
theorem dX11_busiest_20 : decode cX11_busiest 20 = .ok (.iload_n 2, 1) := by decide +kernel
theorem dX11_busiest_21 : decode cX11_busiest 21 = .ok (.iload_n 3, 1) := by decide +kernel
theorem dX11_busiest_22 : decode cX11_busiest 22 = .ok (.invokevirtual 225, 3) := by decide +kernel
theorem dX11_busiest_25 : decode cX11_busiest 25 = .ok (.goto 4, 3) := by decide +kernel
theorem dX11_busiest_28 : decode cX11_busiest 28 = .ok (.iconst (-1), 1) := by decide +kernel
theorem dX11_busiest_29 : decode cX11_busiest 29 = .ok (.ireturn, 1) := by decide +kernel
theorem dX11_gap_0 : decode cX11_gap 0 = .ok (.aload_n 0, 1) := by decide +kernel
theorem dX11_gap_1 : decode cX11_gap 1 = .ok (.iload_n 1, 1) := by decide +kernel
theorem dX11_gap_2 : decode cX11_gap 2 = .ok (.invokevirtual 143, 3) := by decide +kernel
theorem dX11_gap_5 : decode cX11_gap 5 = .ok (.ifCond .eq 22, 3) := by decide +kernel
theorem dX11_gap_8 : decode cX11_gap 8 = .ok (.iload_n 2, 1) := by decide +kernel
theorem dX11_gap_9 : decode cX11_gap 9 = .ok (.invokestatic 198, 3) := by decide +kernel
theorem dX11_gap_12 : decode cX11_gap 12 = .ok (.ifCond .eq 15, 3) := by decide +kernel
theorem dX11_gap_15 : decode cX11_gap 15 = .ok (.aload_n 0, 1) := by decide +kernel
theorem dX11_gap_16 : decode cX11_gap 16 = .ok (.getfield 70, 3) := by decide +kernel
theorem dX11_gap_19 : decode cX11_gap 19 = .ok (.iload_n 1, 1) := by decide +kernel
theorem dX11_gap_20 : decode cX11_gap 20 = .ok (.iload_n 2, 1) := by decide +kernel
theorem dX11_gap_21 : decode cX11_gap 21 = .ok (.invokevirtual 228, 3) := by decide +kernel
theorem dX11_gap_24 : decode cX11_gap 24 = .ok (.goto 4, 3) := by decide +kernel
theorem dX11_gap_27 : decode cX11_gap 27 = .ok (.iconst (-1), 1) := by decide +kernel
theorem dX11_gap_28 : decode cX11_gap 28 = .ok (.ireturn, 1) := by decide +kernel
theorem dX11_held_0 : decode cX11_held 0 = .ok (.aload_n 0, 1) := by decide +kernel
theorem dX11_held_1 : decode cX11_held 1 = .ok (.iload_n 1, 1) := by decide +kernel
theorem dX11_held_2 : decode cX11_held 2 = .ok (.invokevirtual 143, 3) := by decide +kernel
theorem dX11_held_5 : decode cX11_held 5 = .ok (.ifCond .eq 15, 3) := by decide +kernel
theorem dX11_held_8 : decode cX11_held 8 = .ok (.aload_n 0, 1) := by decide +kernel
theorem dX11_held_9 : decode cX11_held 9 = .ok (.getfield 77, 3) := by decide +kernel
theorem dX11_held_12 : decode cX11_held 12 = .ok (.iload_n 1, 1) := by decide +kernel
theorem dX11_held_13 : decode cX11_held 13 = .ok (.iload_n 2, 1) := by decide +kernel
theorem dX11_held_14 : decode cX11_held 14 = .ok (.invokevirtual 231, 3) := by decide +kernel
theorem dX11_held_17 : decode cX11_held 17 = .ok (.goto 4, 3) := by decide +kernel
theorem dX11_held_20 : decode cX11_held 20 = .ok (.iconst (-1), 1) := by decide +kernel
theorem dX11_held_21 : decode cX11_held 21 = .ok (.ireturn, 1) := by decide +kernel
theorem dX11_page_0 : decode cX11_page 0 = .ok (.aload_n 0, 1) := by decide +kernel
theorem dX11_page_1 : decode cX11_page 1 = .ok (.getfield 39, 3) := by decide +kernel
theorem dX11_page_4 : decode cX11_page 4 = .ok (.getfield 234, 3) := by decide +kernel
theorem dX11_page_7 : decode cX11_page 7 = .ok (.astore_n 3, 1) := by decide +kernel
theorem dX11_page_8 : decode cX11_page 8 = .ok (.aload_n 3, 1) := by decide +kernel
theorem dX11_page_9 : decode cX11_page 9 = .ok (.iload_n 1, 1) := by decide +kernel
theorem dX11_page_10 : decode cX11_page 10 = .ok (.invokevirtual 238, 3) := by decide +kernel
theorem dX11_page_13 : decode cX11_page 13 = .ok (.ifCond .ne 5, 3) := by decide +kernel
theorem dX11_page_16 : decode cX11_page 16 = .ok (.iconst (-1), 1) := by decide +kernel
theorem dX11_page_17 : decode cX11_page 17 = .ok (.ireturn, 1) := by decide +kernel
theorem dX11_page_18 : decode cX11_page 18 = .ok (.iload_n 2, 1) := by decide +kernel
theorem dX11_page_19 : decode cX11_page 19 = .ok (.tableswitch 75 0 4 #[33, 42, 51, 57, 66], 33) := by decide +kernel
theorem dX11_page_52 : decode cX11_page 52 = .ok (.aload_n 3, 1) := by decide +kernel
theorem dX11_page_53 : decode cX11_page 53 = .ok (.getfield 243, 3) := by decide +kernel
theorem dX11_page_56 : decode cX11_page 56 = .ok (.iload_n 1, 1) := by decide +kernel
theorem dX11_page_57 : decode cX11_page 57 = .ok (.invokevirtual 153, 3) := by decide +kernel
theorem dX11_page_60 : decode cX11_page 60 = .ok (.ireturn, 1) := by decide +kernel
theorem dX11_page_61 : decode cX11_page 61 = .ok (.aload_n 3, 1) := by decide +kernel
theorem dX11_page_62 : decode cX11_page 62 = .ok (.getfield 246, 3) := by decide +kernel
theorem dX11_page_65 : decode cX11_page 65 = .ok (.iload_n 1, 1) := by decide +kernel
theorem dX11_page_66 : decode cX11_page 66 = .ok (.invokevirtual 153, 3) := by decide +kernel
theorem dX11_page_69 : decode cX11_page 69 = .ok (.ireturn, 1) := by decide +kernel
theorem dX11_page_70 : decode cX11_page 70 = .ok (.aload_n 3, 1) := by decide +kernel
theorem dX11_page_71 : decode cX11_page 71 = .ok (.iload_n 1, 1) := by decide +kernel
theorem dX11_page_72 : decode cX11_page 72 = .ok (.invokevirtual 249, 3) := by decide +kernel
theorem dX11_page_75 : decode cX11_page 75 = .ok (.ireturn, 1) := by decide +kernel
theorem dX11_page_76 : decode cX11_page 76 = .ok (.aload_n 3, 1) := by decide +kernel
theorem dX11_page_77 : decode cX11_page 77 = .ok (.getfield 252, 3) := by decide +kernel
theorem dX11_page_80 : decode cX11_page 80 = .ok (.iload_n 1, 1) := by decide +kernel
theorem dX11_page_81 : decode cX11_page 81 = .ok (.invokevirtual 153, 3) := by decide +kernel
theorem dX11_page_84 : decode cX11_page 84 = .ok (.ireturn, 1) := by decide +kernel
theorem dX11_page_85 : decode cX11_page 85 = .ok (.aload_n 3, 1) := by decide +kernel
theorem dX11_page_86 : decode cX11_page 86 = .ok (.getfield 255, 3) := by decide +kernel
theorem dX11_page_89 : decode cX11_page 89 = .ok (.iload_n 1, 1) := by decide +kernel
theorem dX11_page_90 : decode cX11_page 90 = .ok (.invokevirtual 153, 3) := by decide +kernel
theorem dX11_page_93 : decode cX11_page 93 = .ok (.ireturn, 1) := by decide +kernel
theorem dX11_page_94 : decode cX11_page 94 = .ok (.iconst (-1), 1) := by decide +kernel
theorem dX11_page_95 : decode cX11_page 95 = .ok (.ireturn, 1) := by decide +kernel
theorem dX11_entry_0 : decode cX11_entry 0 = .ok (.aload_n 0, 1) := by decide +kernel
theorem dX11_entry_1 : decode cX11_entry 1 = .ok (.getfield 39, 3) := by decide +kernel
theorem dX11_entry_4 : decode cX11_entry 4 = .ok (.getfield 234, 3) := by decide +kernel
theorem dX11_entry_7 : decode cX11_entry 7 = .ok (.astore 4, 2) := by decide +kernel
theorem dX11_entry_9 : decode cX11_entry 9 = .ok (.aload 4, 2) := by decide +kernel
theorem dX11_entry_11 : decode cX11_entry 11 = .ok (.iload_n 1, 1) := by decide +kernel
theorem dX11_entry_12 : decode cX11_entry 12 = .ok (.invokevirtual 238, 3) := by decide +kernel
theorem dX11_entry_15 : decode cX11_entry 15 = .ok (.ifCond .eq 20, 3) := by decide +kernel
theorem dX11_entry_18 : decode cX11_entry 18 = .ok (.iload_n 2, 1) := by decide +kernel
theorem dX11_entry_19 : decode cX11_entry 19 = .ok (.ifCond .lt 16, 3) := by decide +kernel
theorem dX11_entry_22 : decode cX11_entry 22 = .ok (.iload_n 2, 1) := by decide +kernel
theorem dX11_entry_23 : decode cX11_entry 23 = .ok (.aload 4, 2) := by decide +kernel
theorem dX11_entry_25 : decode cX11_entry 25 = .ok (.getfield 246, 3) := by decide +kernel
theorem dX11_entry_28 : decode cX11_entry 28 = .ok (.iload_n 1, 1) := by decide +kernel
theorem dX11_entry_29 : decode cX11_entry 29 = .ok (.invokevirtual 153, 3) := by decide +kernel
theorem dX11_entry_32 : decode cX11_entry 32 = .ok (.if_icmp .lt 7, 3) := by decide +kernel
theorem dX11_entry_35 : decode cX11_entry 35 = .ok (.sipush (-1000), 3) := by decide +kernel
theorem dX11_entry_38 : decode cX11_entry 38 = .ok (.ireturn, 1) := by decide +kernel
theorem dX11_entry_39 : decode cX11_entry 39 = .ok (.aload 4, 2) := by decide +kernel
theorem dX11_entry_41 : decode cX11_entry 41 = .ok (.iload_n 1, 1) := by decide +kernel
theorem dX11_entry_42 : decode cX11_entry 42 = .ok (.invokevirtual 258, 3) := by decide +kernel
theorem dX11_entry_45 : decode cX11_entry 45 = .ok (.iload_n 2, 1) := by decide +kernel
theorem dX11_entry_46 : decode cX11_entry 46 = .ok (.iadd, 1) := by decide +kernel
theorem dX11_entry_47 : decode cX11_entry 47 = .ok (.istore 5, 2) := by decide +kernel
theorem dX11_entry_49 : decode cX11_entry 49 = .ok (.iload_n 3, 1) := by decide +kernel
theorem dX11_entry_50 : decode cX11_entry 50 = .ok (.tableswitch 74 0 3 #[30, 41, 52, 63], 30) := by decide +kernel
theorem dX11_entry_80 : decode cX11_entry 80 = .ok (.aload 4, 2) := by decide +kernel
theorem dX11_entry_82 : decode cX11_entry 82 = .ok (.getfield 261, 3) := by decide +kernel
theorem dX11_entry_85 : decode cX11_entry 85 = .ok (.iload 5, 2) := by decide +kernel
theorem dX11_entry_87 : decode cX11_entry 87 = .ok (.invokevirtual 153, 3) := by decide +kernel
theorem dX11_entry_90 : decode cX11_entry 90 = .ok (.ireturn, 1) := by decide +kernel
theorem dX11_entry_91 : decode cX11_entry 91 = .ok (.aload 4, 2) := by decide +kernel
theorem dX11_entry_93 : decode cX11_entry 93 = .ok (.getfield 264, 3) := by decide +kernel
theorem dX11_entry_96 : decode cX11_entry 96 = .ok (.iload 5, 2) := by decide +kernel
theorem dX11_entry_98 : decode cX11_entry 98 = .ok (.invokevirtual 153, 3) := by decide +kernel
theorem dX11_entry_101 : decode cX11_entry 101 = .ok (.ireturn, 1) := by decide +kernel
theorem dX11_entry_102 : decode cX11_entry 102 = .ok (.aload 4, 2) := by decide +kernel
theorem dX11_entry_104 : decode cX11_entry 104 = .ok (.getfield 267, 3) := by decide +kernel
theorem dX11_entry_107 : decode cX11_entry 107 = .ok (.iload 5, 2) := by decide +kernel
theorem dX11_entry_109 : decode cX11_entry 109 = .ok (.invokevirtual 153, 3) := by decide +kernel
theorem dX11_entry_112 : decode cX11_entry 112 = .ok (.ireturn, 1) := by decide +kernel
theorem dX11_entry_113 : decode cX11_entry 113 = .ok (.aload 4, 2) := by decide +kernel
theorem dX11_entry_115 : decode cX11_entry 115 = .ok (.getfield 268, 3) := by decide +kernel
theorem dX11_entry_118 : decode cX11_entry 118 = .ok (.iload 5, 2) := by decide +kernel
theorem dX11_entry_120 : decode cX11_entry 120 = .ok (.invokevirtual 153, 3) := by decide +kernel
theorem dX11_entry_123 : decode cX11_entry 123 = .ok (.ireturn, 1) := by decide +kernel
theorem dX11_entry_124 : decode cX11_entry 124 = .ok (.sipush (-1000), 3) := by decide +kernel
theorem dX11_entry_127 : decode cX11_entry 127 = .ok (.ireturn, 1) := by decide +kernel
theorem dX11_room_0 : decode cX11_room 0 = .ok (.iload_n 1, 1) := by decide +kernel
theorem dX11_room_1 : decode cX11_room 1 = .ok (.tableswitch 102 0 5 #[39, 53, 64, 75, 86, 97], 39) := by decide +kernel
theorem dX11_room_40 : decode cX11_room 40 = .ok (.aload_n 0, 1) := by decide +kernel
theorem dX11_room_41 : decode cX11_room 41 = .ok (.getfield 39, 3) := by decide +kernel
theorem dX11_room_44 : decode cX11_room 44 = .ok (.getfield 234, 3) := by decide +kernel
theorem dX11_room_47 : decode cX11_room 47 = .ok (.getfield 243, 3) := by decide +kernel
theorem dX11_room_50 : decode cX11_room 50 = .ok (.getfield 98, 3) := by decide +kernel
theorem dX11_room_53 : decode cX11_room 53 = .ok (.ireturn, 1) := by decide +kernel
theorem dX11_room_54 : decode cX11_room 54 = .ok (.aload_n 0, 1) := by decide +kernel
theorem dX11_room_55 : decode cX11_room 55 = .ok (.getfield 39, 3) := by decide +kernel
theorem dX11_room_58 : decode cX11_room 58 = .ok (.getfield 234, 3) := by decide +kernel
theorem dX11_room_61 : decode cX11_room 61 = .ok (.invokevirtual 269, 3) := by decide +kernel
theorem dX11_room_64 : decode cX11_room 64 = .ok (.ireturn, 1) := by decide +kernel
theorem dX11_room_65 : decode cX11_room 65 = .ok (.aload_n 0, 1) := by decide +kernel
theorem dX11_room_66 : decode cX11_room 66 = .ok (.getfield 39, 3) := by decide +kernel
theorem dX11_room_69 : decode cX11_room 69 = .ok (.getfield 234, 3) := by decide +kernel
theorem dX11_room_72 : decode cX11_room 72 = .ok (.invokevirtual 272, 3) := by decide +kernel
theorem dX11_room_75 : decode cX11_room 75 = .ok (.ireturn, 1) := by decide +kernel
theorem dX11_room_76 : decode cX11_room 76 = .ok (.aload_n 0, 1) := by decide +kernel
theorem dX11_room_77 : decode cX11_room 77 = .ok (.getfield 39, 3) := by decide +kernel
theorem dX11_room_80 : decode cX11_room 80 = .ok (.getfield 275, 3) := by decide +kernel
theorem dX11_room_83 : decode cX11_room 83 = .ok (.getfield 98, 3) := by decide +kernel
theorem dX11_room_86 : decode cX11_room 86 = .ok (.ireturn, 1) := by decide +kernel
theorem dX11_room_87 : decode cX11_room 87 = .ok (.aload_n 0, 1) := by decide +kernel
theorem dX11_room_88 : decode cX11_room 88 = .ok (.getfield 39, 3) := by decide +kernel
theorem dX11_room_91 : decode cX11_room 91 = .ok (.getfield 234, 3) := by decide +kernel
theorem dX11_room_94 : decode cX11_room 94 = .ok (.invokevirtual 278, 3) := by decide +kernel
theorem dX11_room_97 : decode cX11_room 97 = .ok (.ireturn, 1) := by decide +kernel
theorem dX11_room_98 : decode cX11_room 98 = .ok (.aload_n 0, 1) := by decide +kernel
theorem dX11_room_99 : decode cX11_room 99 = .ok (.invokevirtual 281, 3) := by decide +kernel
theorem dX11_room_102 : decode cX11_room 102 = .ok (.ireturn, 1) := by decide +kernel
theorem dX11_room_103 : decode cX11_room 103 = .ok (.iconst (-1), 1) := by decide +kernel
theorem dX11_room_104 : decode cX11_room 104 = .ok (.ireturn, 1) := by decide +kernel
theorem dX11_hold_0 : decode cX11_hold 0 = .ok (.aload_n 0, 1) := by decide +kernel
theorem dX11_hold_1 : decode cX11_hold 1 = .ok (.iload_n 1, 1) := by decide +kernel
theorem dX11_hold_2 : decode cX11_hold 2 = .ok (.invokevirtual 284, 3) := by decide +kernel
theorem dX11_hold_5 : decode cX11_hold 5 = .ok (.ifCond .ne 5, 3) := by decide +kernel
theorem dX11_hold_8 : decode cX11_hold 8 = .ok (.iconst 0, 1) := by decide +kernel
theorem dX11_hold_9 : decode cX11_hold 9 = .ok (.ireturn, 1) := by decide +kernel
theorem dX11_hold_10 : decode cX11_hold 10 = .ok (.aload_n 0, 1) := by decide +kernel
theorem dX11_hold_11 : decode cX11_hold 11 = .ok (.getfield 81, 3) := by decide +kernel
theorem dX11_hold_14 : decode cX11_hold 14 = .ok (.iload_n 1, 1) := by decide +kernel
theorem dX11_hold_15 : decode cX11_hold 15 = .ok (.aaload, 1) := by decide +kernel
theorem dX11_hold_16 : decode cX11_hold 16 = .ok (.aload_n 0, 1) := by decide +kernel
theorem dX11_hold_17 : decode cX11_hold 17 = .ok (.getfield 39, 3) := by decide +kernel
theorem dX11_hold_20 : decode cX11_hold 20 = .ok (.invokevirtual 287, 3) := by decide +kernel
theorem dX11_hold_23 : decode cX11_hold 23 = .ok (.aload_n 0, 1) := by decide +kernel
theorem dX11_hold_24 : decode cX11_hold 24 = .ok (.getfield 81, 3) := by decide +kernel
theorem dX11_hold_27 : decode cX11_hold 27 = .ok (.iload_n 1, 1) := by decide +kernel
theorem dX11_hold_28 : decode cX11_hold 28 = .ok (.aaload, 1) := by decide +kernel
theorem dX11_hold_29 : decode cX11_hold 29 = .ok (.iconst 1, 1) := by decide +kernel
theorem dX11_hold_30 : decode cX11_hold 30 = .ok (.putfield 290, 3) := by decide +kernel
theorem dX11_hold_33 : decode cX11_hold 33 = .ok (.iconst 1, 1) := by decide +kernel
theorem dX11_hold_34 : decode cX11_hold 34 = .ok (.ireturn, 1) := by decide +kernel
theorem dX11_restore_0 : decode cX11_restore 0 = .ok (.aload_n 0, 1) := by decide +kernel
theorem dX11_restore_1 : decode cX11_restore 1 = .ok (.iload_n 1, 1) := by decide +kernel
theorem dX11_restore_2 : decode cX11_restore 2 = .ok (.invokevirtual 284, 3) := by decide +kernel
theorem dX11_restore_5 : decode cX11_restore 5 = .ok (.ifCond .eq 15, 3) := by decide +kernel
theorem dX11_restore_8 : decode cX11_restore 8 = .ok (.aload_n 0, 1) := by decide +kernel
theorem dX11_restore_9 : decode cX11_restore 9 = .ok (.getfield 81, 3) := by decide +kernel
theorem dX11_restore_12 : decode cX11_restore 12 = .ok (.iload_n 1, 1) := by decide +kernel
theorem dX11_restore_13 : decode cX11_restore 13 = .ok (.aaload, 1) := by decide +kernel
theorem dX11_restore_14 : decode cX11_restore 14 = .ok (.getfield 290, 3) := by decide +kernel
theorem dX11_restore_17 : decode cX11_restore 17 = .ok (.ifCond .ne 5, 3) := by decide +kernel
theorem dX11_restore_20 : decode cX11_restore 20 = .ok (.iconst 0, 1) := by decide +kernel
theorem dX11_restore_21 : decode cX11_restore 21 = .ok (.ireturn, 1) := by decide +kernel
theorem dX11_restore_22 : decode cX11_restore 22 = .ok (.aload_n 0, 1) := by decide +kernel
theorem dX11_restore_23 : decode cX11_restore 23 = .ok (.getfield 39, 3) := by decide +kernel
theorem dX11_restore_26 : decode cX11_restore 26 = .ok (.aload_n 0, 1) := by decide +kernel
theorem dX11_restore_27 : decode cX11_restore 27 = .ok (.getfield 81, 3) := by decide +kernel
theorem dX11_restore_30 : decode cX11_restore 30 = .ok (.iload_n 1, 1) := by decide +kernel
theorem dX11_restore_31 : decode cX11_restore 31 = .ok (.aaload, 1) := by decide +kernel
theorem dX11_restore_32 : decode cX11_restore 32 = .ok (.invokevirtual 287, 3) := by decide +kernel
theorem dX11_restore_35 : decode cX11_restore 35 = .ok (.iconst 1, 1) := by decide +kernel
theorem dX11_restore_36 : decode cX11_restore 36 = .ok (.ireturn, 1) := by decide +kernel
theorem dX11_count_0 : decode cX11_count 0 = .ok (.aload_n 0, 1) := by decide +kernel
theorem dX11_count_1 : decode cX11_count 1 = .ok (.getfield 39, 3) := by decide +kernel
theorem dX11_count_4 : decode cX11_count 4 = .ok (.getfield 63, 3) := by decide +kernel
theorem dX11_count_7 : decode cX11_count 7 = .ok (.invokevirtual 134, 3) := by decide +kernel
theorem dX11_count_10 : decode cX11_count 10 = .ok (.istore_n 2, 1) := by decide +kernel
theorem dX11_count_11 : decode cX11_count 11 = .ok (.iload_n 1, 1) := by decide +kernel
theorem dX11_count_12 : decode cX11_count 12 = .ok (.tableswitch 152 0 10 #[60, 62, 73, 84, 95, 100, 105, 113, 118, 130, 140], 60) := by decide +kernel
theorem dX11_count_72 : decode cX11_count 72 = .ok (.iload_n 2, 1) := by decide +kernel
theorem dX11_count_73 : decode cX11_count 73 = .ok (.ireturn, 1) := by decide +kernel
theorem dX11_count_74 : decode cX11_count 74 = .ok (.aload_n 0, 1) := by decide +kernel
theorem dX11_count_75 : decode cX11_count 75 = .ok (.getfield 39, 3) := by decide +kernel
theorem dX11_count_78 : decode cX11_count 78 = .ok (.getfield 63, 3) := by decide +kernel
theorem dX11_count_81 : decode cX11_count 81 = .ok (.getfield 294, 3) := by decide +kernel
theorem dX11_count_84 : decode cX11_count 84 = .ok (.ireturn, 1) := by decide +kernel
theorem dX11_count_85 : decode cX11_count 85 = .ok (.aload_n 0, 1) := by decide +kernel
theorem dX11_count_86 : decode cX11_count 86 = .ok (.getfield 39, 3) := by decide +kernel
theorem dX11_count_89 : decode cX11_count 89 = .ok (.getfield 234, 3) := by decide +kernel
theorem dX11_count_92 : decode cX11_count 92 = .ok (.getfield 297, 3) := by decide +kernel
theorem dX11_count_95 : decode cX11_count 95 = .ok (.ireturn, 1) := by decide +kernel
theorem dX11_count_96 : decode cX11_count 96 = .ok (.aload_n 0, 1) := by decide +kernel
theorem dX11_count_97 : decode cX11_count 97 = .ok (.getfield 39, 3) := by decide +kernel
theorem dX11_count_100 : decode cX11_count 100 = .ok (.getfield 234, 3) := by decide +kernel
theorem dX11_count_103 : decode cX11_count 103 = .ok (.invokevirtual 298, 3) := by decide +kernel
theorem dX11_count_106 : decode cX11_count 106 = .ok (.ireturn, 1) := by decide +kernel
theorem dX11_count_107 : decode cX11_count 107 = .ok (.aload_n 0, 1) := by decide +kernel
theorem dX11_count_108 : decode cX11_count 108 = .ok (.getfield 89, 3) := by decide +kernel
theorem dX11_count_111 : decode cX11_count 111 = .ok (.ireturn, 1) := by decide +kernel
theorem dX11_count_112 : decode cX11_count 112 = .ok (.aload_n 0, 1) := by decide +kernel
theorem dX11_count_113 : decode cX11_count 113 = .ok (.getfield 92, 3) := by decide +kernel
theorem dX11_count_116 : decode cX11_count 116 = .ok (.ireturn, 1) := by decide +kernel
theorem dX11_count_117 : decode cX11_count 117 = .ok (.aload_n 0, 1) := by decide +kernel
theorem dX11_count_118 : decode cX11_count 118 = .ok (.getfield 12, 3) := by decide +kernel
theorem dX11_count_121 : decode cX11_count 121 = .ok (.getfield 98, 3) := by decide +kernel
theorem dX11_count_124 : decode cX11_count 124 = .ok (.ireturn, 1) := by decide +kernel
theorem dX11_count_125 : decode cX11_count 125 = .ok (.aload_n 0, 1) := by decide +kernel
theorem dX11_count_126 : decode cX11_count 126 = .ok (.invokevirtual 301, 3) := by decide +kernel
theorem dX11_count_129 : decode cX11_count 129 = .ok (.ireturn, 1) := by decide +kernel
theorem dX11_count_130 : decode cX11_count 130 = .ok (.aload_n 0, 1) := by decide +kernel
theorem dX11_count_131 : decode cX11_count 131 = .ok (.getfield 70, 3) := by decide +kernel
theorem dX11_count_134 : decode cX11_count 134 = .ok (.sipush 999, 3) := by decide +kernel
theorem dX11_count_137 : decode cX11_count 137 = .ok (.iload_n 2, 1) := by decide +kernel
theorem dX11_count_138 : decode cX11_count 138 = .ok (.invokevirtual 173, 3) := by decide +kernel
theorem dX11_count_141 : decode cX11_count 141 = .ok (.ireturn, 1) := by decide +kernel
theorem dX11_count_142 : decode cX11_count 142 = .ok (.aload_n 0, 1) := by decide +kernel
theorem dX11_count_143 : decode cX11_count 143 = .ok (.getfield 70, 3) := by decide +kernel
theorem dX11_count_146 : decode cX11_count 146 = .ok (.iconst 0, 1) := by decide +kernel
theorem dX11_count_147 : decode cX11_count 147 = .ok (.iload_n 2, 1) := by decide +kernel
theorem dX11_count_148 : decode cX11_count 148 = .ok (.invokevirtual 170, 3) := by decide +kernel
theorem dX11_count_151 : decode cX11_count 151 = .ok (.ireturn, 1) := by decide +kernel
theorem dX11_count_152 : decode cX11_count 152 = .ok (.aload_n 0, 1) := by decide +kernel
theorem dX11_count_153 : decode cX11_count 153 = .ok (.getfield 39, 3) := by decide +kernel
theorem dX11_count_156 : decode cX11_count 156 = .ok (.getfield 234, 3) := by decide +kernel
theorem dX11_count_159 : decode cX11_count 159 = .ok (.iload_n 2, 1) := by decide +kernel
theorem dX11_count_160 : decode cX11_count 160 = .ok (.invokevirtual 304, 3) := by decide +kernel
theorem dX11_count_163 : decode cX11_count 163 = .ok (.ireturn, 1) := by decide +kernel
theorem dX11_count_164 : decode cX11_count 164 = .ok (.iconst (-1), 1) := by decide +kernel
theorem dX11_count_165 : decode cX11_count 165 = .ok (.ireturn, 1) := by decide +kernel
theorem dX11_feedFour_0 : decode cX11_feedFour 0 = .ok (.bipush 24, 2) := by decide +kernel
theorem dX11_feedFour_2 : decode cX11_feedFour 2 = .ok (.istore_n 2, 1) := by decide +kernel
theorem dX11_feedFour_3 : decode cX11_feedFour 3 = .ok (.iload_n 2, 1) := by decide +kernel
theorem dX11_feedFour_4 : decode cX11_feedFour 4 = .ok (.ifCond .lt 23, 3) := by decide +kernel
theorem dX11_feedFour_7 : decode cX11_feedFour 7 = .ok (.aload_n 0, 1) := by decide +kernel
theorem dX11_feedFour_8 : decode cX11_feedFour 8 = .ok (.getfield 12, 3) := by decide +kernel
theorem dX11_feedFour_11 : decode cX11_feedFour 11 = .ok (.iload_n 1, 1) := by decide +kernel
theorem dX11_feedFour_12 : decode cX11_feedFour 12 = .ok (.iload_n 2, 1) := by decide +kernel
theorem dX11_feedFour_13 : decode cX11_feedFour 13 = .ok (.iushr, 1) := by decide +kernel
theorem dX11_feedFour_14 : decode cX11_feedFour 14 = .ok (.sipush 255, 3) := by decide +kernel
theorem dX11_feedFour_17 : decode cX11_feedFour 17 = .ok (.iand, 1) := by decide +kernel
theorem dX11_feedFour_18 : decode cX11_feedFour 18 = .ok (.invokevirtual 307, 3) := by decide +kernel
theorem dX11_feedFour_21 : decode cX11_feedFour 21 = .ok (.iinc 2 (-8), 3) := by decide +kernel
theorem dX11_feedFour_24 : decode cX11_feedFour 24 = .ok (.goto (-21), 3) := by decide +kernel
theorem dX11_feedFour_27 : decode cX11_feedFour 27 = .ok (.return_, 1) := by decide +kernel
theorem dX11_emptySlots_0 : decode cX11_emptySlots 0 = .ok (.iconst 0, 1) := by decide +kernel
theorem dX11_emptySlots_1 : decode cX11_emptySlots 1 = .ok (.istore_n 1, 1) := by decide +kernel
theorem dX11_emptySlots_2 : decode cX11_emptySlots 2 = .ok (.iload_n 1, 1) := by decide +kernel
theorem dX11_emptySlots_3 : decode cX11_emptySlots 3 = .ok (.iconst 3, 1) := by decide +kernel
theorem dX11_emptySlots_4 : decode cX11_emptySlots 4 = .ok (.if_icmp .ge 27, 3) := by decide +kernel
theorem dX11_emptySlots_7 : decode cX11_emptySlots 7 = .ok (.aload_n 0, 1) := by decide +kernel
theorem dX11_emptySlots_8 : decode cX11_emptySlots 8 = .ok (.iload_n 1, 1) := by decide +kernel
theorem dX11_emptySlots_9 : decode cX11_emptySlots 9 = .ok (.invokevirtual 284, 3) := by decide +kernel
theorem dX11_emptySlots_12 : decode cX11_emptySlots 12 = .ok (.ifCond .eq 13, 3) := by decide +kernel
theorem dX11_emptySlots_15 : decode cX11_emptySlots 15 = .ok (.aload_n 0, 1) := by decide +kernel
theorem dX11_emptySlots_16 : decode cX11_emptySlots 16 = .ok (.getfield 81, 3) := by decide +kernel
theorem dX11_emptySlots_19 : decode cX11_emptySlots 19 = .ok (.iload_n 1, 1) := by decide +kernel
theorem dX11_emptySlots_20 : decode cX11_emptySlots 20 = .ok (.aaload, 1) := by decide +kernel
theorem dX11_emptySlots_21 : decode cX11_emptySlots 21 = .ok (.iconst 0, 1) := by decide +kernel
theorem dX11_emptySlots_22 : decode cX11_emptySlots 22 = .ok (.putfield 290, 3) := by decide +kernel
theorem dX11_emptySlots_25 : decode cX11_emptySlots 25 = .ok (.iinc 1 1, 3) := by decide +kernel
theorem dX11_emptySlots_28 : decode cX11_emptySlots 28 = .ok (.goto (-26), 3) := by decide +kernel
theorem dX11_emptySlots_31 : decode cX11_emptySlots 31 = .ok (.return_, 1) := by decide +kernel
theorem dX11_filledSlots_0 : decode cX11_filledSlots 0 = .ok (.iconst 0, 1) := by decide +kernel
theorem dX11_filledSlots_1 : decode cX11_filledSlots 1 = .ok (.istore_n 1, 1) := by decide +kernel
theorem dX11_filledSlots_2 : decode cX11_filledSlots 2 = .ok (.iconst 0, 1) := by decide +kernel
theorem dX11_filledSlots_3 : decode cX11_filledSlots 3 = .ok (.istore_n 2, 1) := by decide +kernel
theorem dX11_filledSlots_4 : decode cX11_filledSlots 4 = .ok (.iload_n 2, 1) := by decide +kernel
theorem dX11_filledSlots_5 : decode cX11_filledSlots 5 = .ok (.iconst 3, 1) := by decide +kernel
theorem dX11_filledSlots_6 : decode cX11_filledSlots 6 = .ok (.if_icmp .ge 32, 3) := by decide +kernel
theorem dX11_filledSlots_9 : decode cX11_filledSlots 9 = .ok (.aload_n 0, 1) := by decide +kernel
theorem dX11_filledSlots_10 : decode cX11_filledSlots 10 = .ok (.iload_n 2, 1) := by decide +kernel
theorem dX11_filledSlots_11 : decode cX11_filledSlots 11 = .ok (.invokevirtual 284, 3) := by decide +kernel
theorem dX11_filledSlots_14 : decode cX11_filledSlots 14 = .ok (.ifCond .eq 18, 3) := by decide +kernel
theorem dX11_filledSlots_17 : decode cX11_filledSlots 17 = .ok (.aload_n 0, 1) := by decide +kernel
theorem dX11_filledSlots_18 : decode cX11_filledSlots 18 = .ok (.getfield 81, 3) := by decide +kernel
theorem dX11_filledSlots_21 : decode cX11_filledSlots 21 = .ok (.iload_n 2, 1) := by decide +kernel
theorem dX11_filledSlots_22 : decode cX11_filledSlots 22 = .ok (.aaload, 1) := by decide +kernel
theorem dX11_filledSlots_23 : decode cX11_filledSlots 23 = .ok (.getfield 290, 3) := by decide +kernel
theorem dX11_filledSlots_26 : decode cX11_filledSlots 26 = .ok (.ifCond .eq 6, 3) := by decide +kernel
theorem dX11_filledSlots_29 : decode cX11_filledSlots 29 = .ok (.iinc 1 1, 3) := by decide +kernel
theorem dX11_filledSlots_32 : decode cX11_filledSlots 32 = .ok (.iinc 2 1, 3) := by decide +kernel
theorem dX11_filledSlots_35 : decode cX11_filledSlots 35 = .ok (.goto (-31), 3) := by decide +kernel
theorem dX11_filledSlots_38 : decode cX11_filledSlots 38 = .ok (.iload_n 1, 1) := by decide +kernel
theorem dX11_filledSlots_39 : decode cX11_filledSlots 39 = .ok (.ireturn, 1) := by decide +kernel
theorem dX11_tellAll_0 : decode cX11_tellAll 0 = .ok (.aload_n 0, 1) := by decide +kernel
theorem dX11_tellAll_1 : decode cX11_tellAll 1 = .ok (.iconst 0, 1) := by decide +kernel
theorem dX11_tellAll_2 : decode cX11_tellAll 2 = .ok (.putfield 89, 3) := by decide +kernel
theorem dX11_tellAll_5 : decode cX11_tellAll 5 = .ok (.aload_n 0, 1) := by decide +kernel
theorem dX11_tellAll_6 : decode cX11_tellAll 6 = .ok (.iconst 0, 1) := by decide +kernel
theorem dX11_tellAll_7 : decode cX11_tellAll 7 = .ok (.putfield 92, 3) := by decide +kernel
theorem dX11_tellAll_10 : decode cX11_tellAll 10 = .ok (.aload_n 0, 1) := by decide +kernel
theorem dX11_tellAll_11 : decode cX11_tellAll 11 = .ok (.getfield 48, 3) := by decide +kernel
theorem dX11_tellAll_14 : decode cX11_tellAll 14 = .ok (.invokevirtual 310, 3) := by decide +kernel
theorem dX11_tellAll_17 : decode cX11_tellAll 17 = .ok (.iconst 0, 1) := by decide +kernel
theorem dX11_tellAll_18 : decode cX11_tellAll 18 = .ok (.istore_n 1, 1) := by decide +kernel
theorem dX11_tellAll_19 : decode cX11_tellAll 19 = .ok (.iload_n 1, 1) := by decide +kernel
theorem dX11_tellAll_20 : decode cX11_tellAll 20 = .ok (.sipush 400, 3) := by decide +kernel
theorem dX11_tellAll_23 : decode cX11_tellAll 23 = .ok (.if_icmp .ge 93, 3) := by decide +kernel
theorem dX11_tellAll_26 : decode cX11_tellAll 26 = .ok (.aload_n 0, 1) := by decide +kernel
theorem dX11_tellAll_27 : decode cX11_tellAll 27 = .ok (.getfield 48, 3) := by decide +kernel
theorem dX11_tellAll_30 : decode cX11_tellAll 30 = .ok (.invokevirtual 313, 3) := by decide +kernel
theorem dX11_tellAll_33 : decode cX11_tellAll 33 = .ok (.ifCond .eq 83, 3) := by decide +kernel
theorem dX11_tellAll_36 : decode cX11_tellAll 36 = .ok (.aload_n 0, 1) := by decide +kernel
theorem dX11_tellAll_37 : decode cX11_tellAll 37 = .ok (.getfield 48, 3) := by decide +kernel
theorem dX11_tellAll_40 : decode cX11_tellAll 40 = .ok (.getfield 317, 3) := by decide +kernel
theorem dX11_tellAll_43 : decode cX11_tellAll 43 = .ok (.iconst 4, 1) := by decide +kernel
theorem dX11_tellAll_44 : decode cX11_tellAll 44 = .ok (.if_icmp .ne 27, 3) := by decide +kernel
theorem dX11_tellAll_47 : decode cX11_tellAll 47 = .ok (.aload_n 0, 1) := by decide +kernel
theorem dX11_tellAll_48 : decode cX11_tellAll 48 = .ok (.getfield 57, 3) := by decide +kernel
theorem dX11_tellAll_51 : decode cX11_tellAll 51 = .ok (.aload_n 0, 1) := by decide +kernel
theorem dX11_tellAll_52 : decode cX11_tellAll 52 = .ok (.getfield 48, 3) := by decide +kernel
theorem dX11_tellAll_55 : decode cX11_tellAll 55 = .ok (.getfield 320, 3) := by decide +kernel
theorem dX11_tellAll_58 : decode cX11_tellAll 58 = .ok (.aload_n 0, 1) := by decide +kernel
theorem dX11_tellAll_59 : decode cX11_tellAll 59 = .ok (.getfield 48, 3) := by decide +kernel
theorem dX11_tellAll_62 : decode cX11_tellAll 62 = .ok (.getfield 323, 3) := by decide +kernel
theorem dX11_tellAll_65 : decode cX11_tellAll 65 = .ok (.invokevirtual 130, 3) := by decide +kernel
theorem dX11_tellAll_68 : decode cX11_tellAll 68 = .ok (.goto 17, 3) := by decide +kernel
theorem dX11_tellAll_71 : decode cX11_tellAll 71 = .ok (.aload_n 0, 1) := by decide +kernel
theorem dX11_tellAll_72 : decode cX11_tellAll 72 = .ok (.getfield 57, 3) := by decide +kernel
theorem dX11_tellAll_75 : decode cX11_tellAll 75 = .ok (.aload_n 0, 1) := by decide +kernel
theorem dX11_tellAll_76 : decode cX11_tellAll 76 = .ok (.getfield 48, 3) := by decide +kernel
theorem dX11_tellAll_79 : decode cX11_tellAll 79 = .ok (.getfield 320, 3) := by decide +kernel
theorem dX11_tellAll_82 : decode cX11_tellAll 82 = .ok (.invokevirtual 140, 3) := by decide +kernel
theorem dX11_tellAll_85 : decode cX11_tellAll 85 = .ok (.istore_n 2, 1) := by decide +kernel
theorem dX11_tellAll_86 : decode cX11_tellAll 86 = .ok (.aload_n 0, 1) := by decide +kernel
theorem dX11_tellAll_87 : decode cX11_tellAll 87 = .ok (.dup, 1) := by decide +kernel
theorem dX11_tellAll_88 : decode cX11_tellAll 88 = .ok (.getfield 89, 3) := by decide +kernel
theorem dX11_tellAll_91 : decode cX11_tellAll 91 = .ok (.iconst 1, 1) := by decide +kernel
theorem dX11_tellAll_92 : decode cX11_tellAll 92 = .ok (.iadd, 1) := by decide +kernel
theorem dX11_tellAll_93 : decode cX11_tellAll 93 = .ok (.putfield 89, 3) := by decide +kernel
theorem dX11_tellAll_96 : decode cX11_tellAll 96 = .ok (.iload_n 2, 1) := by decide +kernel
theorem dX11_tellAll_97 : decode cX11_tellAll 97 = .ok (.ifCond .ne 13, 3) := by decide +kernel
theorem dX11_tellAll_100 : decode cX11_tellAll 100 = .ok (.aload_n 0, 1) := by decide +kernel
theorem dX11_tellAll_101 : decode cX11_tellAll 101 = .ok (.dup, 1) := by decide +kernel
theorem dX11_tellAll_102 : decode cX11_tellAll 102 = .ok (.getfield 92, 3) := by decide +kernel
theorem dX11_tellAll_105 : decode cX11_tellAll 105 = .ok (.iconst 1, 1) := by decide +kernel
theorem dX11_tellAll_106 : decode cX11_tellAll 106 = .ok (.iadd, 1) := by decide +kernel
theorem dX11_tellAll_107 : decode cX11_tellAll 107 = .ok (.putfield 92, 3) := by decide +kernel
theorem dX11_tellAll_110 : decode cX11_tellAll 110 = .ok (.iinc 1 1, 3) := by decide +kernel
theorem dX11_tellAll_113 : decode cX11_tellAll 113 = .ok (.goto (-94), 3) := by decide +kernel
theorem dX11_tellAll_116 : decode cX11_tellAll 116 = .ok (.return_, 1) := by decide +kernel
theorem dX11_entriesByTime_0 : decode cX11_entriesByTime 0 = .ok (.aload_n 0, 1) := by decide +kernel
theorem dX11_entriesByTime_1 : decode cX11_entriesByTime 1 = .ok (.getfield 39, 3) := by decide +kernel
theorem dX11_entriesByTime_4 : decode cX11_entriesByTime 4 = .ok (.getfield 63, 3) := by decide +kernel
theorem dX11_entriesByTime_7 : decode cX11_entriesByTime 7 = .ok (.invokevirtual 134, 3) := by decide +kernel
theorem dX11_entriesByTime_10 : decode cX11_entriesByTime 10 = .ok (.istore_n 1, 1) := by decide +kernel
theorem dX11_entriesByTime_11 : decode cX11_entriesByTime 11 = .ok (.iload_n 1, 1) := by decide +kernel
theorem dX11_entriesByTime_12 : decode cX11_entriesByTime 12 = .ok (.ifCond .le 22, 3) := by decide +kernel
theorem dX11_entriesByTime_15 : decode cX11_entriesByTime 15 = .ok (.aload_n 0, 1) := by decide +kernel
theorem dX11_entriesByTime_16 : decode cX11_entriesByTime 16 = .ok (.getfield 39, 3) := by decide +kernel
theorem dX11_entriesByTime_19 : decode cX11_entriesByTime 19 = .ok (.getfield 234, 3) := by decide +kernel
theorem dX11_entriesByTime_22 : decode cX11_entriesByTime 22 = .ok (.invokevirtual 269, 3) := by decide +kernel
theorem dX11_entriesByTime_25 : decode cX11_entriesByTime 25 = .ok (.sipush 1000, 3) := by decide +kernel
theorem dX11_entriesByTime_28 : decode cX11_entriesByTime 28 = .ok (.imul, 1) := by decide +kernel
theorem dX11_entriesByTime_29 : decode cX11_entriesByTime 29 = .ok (.iload_n 1, 1) := by decide +kernel
theorem dX11_entriesByTime_30 : decode cX11_entriesByTime 30 = .ok (.idiv, 1) := by decide +kernel
theorem dX11_entriesByTime_31 : decode cX11_entriesByTime 31 = .ok (.goto 4, 3) := by decide +kernel
theorem dX11_entriesByTime_34 : decode cX11_entriesByTime 34 = .ok (.iconst 0, 1) := by decide +kernel
theorem dX11_entriesByTime_35 : decode cX11_entriesByTime 35 = .ok (.ireturn, 1) := by decide +kernel
theorem dX11_isTime_0 : decode cX11_isTime 0 = .ok (.iload_n 1, 1) := by decide +kernel
theorem dX11_isTime_1 : decode cX11_isTime 1 = .ok (.ifCond .lt 21, 3) := by decide +kernel
theorem dX11_isTime_4 : decode cX11_isTime 4 = .ok (.iload_n 1, 1) := by decide +kernel
theorem dX11_isTime_5 : decode cX11_isTime 5 = .ok (.aload_n 0, 1) := by decide +kernel
theorem dX11_isTime_6 : decode cX11_isTime 6 = .ok (.getfield 39, 3) := by decide +kernel
theorem dX11_isTime_9 : decode cX11_isTime 9 = .ok (.getfield 63, 3) := by decide +kernel
theorem dX11_isTime_12 : decode cX11_isTime 12 = .ok (.invokevirtual 134, 3) := by decide +kernel
theorem dX11_isTime_15 : decode cX11_isTime 15 = .ok (.if_icmp .gt 7, 3) := by decide +kernel
theorem dX11_isTime_18 : decode cX11_isTime 18 = .ok (.iconst 1, 1) := by decide +kernel
theorem dX11_isTime_19 : decode cX11_isTime 19 = .ok (.goto 4, 3) := by decide +kernel
theorem dX11_isTime_22 : decode cX11_isTime 22 = .ok (.iconst 0, 1) := by decide +kernel
theorem dX11_isTime_23 : decode cX11_isTime 23 = .ok (.ireturn, 1) := by decide +kernel
theorem dX11_isSpan_0 : decode cX11_isSpan 0 = .ok (.aload_n 0, 1) := by decide +kernel
theorem dX11_isSpan_1 : decode cX11_isSpan 1 = .ok (.iload_n 1, 1) := by decide +kernel
theorem dX11_isSpan_2 : decode cX11_isSpan 2 = .ok (.invokevirtual 143, 3) := by decide +kernel
theorem dX11_isSpan_5 : decode cX11_isSpan 5 = .ok (.ifCond .eq 20, 3) := by decide +kernel
theorem dX11_isSpan_8 : decode cX11_isSpan 8 = .ok (.aload_n 0, 1) := by decide +kernel
theorem dX11_isSpan_9 : decode cX11_isSpan 9 = .ok (.iload_n 2, 1) := by decide +kernel
theorem dX11_isSpan_10 : decode cX11_isSpan 10 = .ok (.invokevirtual 143, 3) := by decide +kernel
theorem dX11_isSpan_13 : decode cX11_isSpan 13 = .ok (.ifCond .eq 12, 3) := by decide +kernel
theorem dX11_isSpan_16 : decode cX11_isSpan 16 = .ok (.iload_n 1, 1) := by decide +kernel
theorem dX11_isSpan_17 : decode cX11_isSpan 17 = .ok (.iload_n 2, 1) := by decide +kernel
theorem dX11_isSpan_18 : decode cX11_isSpan 18 = .ok (.if_icmp .gt 7, 3) := by decide +kernel
theorem dX11_isSpan_21 : decode cX11_isSpan 21 = .ok (.iconst 1, 1) := by decide +kernel
theorem dX11_isSpan_22 : decode cX11_isSpan 22 = .ok (.goto 4, 3) := by decide +kernel
theorem dX11_isSpan_25 : decode cX11_isSpan 25 = .ok (.iconst 0, 1) := by decide +kernel
theorem dX11_isSpan_26 : decode cX11_isSpan 26 = .ok (.ireturn, 1) := by decide +kernel
theorem dX11_isSlot_0 : decode cX11_isSlot 0 = .ok (.iload_n 1, 1) := by decide +kernel
theorem dX11_isSlot_1 : decode cX11_isSlot 1 = .ok (.ifCond .lt 25, 3) := by decide +kernel
theorem dX11_isSlot_4 : decode cX11_isSlot 4 = .ok (.iload_n 1, 1) := by decide +kernel
theorem dX11_isSlot_5 : decode cX11_isSlot 5 = .ok (.aload_n 0, 1) := by decide +kernel
theorem dX11_isSlot_6 : decode cX11_isSlot 6 = .ok (.getfield 81, 3) := by decide +kernel
theorem dX11_isSlot_9 : decode cX11_isSlot 9 = .ok (.arraylength, 1) := by decide +kernel
theorem dX11_isSlot_10 : decode cX11_isSlot 10 = .ok (.if_icmp .ge 16, 3) := by decide +kernel
theorem dX11_isSlot_13 : decode cX11_isSlot 13 = .ok (.aload_n 0, 1) := by decide +kernel
theorem dX11_isSlot_14 : decode cX11_isSlot 14 = .ok (.getfield 81, 3) := by decide +kernel
theorem dX11_isSlot_17 : decode cX11_isSlot 17 = .ok (.iload_n 1, 1) := by decide +kernel
theorem dX11_isSlot_18 : decode cX11_isSlot 18 = .ok (.aaload, 1) := by decide +kernel
theorem dX11_isSlot_19 : decode cX11_isSlot 19 = .ok (.ifnull 7, 3) := by decide +kernel
theorem dX11_isSlot_22 : decode cX11_isSlot 22 = .ok (.iconst 1, 1) := by decide +kernel
theorem dX11_isSlot_23 : decode cX11_isSlot 23 = .ok (.goto 4, 3) := by decide +kernel
theorem dX11_isSlot_26 : decode cX11_isSlot 26 = .ok (.iconst 0, 1) := by decide +kernel
theorem dX11_isSlot_27 : decode cX11_isSlot 27 = .ok (.ireturn, 1) := by decide +kernel
theorem dX11_isKey_0 : decode cX11_isKey 0 = .ok (.iload_n 0, 1) := by decide +kernel
theorem dX11_isKey_1 : decode cX11_isKey 1 = .ok (.ifCond .lt 14, 3) := by decide +kernel
theorem dX11_isKey_4 : decode cX11_isKey 4 = .ok (.iload_n 0, 1) := by decide +kernel
theorem dX11_isKey_5 : decode cX11_isKey 5 = .ok (.sipush 1000, 3) := by decide +kernel
theorem dX11_isKey_8 : decode cX11_isKey 8 = .ok (.if_icmp .ge 7, 3) := by decide +kernel
theorem dX11_isKey_11 : decode cX11_isKey 11 = .ok (.iconst 1, 1) := by decide +kernel
theorem dX11_isKey_12 : decode cX11_isKey 12 = .ok (.goto 4, 3) := by decide +kernel
theorem dX11_isKey_15 : decode cX11_isKey 15 = .ok (.iconst 0, 1) := by decide +kernel
theorem dX11_isKey_16 : decode cX11_isKey 16 = .ok (.ireturn, 1) := by decide +kernel
theorem dX11_isRange_0 : decode cX11_isRange 0 = .ok (.iload_n 0, 1) := by decide +kernel
theorem dX11_isRange_1 : decode cX11_isRange 1 = .ok (.invokestatic 126, 3) := by decide +kernel
theorem dX11_isRange_4 : decode cX11_isRange 4 = .ok (.ifCond .eq 14, 3) := by decide +kernel
theorem dX11_isRange_7 : decode cX11_isRange 7 = .ok (.iload_n 1, 1) := by decide +kernel
theorem dX11_isRange_8 : decode cX11_isRange 8 = .ok (.invokestatic 126, 3) := by decide +kernel
theorem dX11_isRange_11 : decode cX11_isRange 11 = .ok (.ifCond .eq 7, 3) := by decide +kernel
theorem dX11_isRange_14 : decode cX11_isRange 14 = .ok (.iconst 1, 1) := by decide +kernel
theorem dX11_isRange_15 : decode cX11_isRange 15 = .ok (.goto 4, 3) := by decide +kernel
theorem dX11_isRange_18 : decode cX11_isRange 18 = .ok (.iconst 0, 1) := by decide +kernel
theorem dX11_isRange_19 : decode cX11_isRange 19 = .ok (.ireturn, 1) := by decide +kernel
theorem dX11_isEither_0 : decode cX11_isEither 0 = .ok (.iload_n 0, 1) := by decide +kernel
theorem dX11_isEither_1 : decode cX11_isEither 1 = .ok (.ifCond .eq 8, 3) := by decide +kernel
theorem dX11_isEither_4 : decode cX11_isEither 4 = .ok (.iload_n 0, 1) := by decide +kernel
theorem dX11_isEither_5 : decode cX11_isEither 5 = .ok (.iconst 1, 1) := by decide +kernel
theorem dX11_isEither_6 : decode cX11_isEither 6 = .ok (.if_icmp .ne 7, 3) := by decide +kernel
theorem dX11_isEither_9 : decode cX11_isEither 9 = .ok (.iconst 1, 1) := by decide +kernel
theorem dX11_isEither_10 : decode cX11_isEither 10 = .ok (.goto 4, 3) := by decide +kernel
theorem dX11_isEither_13 : decode cX11_isEither 13 = .ok (.iconst 0, 1) := by decide +kernel
theorem dX11_isEither_14 : decode cX11_isEither 14 = .ok (.ireturn, 1) := by decide +kernel
