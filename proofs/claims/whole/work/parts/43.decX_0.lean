theorem dX0_init_0 : decode cX0_init 0 = .ok (.aload_n 0, 1) := by decide +kernel
theorem dX0_init_1 : decode cX0_init 1 = .ok (.invokespecial 3, 3) := by decide +kernel
theorem dX0_init_4 : decode cX0_init 4 = .ok (.aload_n 0, 1) := by decide +kernel
theorem dX0_init_5 : decode cX0_init 5 = .ok (.sipush 1000, 3) := by decide +kernel
theorem dX0_init_8 : decode cX0_init 8 = .ok (.newarray .int, 2) := by decide +kernel
theorem dX0_init_10 : decode cX0_init 10 = .ok (.putfield 11, 3) := by decide +kernel
theorem dX0_init_13 : decode cX0_init 13 = .ok (.aload_n 0, 1) := by decide +kernel
theorem dX0_init_14 : decode cX0_init 14 = .ok (.sipush 1000, 3) := by decide +kernel
theorem dX0_init_17 : decode cX0_init 17 = .ok (.newarray .int, 2) := by decide +kernel
theorem dX0_init_19 : decode cX0_init 19 = .ok (.putfield 15, 3) := by decide +kernel
theorem dX0_init_22 : decode cX0_init 22 = .ok (.aload_n 0, 1) := by decide +kernel
theorem dX0_init_23 : decode cX0_init 23 = .ok (.sipush 1000, 3) := by decide +kernel
theorem dX0_init_26 : decode cX0_init 26 = .ok (.newarray .long, 2) := by decide +kernel
theorem dX0_init_28 : decode cX0_init 28 = .ok (.putfield 18, 3) := by decide +kernel
theorem dX0_init_31 : decode cX0_init 31 = .ok (.aload_n 0, 1) := by decide +kernel
theorem dX0_init_32 : decode cX0_init 32 = .ok (.sipush 1000, 3) := by decide +kernel
theorem dX0_init_35 : decode cX0_init 35 = .ok (.newarray .int, 2) := by decide +kernel
theorem dX0_init_37 : decode cX0_init 37 = .ok (.putfield 22, 3) := by decide +kernel
theorem dX0_init_40 : decode cX0_init 40 = .ok (.return_, 1) := by decide +kernel
theorem dX0_empty_0 : decode cX0_empty 0 = .ok (.aload_n 0, 1) := by decide +kernel
theorem dX0_empty_1 : decode cX0_empty 1 = .ok (.iconst 0, 1) := by decide +kernel
theorem dX0_empty_2 : decode cX0_empty 2 = .ok (.putfield 25, 3) := by decide +kernel
theorem dX0_empty_5 : decode cX0_empty 5 = .ok (.return_, 1) := by decide +kernel
theorem dX0_bind_0 : decode cX0_bind 0 = .ok (.aload_n 0, 1) := by decide +kernel
theorem dX0_bind_1 : decode cX0_bind 1 = .ok (.getfield 25, 3) := by decide +kernel
theorem dX0_bind_4 : decode cX0_bind 4 = .ok (.sipush 1000, 3) := by decide +kernel
theorem dX0_bind_7 : decode cX0_bind 7 = .ok (.if_icmp .lt 5, 3) := by decide +kernel
theorem dX0_bind_10 : decode cX0_bind 10 = .ok (.iconst (-1), 1) := by decide +kernel
theorem dX0_bind_11 : decode cX0_bind 11 = .ok (.ireturn, 1) := by decide +kernel
theorem dX0_bind_12 : decode cX0_bind 12 = .ok (.aload_n 0, 1) := by decide +kernel
theorem dX0_bind_13 : decode cX0_bind 13 = .ok (.getfield 11, 3) := by decide +kernel
theorem dX0_bind_16 : decode cX0_bind 16 = .ok (.aload_n 0, 1) := by decide +kernel
theorem dX0_bind_17 : decode cX0_bind 17 = .ok (.getfield 25, 3) := by decide +kernel
theorem dX0_bind_20 : decode cX0_bind 20 = .ok (.iload_n 1, 1) := by decide +kernel
theorem dX0_bind_21 : decode cX0_bind 21 = .ok (.iastore, 1) := by decide +kernel
theorem dX0_bind_22 : decode cX0_bind 22 = .ok (.aload_n 0, 1) := by decide +kernel
theorem dX0_bind_23 : decode cX0_bind 23 = .ok (.getfield 15, 3) := by decide +kernel
theorem dX0_bind_26 : decode cX0_bind 26 = .ok (.aload_n 0, 1) := by decide +kernel
theorem dX0_bind_27 : decode cX0_bind 27 = .ok (.getfield 25, 3) := by decide +kernel
theorem dX0_bind_30 : decode cX0_bind 30 = .ok (.iload_n 2, 1) := by decide +kernel
theorem dX0_bind_31 : decode cX0_bind 31 = .ok (.iastore, 1) := by decide +kernel
theorem dX0_bind_32 : decode cX0_bind 32 = .ok (.aload_n 0, 1) := by decide +kernel
theorem dX0_bind_33 : decode cX0_bind 33 = .ok (.getfield 18, 3) := by decide +kernel
theorem dX0_bind_36 : decode cX0_bind 36 = .ok (.aload_n 0, 1) := by decide +kernel
theorem dX0_bind_37 : decode cX0_bind 37 = .ok (.getfield 25, 3) := by decide +kernel
theorem dX0_bind_40 : decode cX0_bind 40 = .ok (.lload_n 3, 1) := by decide +kernel
theorem dX0_bind_41 : decode cX0_bind 41 = .ok (.lastore, 1) := by decide +kernel
theorem dX0_bind_42 : decode cX0_bind 42 = .ok (.aload_n 0, 1) := by decide +kernel
theorem dX0_bind_43 : decode cX0_bind 43 = .ok (.getfield 22, 3) := by decide +kernel
theorem dX0_bind_46 : decode cX0_bind 46 = .ok (.aload_n 0, 1) := by decide +kernel
theorem dX0_bind_47 : decode cX0_bind 47 = .ok (.getfield 25, 3) := by decide +kernel
theorem dX0_bind_50 : decode cX0_bind 50 = .ok (.iload 5, 2) := by decide +kernel
theorem dX0_bind_52 : decode cX0_bind 52 = .ok (.iastore, 1) := by decide +kernel
theorem dX0_bind_53 : decode cX0_bind 53 = .ok (.aload_n 0, 1) := by decide +kernel
theorem dX0_bind_54 : decode cX0_bind 54 = .ok (.dup, 1) := by decide +kernel
theorem dX0_bind_55 : decode cX0_bind 55 = .ok (.getfield 25, 3) := by decide +kernel
theorem dX0_bind_58 : decode cX0_bind 58 = .ok (.iconst 1, 1) := by decide +kernel
theorem dX0_bind_59 : decode cX0_bind 59 = .ok (.iadd, 1) := by decide +kernel
theorem dX0_bind_60 : decode cX0_bind 60 = .ok (.putfield 25, 3) := by decide +kernel
theorem dX0_bind_63 : decode cX0_bind 63 = .ok (.aload_n 0, 1) := by decide +kernel
theorem dX0_bind_64 : decode cX0_bind 64 = .ok (.getfield 25, 3) := by decide +kernel
theorem dX0_bind_67 : decode cX0_bind 67 = .ok (.iconst 1, 1) := by decide +kernel
theorem dX0_bind_68 : decode cX0_bind 68 = .ok (.isub, 1) := by decide +kernel
theorem dX0_bind_69 : decode cX0_bind 69 = .ok (.ireturn, 1) := by decide +kernel
theorem dX0_find_0 : decode cX0_find 0 = .ok (.iload_n 2, 1) := by decide +kernel
theorem dX0_find_1 : decode cX0_find 1 = .ok (.istore_n 3, 1) := by decide +kernel
theorem dX0_find_2 : decode cX0_find 2 = .ok (.iconst 0, 1) := by decide +kernel
theorem dX0_find_3 : decode cX0_find 3 = .ok (.istore 4, 2) := by decide +kernel
theorem dX0_find_5 : decode cX0_find 5 = .ok (.iload 4, 2) := by decide +kernel
theorem dX0_find_7 : decode cX0_find 7 = .ok (.sipush 1000, 3) := by decide +kernel
theorem dX0_find_10 : decode cX0_find 10 = .ok (.if_icmp .ge 40, 3) := by decide +kernel
theorem dX0_find_13 : decode cX0_find 13 = .ok (.iload_n 3, 1) := by decide +kernel
theorem dX0_find_14 : decode cX0_find 14 = .ok (.ifCond .lt 36, 3) := by decide +kernel
theorem dX0_find_17 : decode cX0_find 17 = .ok (.iload_n 3, 1) := by decide +kernel
theorem dX0_find_18 : decode cX0_find 18 = .ok (.aload_n 0, 1) := by decide +kernel
theorem dX0_find_19 : decode cX0_find 19 = .ok (.getfield 25, 3) := by decide +kernel
theorem dX0_find_22 : decode cX0_find 22 = .ok (.if_icmp .ge 28, 3) := by decide +kernel
theorem dX0_find_25 : decode cX0_find 25 = .ok (.aload_n 0, 1) := by decide +kernel
theorem dX0_find_26 : decode cX0_find 26 = .ok (.getfield 11, 3) := by decide +kernel
theorem dX0_find_29 : decode cX0_find 29 = .ok (.iload_n 3, 1) := by decide +kernel
theorem dX0_find_30 : decode cX0_find 30 = .ok (.iaload, 1) := by decide +kernel
theorem dX0_find_31 : decode cX0_find 31 = .ok (.iload_n 1, 1) := by decide +kernel
theorem dX0_find_32 : decode cX0_find 32 = .ok (.if_icmp .ne 5, 3) := by decide +kernel
theorem dX0_find_35 : decode cX0_find 35 = .ok (.iload_n 3, 1) := by decide +kernel
theorem dX0_find_36 : decode cX0_find 36 = .ok (.ireturn, 1) := by decide +kernel
theorem dX0_find_37 : decode cX0_find 37 = .ok (.aload_n 0, 1) := by decide +kernel
theorem dX0_find_38 : decode cX0_find 38 = .ok (.getfield 22, 3) := by decide +kernel
theorem dX0_find_41 : decode cX0_find 41 = .ok (.iload_n 3, 1) := by decide +kernel
theorem dX0_find_42 : decode cX0_find 42 = .ok (.iaload, 1) := by decide +kernel
theorem dX0_find_43 : decode cX0_find 43 = .ok (.istore_n 3, 1) := by decide +kernel
theorem dX0_find_44 : decode cX0_find 44 = .ok (.iinc 4 1, 3) := by decide +kernel
theorem dX0_find_47 : decode cX0_find 47 = .ok (.goto (-42), 3) := by decide +kernel
theorem dX0_find_50 : decode cX0_find 50 = .ok (.iconst (-1), 1) := by decide +kernel
theorem dX0_find_51 : decode cX0_find 51 = .ok (.ireturn, 1) := by decide +kernel
theorem dX0_functionAt_0 : decode cX0_functionAt 0 = .ok (.aload_n 0, 1) := by decide +kernel
theorem dX0_functionAt_1 : decode cX0_functionAt 1 = .ok (.getfield 15, 3) := by decide +kernel
theorem dX0_functionAt_4 : decode cX0_functionAt 4 = .ok (.iload_n 1, 1) := by decide +kernel
theorem dX0_functionAt_5 : decode cX0_functionAt 5 = .ok (.invokestatic 29, 3) := by decide +kernel
theorem dX0_functionAt_8 : decode cX0_functionAt 8 = .ok (.ireturn, 1) := by decide +kernel
theorem dX0_numberAt_0 : decode cX0_numberAt 0 = .ok (.aload_n 0, 1) := by decide +kernel
theorem dX0_numberAt_1 : decode cX0_numberAt 1 = .ok (.getfield 18, 3) := by decide +kernel
theorem dX0_numberAt_4 : decode cX0_numberAt 4 = .ok (.iload_n 1, 1) := by decide +kernel
theorem dX0_numberAt_5 : decode cX0_numberAt 5 = .ok (.invokestatic 33, 3) := by decide +kernel
theorem dX0_numberAt_8 : decode cX0_numberAt 8 = .ok (.lreturn, 1) := by decide +kernel
theorem dX0_roundOf_0 : decode cX0_roundOf 0 = .ok (.aload_n 0, 1) := by decide +kernel
theorem dX0_roundOf_1 : decode cX0_roundOf 1 = .ok (.getfield 22, 3) := by decide +kernel
theorem dX0_roundOf_4 : decode cX0_roundOf 4 = .ok (.iload_n 1, 1) := by decide +kernel
theorem dX0_roundOf_5 : decode cX0_roundOf 5 = .ok (.invokestatic 29, 3) := by decide +kernel
theorem dX0_roundOf_8 : decode cX0_roundOf 8 = .ok (.ireturn, 1) := by decide +kernel
theorem dX1_init_0 : decode cX1_init 0 = .ok (.aload_n 0, 1) := by decide +kernel
theorem dX1_init_1 : decode cX1_init 1 = .ok (.invokespecial 3, 3) := by decide +kernel
theorem dX1_init_4 : decode cX1_init 4 = .ok (.aload_n 0, 1) := by decide +kernel
theorem dX1_init_5 : decode cX1_init 5 = .ok (.sipush 200, 3) := by decide +kernel
theorem dX1_init_8 : decode cX1_init 8 = .ok (.newarray .long, 2) := by decide +kernel
theorem dX1_init_10 : decode cX1_init 10 = .ok (.putfield 9, 3) := by decide +kernel
theorem dX1_init_13 : decode cX1_init 13 = .ok (.aload_n 0, 1) := by decide +kernel
theorem dX1_init_14 : decode cX1_init 14 = .ok (.bipush 100, 2) := by decide +kernel
theorem dX1_init_16 : decode cX1_init 16 = .ok (.newarray .long, 2) := by decide +kernel
theorem dX1_init_18 : decode cX1_init 18 = .ok (.putfield 15, 3) := by decide +kernel
theorem dX1_init_21 : decode cX1_init 21 = .ok (.aload_n 0, 1) := by decide +kernel
theorem dX1_init_22 : decode cX1_init 22 = .ok (.bipush 50, 2) := by decide +kernel
theorem dX1_init_24 : decode cX1_init 24 = .ok (.newarray .long, 2) := by decide +kernel
theorem dX1_init_26 : decode cX1_init 26 = .ok (.putfield 18, 3) := by decide +kernel
theorem dX1_init_29 : decode cX1_init 29 = .ok (.return_, 1) := by decide +kernel
theorem dX1_solve_0 : decode cX1_solve 0 = .ok (.iconst 0, 1) := by decide +kernel
theorem dX1_solve_1 : decode cX1_solve 1 = .ok (.istore_n 2, 1) := by decide +kernel
theorem dX1_solve_2 : decode cX1_solve 2 = .ok (.iload_n 2, 1) := by decide +kernel
theorem dX1_solve_3 : decode cX1_solve 3 = .ok (.sipush 200, 3) := by decide +kernel
theorem dX1_solve_6 : decode cX1_solve 6 = .ok (.if_icmp .ge 16, 3) := by decide +kernel
theorem dX1_solve_9 : decode cX1_solve 9 = .ok (.aload_n 0, 1) := by decide +kernel
theorem dX1_solve_10 : decode cX1_solve 10 = .ok (.getfield 9, 3) := by decide +kernel
theorem dX1_solve_13 : decode cX1_solve 13 = .ok (.iload_n 2, 1) := by decide +kernel
theorem dX1_solve_14 : decode cX1_solve 14 = .ok (.lconst 0, 1) := by decide +kernel
theorem dX1_solve_15 : decode cX1_solve 15 = .ok (.lastore, 1) := by decide +kernel
theorem dX1_solve_16 : decode cX1_solve 16 = .ok (.iinc 2 1, 3) := by decide +kernel
theorem dX1_solve_19 : decode cX1_solve 19 = .ok (.goto (-17), 3) := by decide +kernel
theorem dX1_solve_22 : decode cX1_solve 22 = .ok (.iconst 0, 1) := by decide +kernel
theorem dX1_solve_23 : decode cX1_solve 23 = .ok (.istore_n 2, 1) := by decide +kernel
theorem dX1_solve_24 : decode cX1_solve 24 = .ok (.iload_n 2, 1) := by decide +kernel
theorem dX1_solve_25 : decode cX1_solve 25 = .ok (.bipush 100, 2) := by decide +kernel
theorem dX1_solve_27 : decode cX1_solve 27 = .ok (.if_icmp .ge 16, 3) := by decide +kernel
theorem dX1_solve_30 : decode cX1_solve 30 = .ok (.aload_n 0, 1) := by decide +kernel
theorem dX1_solve_31 : decode cX1_solve 31 = .ok (.getfield 15, 3) := by decide +kernel
theorem dX1_solve_34 : decode cX1_solve 34 = .ok (.iload_n 2, 1) := by decide +kernel
theorem dX1_solve_35 : decode cX1_solve 35 = .ok (.lconst 0, 1) := by decide +kernel
theorem dX1_solve_36 : decode cX1_solve 36 = .ok (.lastore, 1) := by decide +kernel
theorem dX1_solve_37 : decode cX1_solve 37 = .ok (.iinc 2 1, 3) := by decide +kernel
theorem dX1_solve_40 : decode cX1_solve 40 = .ok (.goto (-16), 3) := by decide +kernel
theorem dX1_solve_43 : decode cX1_solve 43 = .ok (.aload_n 0, 1) := by decide +kernel
theorem dX1_solve_44 : decode cX1_solve 44 = .ok (.iconst 1, 1) := by decide +kernel
theorem dX1_solve_45 : decode cX1_solve 45 = .ok (.putfield 21, 3) := by decide +kernel
theorem dX1_solve_48 : decode cX1_solve 48 = .ok (.iconst 0, 1) := by decide +kernel
theorem dX1_solve_49 : decode cX1_solve 49 = .ok (.istore_n 2, 1) := by decide +kernel
theorem dX1_solve_50 : decode cX1_solve 50 = .ok (.iload_n 2, 1) := by decide +kernel
theorem dX1_solve_51 : decode cX1_solve 51 = .ok (.sipush 15001, 3) := by decide +kernel
theorem dX1_solve_54 : decode cX1_solve 54 = .ok (.if_icmp .ge 66, 3) := by decide +kernel
theorem dX1_solve_57 : decode cX1_solve 57 = .ok (.aload_n 0, 1) := by decide +kernel
theorem dX1_solve_58 : decode cX1_solve 58 = .ok (.getfield 21, 3) := by decide +kernel
theorem dX1_solve_61 : decode cX1_solve 61 = .ok (.ifCond .eq 59, 3) := by decide +kernel
theorem dX1_solve_64 : decode cX1_solve 64 = .ok (.aload_n 0, 1) := by decide +kernel
theorem dX1_solve_65 : decode cX1_solve 65 = .ok (.iconst 0, 1) := by decide +kernel
theorem dX1_solve_66 : decode cX1_solve 66 = .ok (.putfield 21, 3) := by decide +kernel
theorem dX1_solve_69 : decode cX1_solve 69 = .ok (.iconst 0, 1) := by decide +kernel
theorem dX1_solve_70 : decode cX1_solve 70 = .ok (.istore_n 3, 1) := by decide +kernel
theorem dX1_solve_71 : decode cX1_solve 71 = .ok (.iload_n 3, 1) := by decide +kernel
theorem dX1_solve_72 : decode cX1_solve 72 = .ok (.aload_n 1, 1) := by decide +kernel
theorem dX1_solve_73 : decode cX1_solve 73 = .ok (.getfield 25, 3) := by decide +kernel
theorem dX1_solve_76 : decode cX1_solve 76 = .ok (.if_icmp .ge 15, 3) := by decide +kernel
theorem dX1_solve_79 : decode cX1_solve 79 = .ok (.aload_n 0, 1) := by decide +kernel
theorem dX1_solve_80 : decode cX1_solve 80 = .ok (.aload_n 1, 1) := by decide +kernel
theorem dX1_solve_81 : decode cX1_solve 81 = .ok (.iload_n 3, 1) := by decide +kernel
theorem dX1_solve_82 : decode cX1_solve 82 = .ok (.invokevirtual 31, 3) := by decide +kernel
theorem dX1_solve_85 : decode cX1_solve 85 = .ok (.iinc 3 1, 3) := by decide +kernel
theorem dX1_solve_88 : decode cX1_solve 88 = .ok (.goto (-17), 3) := by decide +kernel
theorem dX1_solve_91 : decode cX1_solve 91 = .ok (.aload_n 1, 1) := by decide +kernel
theorem dX1_solve_92 : decode cX1_solve 92 = .ok (.getfield 25, 3) := by decide +kernel
theorem dX1_solve_95 : decode cX1_solve 95 = .ok (.iconst 1, 1) := by decide +kernel
theorem dX1_solve_96 : decode cX1_solve 96 = .ok (.isub, 1) := by decide +kernel
theorem dX1_solve_97 : decode cX1_solve 97 = .ok (.istore_n 3, 1) := by decide +kernel
theorem dX1_solve_98 : decode cX1_solve 98 = .ok (.iload_n 3, 1) := by decide +kernel
theorem dX1_solve_99 : decode cX1_solve 99 = .ok (.ifCond .lt 15, 3) := by decide +kernel
theorem dX1_solve_102 : decode cX1_solve 102 = .ok (.aload_n 0, 1) := by decide +kernel
theorem dX1_solve_103 : decode cX1_solve 103 = .ok (.aload_n 1, 1) := by decide +kernel
theorem dX1_solve_104 : decode cX1_solve 104 = .ok (.iload_n 3, 1) := by decide +kernel
theorem dX1_solve_105 : decode cX1_solve 105 = .ok (.invokevirtual 31, 3) := by decide +kernel
theorem dX1_solve_108 : decode cX1_solve 108 = .ok (.iinc 3 (-1), 3) := by decide +kernel
theorem dX1_solve_111 : decode cX1_solve 111 = .ok (.goto (-13), 3) := by decide +kernel
theorem dX1_solve_114 : decode cX1_solve 114 = .ok (.iinc 2 1, 3) := by decide +kernel
theorem dX1_solve_117 : decode cX1_solve 117 = .ok (.goto (-67), 3) := by decide +kernel
theorem dX1_solve_120 : decode cX1_solve 120 = .ok (.aload_n 0, 1) := by decide +kernel
theorem dX1_solve_121 : decode cX1_solve 121 = .ok (.aload_n 1, 1) := by decide +kernel
theorem dX1_solve_122 : decode cX1_solve 122 = .ok (.invokevirtual 35, 3) := by decide +kernel
theorem dX1_solve_125 : decode cX1_solve 125 = .ok (.return_, 1) := by decide +kernel
theorem dX1_reachesBit_0 : decode cX1_reachesBit 0 = .ok (.iload_n 2, 1) := by decide +kernel
theorem dX1_reachesBit_1 : decode cX1_reachesBit 1 = .ok (.ifCond .lt 25, 3) := by decide +kernel
theorem dX1_reachesBit_4 : decode cX1_reachesBit 4 = .ok (.iload_n 2, 1) := by decide +kernel
theorem dX1_reachesBit_5 : decode cX1_reachesBit 5 = .ok (.bipush 50, 2) := by decide +kernel
theorem dX1_reachesBit_7 : decode cX1_reachesBit 7 = .ok (.if_icmp .ge 19, 3) := by decide +kernel
theorem dX1_reachesBit_10 : decode cX1_reachesBit 10 = .ok (.aload_n 0, 1) := by decide +kernel
theorem dX1_reachesBit_11 : decode cX1_reachesBit 11 = .ok (.getfield 18, 3) := by decide +kernel
theorem dX1_reachesBit_14 : decode cX1_reachesBit 14 = .ok (.iload_n 1, 1) := by decide +kernel
theorem dX1_reachesBit_15 : decode cX1_reachesBit 15 = .ok (.invokestatic 39, 3) := by decide +kernel
theorem dX1_reachesBit_18 : decode cX1_reachesBit 18 = .ok (.iload_n 2, 1) := by decide +kernel
theorem dX1_reachesBit_19 : decode cX1_reachesBit 19 = .ok (.lushr, 1) := by decide +kernel
theorem dX1_reachesBit_20 : decode cX1_reachesBit 20 = .ok (.lconst 1, 1) := by decide +kernel
theorem dX1_reachesBit_21 : decode cX1_reachesBit 21 = .ok (.land, 1) := by decide +kernel
theorem dX1_reachesBit_22 : decode cX1_reachesBit 22 = .ok (.l2i, 1) := by decide +kernel
theorem dX1_reachesBit_23 : decode cX1_reachesBit 23 = .ok (.goto 4, 3) := by decide +kernel
theorem dX1_reachesBit_26 : decode cX1_reachesBit 26 = .ok (.iconst 0, 1) := by decide +kernel
theorem dX1_reachesBit_27 : decode cX1_reachesBit 27 = .ok (.ireturn, 1) := by decide +kernel
theorem dX1_pour_0 : decode cX1_pour 0 = .ok (.aload_n 1, 1) := by decide +kernel
theorem dX1_pour_1 : decode cX1_pour 1 = .ok (.getfield 43, 3) := by decide +kernel
theorem dX1_pour_4 : decode cX1_pour 4 = .ok (.iload_n 2, 1) := by decide +kernel
theorem dX1_pour_5 : decode cX1_pour 5 = .ok (.invokestatic 47, 3) := by decide +kernel
theorem dX1_pour_8 : decode cX1_pour 8 = .ok (.istore_n 3, 1) := by decide +kernel
theorem dX1_pour_9 : decode cX1_pour 9 = .ok (.aload_n 1, 1) := by decide +kernel
theorem dX1_pour_10 : decode cX1_pour 10 = .ok (.getfield 51, 3) := by decide +kernel
theorem dX1_pour_13 : decode cX1_pour 13 = .ok (.iload_n 2, 1) := by decide +kernel
theorem dX1_pour_14 : decode cX1_pour 14 = .ok (.invokestatic 47, 3) := by decide +kernel
theorem dX1_pour_17 : decode cX1_pour 17 = .ok (.tableswitch 196 0 11 #[63, 196, 79, 97, 137, 160, 196, 196, 196, 196, 196, 187], 63) := by decide +kernel
theorem dX1_pour_80 : decode cX1_pour 80 = .ok (.aload_n 0, 1) := by decide +kernel
theorem dX1_pour_81 : decode cX1_pour 81 = .ok (.iload_n 2, 1) := by decide +kernel
theorem dX1_pour_82 : decode cX1_pour 82 = .ok (.aload_n 0, 1) := by decide +kernel
theorem dX1_pour_83 : decode cX1_pour 83 = .ok (.getfield 15, 3) := by decide +kernel
theorem dX1_pour_86 : decode cX1_pour 86 = .ok (.iload_n 3, 1) := by decide +kernel
theorem dX1_pour_87 : decode cX1_pour 87 = .ok (.invokestatic 39, 3) := by decide +kernel
theorem dX1_pour_90 : decode cX1_pour 90 = .ok (.invokevirtual 54, 3) := by decide +kernel
theorem dX1_pour_93 : decode cX1_pour 93 = .ok (.goto 120, 3) := by decide +kernel
theorem dX1_pour_96 : decode cX1_pour 96 = .ok (.aload_n 0, 1) := by decide +kernel
theorem dX1_pour_97 : decode cX1_pour 97 = .ok (.iload_n 2, 1) := by decide +kernel
theorem dX1_pour_98 : decode cX1_pour 98 = .ok (.lconst 1, 1) := by decide +kernel
theorem dX1_pour_99 : decode cX1_pour 99 = .ok (.aload_n 1, 1) := by decide +kernel
theorem dX1_pour_100 : decode cX1_pour 100 = .ok (.getfield 58, 3) := by decide +kernel
theorem dX1_pour_103 : decode cX1_pour 103 = .ok (.iload_n 2, 1) := by decide +kernel
theorem dX1_pour_104 : decode cX1_pour 104 = .ok (.invokestatic 47, 3) := by decide +kernel
theorem dX1_pour_107 : decode cX1_pour 107 = .ok (.lshl, 1) := by decide +kernel
theorem dX1_pour_108 : decode cX1_pour 108 = .ok (.invokevirtual 54, 3) := by decide +kernel
theorem dX1_pour_111 : decode cX1_pour 111 = .ok (.goto 102, 3) := by decide +kernel
theorem dX1_pour_114 : decode cX1_pour 114 = .ok (.aload_n 0, 1) := by decide +kernel
theorem dX1_pour_115 : decode cX1_pour 115 = .ok (.iload_n 2, 1) := by decide +kernel
theorem dX1_pour_116 : decode cX1_pour 116 = .ok (.lconst 1, 1) := by decide +kernel
theorem dX1_pour_117 : decode cX1_pour 117 = .ok (.aload_n 1, 1) := by decide +kernel
theorem dX1_pour_118 : decode cX1_pour 118 = .ok (.getfield 58, 3) := by decide +kernel
theorem dX1_pour_121 : decode cX1_pour 121 = .ok (.iload_n 2, 1) := by decide +kernel
theorem dX1_pour_122 : decode cX1_pour 122 = .ok (.invokestatic 47, 3) := by decide +kernel
theorem dX1_pour_125 : decode cX1_pour 125 = .ok (.lshl, 1) := by decide +kernel
theorem dX1_pour_126 : decode cX1_pour 126 = .ok (.invokevirtual 54, 3) := by decide +kernel
theorem dX1_pour_129 : decode cX1_pour 129 = .ok (.aload_n 0, 1) := by decide +kernel
theorem dX1_pour_130 : decode cX1_pour 130 = .ok (.aload_n 1, 1) := by decide +kernel
theorem dX1_pour_131 : decode cX1_pour 131 = .ok (.getfield 61, 3) := by decide +kernel
theorem dX1_pour_134 : decode cX1_pour 134 = .ok (.iload_n 2, 1) := by decide +kernel
theorem dX1_pour_135 : decode cX1_pour 135 = .ok (.invokestatic 47, 3) := by decide +kernel
theorem dX1_pour_138 : decode cX1_pour 138 = .ok (.lconst 1, 1) := by decide +kernel
theorem dX1_pour_139 : decode cX1_pour 139 = .ok (.aload_n 1, 1) := by decide +kernel
theorem dX1_pour_140 : decode cX1_pour 140 = .ok (.getfield 58, 3) := by decide +kernel
theorem dX1_pour_143 : decode cX1_pour 143 = .ok (.iload_n 2, 1) := by decide +kernel
theorem dX1_pour_144 : decode cX1_pour 144 = .ok (.invokestatic 47, 3) := by decide +kernel
theorem dX1_pour_147 : decode cX1_pour 147 = .ok (.lshl, 1) := by decide +kernel
theorem dX1_pour_148 : decode cX1_pour 148 = .ok (.invokevirtual 64, 3) := by decide +kernel
theorem dX1_pour_151 : decode cX1_pour 151 = .ok (.goto 62, 3) := by decide +kernel
theorem dX1_pour_154 : decode cX1_pour 154 = .ok (.aload_n 0, 1) := by decide +kernel
theorem dX1_pour_155 : decode cX1_pour 155 = .ok (.iload_n 2, 1) := by decide +kernel
theorem dX1_pour_156 : decode cX1_pour 156 = .ok (.aload_n 0, 1) := by decide +kernel
theorem dX1_pour_157 : decode cX1_pour 157 = .ok (.aload_n 1, 1) := by decide +kernel
theorem dX1_pour_158 : decode cX1_pour 158 = .ok (.iload_n 2, 1) := by decide +kernel
theorem dX1_pour_159 : decode cX1_pour 159 = .ok (.iconst 1, 1) := by decide +kernel
theorem dX1_pour_160 : decode cX1_pour 160 = .ok (.invokevirtual 67, 3) := by decide +kernel
theorem dX1_pour_163 : decode cX1_pour 163 = .ok (.aload_n 0, 1) := by decide +kernel
theorem dX1_pour_164 : decode cX1_pour 164 = .ok (.aload_n 1, 1) := by decide +kernel
theorem dX1_pour_165 : decode cX1_pour 165 = .ok (.iload_n 2, 1) := by decide +kernel
theorem dX1_pour_166 : decode cX1_pour 166 = .ok (.iconst 2, 1) := by decide +kernel
theorem dX1_pour_167 : decode cX1_pour 167 = .ok (.invokevirtual 67, 3) := by decide +kernel
theorem dX1_pour_170 : decode cX1_pour 170 = .ok (.lor, 1) := by decide +kernel
theorem dX1_pour_171 : decode cX1_pour 171 = .ok (.invokevirtual 54, 3) := by decide +kernel
theorem dX1_pour_174 : decode cX1_pour 174 = .ok (.goto 39, 3) := by decide +kernel
theorem dX1_pour_177 : decode cX1_pour 177 = .ok (.aload_n 0, 1) := by decide +kernel
theorem dX1_pour_178 : decode cX1_pour 178 = .ok (.iload_n 3, 1) := by decide +kernel
theorem dX1_pour_179 : decode cX1_pour 179 = .ok (.aload_n 0, 1) := by decide +kernel
theorem dX1_pour_180 : decode cX1_pour 180 = .ok (.aload_n 1, 1) := by decide +kernel
theorem dX1_pour_181 : decode cX1_pour 181 = .ok (.iload_n 2, 1) := by decide +kernel
theorem dX1_pour_182 : decode cX1_pour 182 = .ok (.iconst 0, 1) := by decide +kernel
theorem dX1_pour_183 : decode cX1_pour 183 = .ok (.invokevirtual 67, 3) := by decide +kernel
theorem dX1_pour_186 : decode cX1_pour 186 = .ok (.invokevirtual 64, 3) := by decide +kernel
theorem dX1_pour_189 : decode cX1_pour 189 = .ok (.aload_n 0, 1) := by decide +kernel
theorem dX1_pour_190 : decode cX1_pour 190 = .ok (.iload_n 2, 1) := by decide +kernel
theorem dX1_pour_191 : decode cX1_pour 191 = .ok (.aload_n 0, 1) := by decide +kernel
theorem dX1_pour_192 : decode cX1_pour 192 = .ok (.aload_n 1, 1) := by decide +kernel
theorem dX1_pour_193 : decode cX1_pour 193 = .ok (.iload_n 2, 1) := by decide +kernel
theorem dX1_pour_194 : decode cX1_pour 194 = .ok (.iconst 1, 1) := by decide +kernel
theorem dX1_pour_195 : decode cX1_pour 195 = .ok (.invokevirtual 67, 3) := by decide +kernel
theorem dX1_pour_198 : decode cX1_pour 198 = .ok (.invokevirtual 54, 3) := by decide +kernel
theorem dX1_pour_201 : decode cX1_pour 201 = .ok (.goto 12, 3) := by decide +kernel
theorem dX1_pour_204 : decode cX1_pour 204 = .ok (.aload_n 0, 1) := by decide +kernel
theorem dX1_pour_205 : decode cX1_pour 205 = .ok (.aload_n 1, 1) := by decide +kernel
theorem dX1_pour_206 : decode cX1_pour 206 = .ok (.iload_n 2, 1) := by decide +kernel
theorem dX1_pour_207 : decode cX1_pour 207 = .ok (.invokevirtual 71, 3) := by decide +kernel
theorem dX1_pour_210 : decode cX1_pour 210 = .ok (.goto 3, 3) := by decide +kernel
theorem dX1_pour_213 : decode cX1_pour 213 = .ok (.return_, 1) := by decide +kernel
theorem dX1_pourCall_0 : decode cX1_pourCall 0 = .ok (.aload_n 0, 1) := by decide +kernel
theorem dX1_pourCall_1 : decode cX1_pourCall 1 = .ok (.aload_n 1, 1) := by decide +kernel
theorem dX1_pourCall_2 : decode cX1_pourCall 2 = .ok (.iload_n 2, 1) := by decide +kernel
theorem dX1_pourCall_3 : decode cX1_pourCall 3 = .ok (.iconst 0, 1) := by decide +kernel
theorem dX1_pourCall_4 : decode cX1_pourCall 4 = .ok (.invokevirtual 67, 3) := by decide +kernel
theorem dX1_pourCall_7 : decode cX1_pourCall 7 = .ok (.lstore_n 3, 1) := by decide +kernel
theorem dX1_pourCall_8 : decode cX1_pourCall 8 = .ok (.iconst 0, 1) := by decide +kernel
theorem dX1_pourCall_9 : decode cX1_pourCall 9 = .ok (.istore 5, 2) := by decide +kernel
theorem dX1_pourCall_11 : decode cX1_pourCall 11 = .ok (.iload 5, 2) := by decide +kernel
theorem dX1_pourCall_13 : decode cX1_pourCall 13 = .ok (.aload_n 1, 1) := by decide +kernel
theorem dX1_pourCall_14 : decode cX1_pourCall 14 = .ok (.getfield 74, 3) := by decide +kernel
theorem dX1_pourCall_17 : decode cX1_pourCall 17 = .ok (.if_icmp .ge 64, 3) := by decide +kernel
theorem dX1_pourCall_20 : decode cX1_pourCall 20 = .ok (.lload_n 3, 1) := by decide +kernel
theorem dX1_pourCall_21 : decode cX1_pourCall 21 = .ok (.iload 5, 2) := by decide +kernel
theorem dX1_pourCall_23 : decode cX1_pourCall 23 = .ok (.lushr, 1) := by decide +kernel
theorem dX1_pourCall_24 : decode cX1_pourCall 24 = .ok (.lconst 1, 1) := by decide +kernel
theorem dX1_pourCall_25 : decode cX1_pourCall 25 = .ok (.land, 1) := by decide +kernel
theorem dX1_pourCall_26 : decode cX1_pourCall 26 = .ok (.lconst 1, 1) := by decide +kernel
theorem dX1_pourCall_27 : decode cX1_pourCall 27 = .ok (.lcmp, 1) := by decide +kernel
theorem dX1_pourCall_28 : decode cX1_pourCall 28 = .ok (.ifCond .ne 47, 3) := by decide +kernel
theorem dX1_pourCall_31 : decode cX1_pourCall 31 = .ok (.aload_n 1, 1) := by decide +kernel
theorem dX1_pourCall_32 : decode cX1_pourCall 32 = .ok (.getfield 77, 3) := by decide +kernel
theorem dX1_pourCall_35 : decode cX1_pourCall 35 = .ok (.iload 5, 2) := by decide +kernel
theorem dX1_pourCall_37 : decode cX1_pourCall 37 = .ok (.invokestatic 47, 3) := by decide +kernel
theorem dX1_pourCall_40 : decode cX1_pourCall 40 = .ok (.istore 6, 2) := by decide +kernel
theorem dX1_pourCall_42 : decode cX1_pourCall 42 = .ok (.aload_n 0, 1) := by decide +kernel
theorem dX1_pourCall_43 : decode cX1_pourCall 43 = .ok (.aload_n 1, 1) := by decide +kernel
theorem dX1_pourCall_44 : decode cX1_pourCall 44 = .ok (.getfield 43, 3) := by decide +kernel
theorem dX1_pourCall_47 : decode cX1_pourCall 47 = .ok (.iload 6, 2) := by decide +kernel
theorem dX1_pourCall_49 : decode cX1_pourCall 49 = .ok (.invokestatic 47, 3) := by decide +kernel
theorem dX1_pourCall_52 : decode cX1_pourCall 52 = .ok (.aload_n 0, 1) := by decide +kernel
theorem dX1_pourCall_53 : decode cX1_pourCall 53 = .ok (.aload_n 1, 1) := by decide +kernel
theorem dX1_pourCall_54 : decode cX1_pourCall 54 = .ok (.iload_n 2, 1) := by decide +kernel
theorem dX1_pourCall_55 : decode cX1_pourCall 55 = .ok (.iconst 1, 1) := by decide +kernel
theorem dX1_pourCall_56 : decode cX1_pourCall 56 = .ok (.invokevirtual 67, 3) := by decide +kernel
theorem dX1_pourCall_59 : decode cX1_pourCall 59 = .ok (.invokevirtual 64, 3) := by decide +kernel
theorem dX1_pourCall_62 : decode cX1_pourCall 62 = .ok (.aload_n 0, 1) := by decide +kernel
theorem dX1_pourCall_63 : decode cX1_pourCall 63 = .ok (.iload_n 2, 1) := by decide +kernel
theorem dX1_pourCall_64 : decode cX1_pourCall 64 = .ok (.aload_n 0, 1) := by decide +kernel
theorem dX1_pourCall_65 : decode cX1_pourCall 65 = .ok (.aload_n 1, 1) := by decide +kernel
theorem dX1_pourCall_66 : decode cX1_pourCall 66 = .ok (.iload 6, 2) := by decide +kernel
theorem dX1_pourCall_68 : decode cX1_pourCall 68 = .ok (.iconst 0, 1) := by decide +kernel
theorem dX1_pourCall_69 : decode cX1_pourCall 69 = .ok (.invokevirtual 67, 3) := by decide +kernel
theorem dX1_pourCall_72 : decode cX1_pourCall 72 = .ok (.invokevirtual 54, 3) := by decide +kernel
theorem dX1_pourCall_75 : decode cX1_pourCall 75 = .ok (.iinc 5 1, 3) := by decide +kernel
theorem dX1_pourCall_78 : decode cX1_pourCall 78 = .ok (.goto (-67), 3) := by decide +kernel
theorem dX1_pourCall_81 : decode cX1_pourCall 81 = .ok (.return_, 1) := by decide +kernel
theorem dX1_ofPart_0 : decode cX1_ofPart 0 = .ok (.aload_n 0, 1) := by decide +kernel
theorem dX1_ofPart_1 : decode cX1_ofPart 1 = .ok (.getfield 9, 3) := by decide +kernel
theorem dX1_ofPart_4 : decode cX1_ofPart 4 = .ok (.aload_n 1, 1) := by decide +kernel
theorem dX1_ofPart_5 : decode cX1_ofPart 5 = .ok (.iload_n 2, 1) := by decide +kernel
theorem dX1_ofPart_6 : decode cX1_ofPart 6 = .ok (.iload_n 3, 1) := by decide +kernel
theorem dX1_ofPart_7 : decode cX1_ofPart 7 = .ok (.invokevirtual 80, 3) := by decide +kernel
theorem dX1_ofPart_10 : decode cX1_ofPart 10 = .ok (.invokestatic 39, 3) := by decide +kernel
theorem dX1_ofPart_13 : decode cX1_ofPart 13 = .ok (.lreturn, 1) := by decide +kernel
theorem dX1_intoExpr_0 : decode cX1_intoExpr 0 = .ok (.iload_n 1, 1) := by decide +kernel
theorem dX1_intoExpr_1 : decode cX1_intoExpr 1 = .ok (.ifCond .lt 42, 3) := by decide +kernel
theorem dX1_intoExpr_4 : decode cX1_intoExpr 4 = .ok (.iload_n 1, 1) := by decide +kernel
theorem dX1_intoExpr_5 : decode cX1_intoExpr 5 = .ok (.sipush 200, 3) := by decide +kernel
theorem dX1_intoExpr_8 : decode cX1_intoExpr 8 = .ok (.if_icmp .ge 35, 3) := by decide +kernel
theorem dX1_intoExpr_11 : decode cX1_intoExpr 11 = .ok (.lload_n 2, 1) := by decide +kernel
theorem dX1_intoExpr_12 : decode cX1_intoExpr 12 = .ok (.aload_n 0, 1) := by decide +kernel
theorem dX1_intoExpr_13 : decode cX1_intoExpr 13 = .ok (.getfield 9, 3) := by decide +kernel
theorem dX1_intoExpr_16 : decode cX1_intoExpr 16 = .ok (.iload_n 1, 1) := by decide +kernel
theorem dX1_intoExpr_17 : decode cX1_intoExpr 17 = .ok (.laload, 1) := by decide +kernel
theorem dX1_intoExpr_18 : decode cX1_intoExpr 18 = .ok (.ldc2_w 84, 3) := by decide +kernel
theorem dX1_intoExpr_21 : decode cX1_intoExpr 21 = .ok (.lxor, 1) := by decide +kernel
theorem dX1_intoExpr_22 : decode cX1_intoExpr 22 = .ok (.land, 1) := by decide +kernel
theorem dX1_intoExpr_23 : decode cX1_intoExpr 23 = .ok (.lconst 0, 1) := by decide +kernel
theorem dX1_intoExpr_24 : decode cX1_intoExpr 24 = .ok (.lcmp, 1) := by decide +kernel
theorem dX1_intoExpr_25 : decode cX1_intoExpr 25 = .ok (.ifCond .eq 18, 3) := by decide +kernel
theorem dX1_intoExpr_28 : decode cX1_intoExpr 28 = .ok (.aload_n 0, 1) := by decide +kernel
theorem dX1_intoExpr_29 : decode cX1_intoExpr 29 = .ok (.getfield 9, 3) := by decide +kernel
theorem dX1_intoExpr_32 : decode cX1_intoExpr 32 = .ok (.iload_n 1, 1) := by decide +kernel
theorem dX1_intoExpr_33 : decode cX1_intoExpr 33 = .ok (.dup2, 1) := by decide +kernel
theorem dX1_intoExpr_34 : decode cX1_intoExpr 34 = .ok (.laload, 1) := by decide +kernel
theorem dX1_intoExpr_35 : decode cX1_intoExpr 35 = .ok (.lload_n 2, 1) := by decide +kernel
theorem dX1_intoExpr_36 : decode cX1_intoExpr 36 = .ok (.lor, 1) := by decide +kernel
theorem dX1_intoExpr_37 : decode cX1_intoExpr 37 = .ok (.lastore, 1) := by decide +kernel
theorem dX1_intoExpr_38 : decode cX1_intoExpr 38 = .ok (.aload_n 0, 1) := by decide +kernel
theorem dX1_intoExpr_39 : decode cX1_intoExpr 39 = .ok (.iconst 1, 1) := by decide +kernel
theorem dX1_intoExpr_40 : decode cX1_intoExpr 40 = .ok (.putfield 21, 3) := by decide +kernel
theorem dX1_intoExpr_43 : decode cX1_intoExpr 43 = .ok (.return_, 1) := by decide +kernel
theorem dX1_intoVariable_0 : decode cX1_intoVariable 0 = .ok (.iload_n 1, 1) := by decide +kernel
theorem dX1_intoVariable_1 : decode cX1_intoVariable 1 = .ok (.ifCond .lt 41, 3) := by decide +kernel
theorem dX1_intoVariable_4 : decode cX1_intoVariable 4 = .ok (.iload_n 1, 1) := by decide +kernel
theorem dX1_intoVariable_5 : decode cX1_intoVariable 5 = .ok (.bipush 100, 2) := by decide +kernel
theorem dX1_intoVariable_7 : decode cX1_intoVariable 7 = .ok (.if_icmp .ge 35, 3) := by decide +kernel
theorem dX1_intoVariable_10 : decode cX1_intoVariable 10 = .ok (.lload_n 2, 1) := by decide +kernel
theorem dX1_intoVariable_11 : decode cX1_intoVariable 11 = .ok (.aload_n 0, 1) := by decide +kernel
theorem dX1_intoVariable_12 : decode cX1_intoVariable 12 = .ok (.getfield 15, 3) := by decide +kernel
theorem dX1_intoVariable_15 : decode cX1_intoVariable 15 = .ok (.iload_n 1, 1) := by decide +kernel
theorem dX1_intoVariable_16 : decode cX1_intoVariable 16 = .ok (.laload, 1) := by decide +kernel
theorem dX1_intoVariable_17 : decode cX1_intoVariable 17 = .ok (.ldc2_w 84, 3) := by decide +kernel
theorem dX1_intoVariable_20 : decode cX1_intoVariable 20 = .ok (.lxor, 1) := by decide +kernel
theorem dX1_intoVariable_21 : decode cX1_intoVariable 21 = .ok (.land, 1) := by decide +kernel
theorem dX1_intoVariable_22 : decode cX1_intoVariable 22 = .ok (.lconst 0, 1) := by decide +kernel
theorem dX1_intoVariable_23 : decode cX1_intoVariable 23 = .ok (.lcmp, 1) := by decide +kernel
theorem dX1_intoVariable_24 : decode cX1_intoVariable 24 = .ok (.ifCond .eq 18, 3) := by decide +kernel
theorem dX1_intoVariable_27 : decode cX1_intoVariable 27 = .ok (.aload_n 0, 1) := by decide +kernel
theorem dX1_intoVariable_28 : decode cX1_intoVariable 28 = .ok (.getfield 15, 3) := by decide +kernel
theorem dX1_intoVariable_31 : decode cX1_intoVariable 31 = .ok (.iload_n 1, 1) := by decide +kernel
theorem dX1_intoVariable_32 : decode cX1_intoVariable 32 = .ok (.dup2, 1) := by decide +kernel
theorem dX1_intoVariable_33 : decode cX1_intoVariable 33 = .ok (.laload, 1) := by decide +kernel
theorem dX1_intoVariable_34 : decode cX1_intoVariable 34 = .ok (.lload_n 2, 1) := by decide +kernel
theorem dX1_intoVariable_35 : decode cX1_intoVariable 35 = .ok (.lor, 1) := by decide +kernel
theorem dX1_intoVariable_36 : decode cX1_intoVariable 36 = .ok (.lastore, 1) := by decide +kernel
theorem dX1_intoVariable_37 : decode cX1_intoVariable 37 = .ok (.aload_n 0, 1) := by decide +kernel
theorem dX1_intoVariable_38 : decode cX1_intoVariable 38 = .ok (.iconst 1, 1) := by decide +kernel
theorem dX1_intoVariable_39 : decode cX1_intoVariable 39 = .ok (.putfield 21, 3) := by decide +kernel
theorem dX1_intoVariable_42 : decode cX1_intoVariable 42 = .ok (.return_, 1) := by decide +kernel
theorem dX1_findReached_0 : decode cX1_findReached 0 = .ok (.iconst 0, 1) := by decide +kernel
theorem dX1_findReached_1 : decode cX1_findReached 1 = .ok (.istore_n 2, 1) := by decide +kernel
theorem dX1_findReached_2 : decode cX1_findReached 2 = .ok (.iload_n 2, 1) := by decide +kernel
theorem dX1_findReached_3 : decode cX1_findReached 3 = .ok (.bipush 50, 2) := by decide +kernel
theorem dX1_findReached_5 : decode cX1_findReached 5 = .ok (.if_icmp .ge 16, 3) := by decide +kernel
theorem dX1_findReached_8 : decode cX1_findReached 8 = .ok (.aload_n 0, 1) := by decide +kernel
theorem dX1_findReached_9 : decode cX1_findReached 9 = .ok (.getfield 18, 3) := by decide +kernel
theorem dX1_findReached_12 : decode cX1_findReached 12 = .ok (.iload_n 2, 1) := by decide +kernel
theorem dX1_findReached_13 : decode cX1_findReached 13 = .ok (.lconst 0, 1) := by decide +kernel
theorem dX1_findReached_14 : decode cX1_findReached 14 = .ok (.lastore, 1) := by decide +kernel
theorem dX1_findReached_15 : decode cX1_findReached 15 = .ok (.iinc 2 1, 3) := by decide +kernel
theorem dX1_findReached_18 : decode cX1_findReached 18 = .ok (.goto (-16), 3) := by decide +kernel
theorem dX1_findReached_21 : decode cX1_findReached 21 = .ok (.iconst 0, 1) := by decide +kernel
theorem dX1_findReached_22 : decode cX1_findReached 22 = .ok (.istore_n 2, 1) := by decide +kernel
theorem dX1_findReached_23 : decode cX1_findReached 23 = .ok (.iload_n 2, 1) := by decide +kernel
theorem dX1_findReached_24 : decode cX1_findReached 24 = .ok (.aload_n 1, 1) := by decide +kernel
theorem dX1_findReached_25 : decode cX1_findReached 25 = .ok (.getfield 25, 3) := by decide +kernel
theorem dX1_findReached_28 : decode cX1_findReached 28 = .ok (.if_icmp .ge 57, 3) := by decide +kernel
theorem dX1_findReached_31 : decode cX1_findReached 31 = .ok (.aload_n 1, 1) := by decide +kernel
theorem dX1_findReached_32 : decode cX1_findReached 32 = .ok (.getfield 86, 3) := by decide +kernel
theorem dX1_findReached_35 : decode cX1_findReached 35 = .ok (.iload_n 2, 1) := by decide +kernel
theorem dX1_findReached_36 : decode cX1_findReached 36 = .ok (.invokestatic 47, 3) := by decide +kernel
theorem dX1_findReached_39 : decode cX1_findReached 39 = .ok (.istore_n 3, 1) := by decide +kernel
theorem dX1_findReached_40 : decode cX1_findReached 40 = .ok (.aload_n 1, 1) := by decide +kernel
theorem dX1_findReached_41 : decode cX1_findReached 41 = .ok (.getfield 51, 3) := by decide +kernel
theorem dX1_findReached_44 : decode cX1_findReached 44 = .ok (.iload_n 2, 1) := by decide +kernel
theorem dX1_findReached_45 : decode cX1_findReached 45 = .ok (.invokestatic 47, 3) := by decide +kernel
theorem dX1_findReached_48 : decode cX1_findReached 48 = .ok (.bipush 11, 2) := by decide +kernel
theorem dX1_findReached_50 : decode cX1_findReached 50 = .ok (.if_icmp .ne 29, 3) := by decide +kernel
theorem dX1_findReached_53 : decode cX1_findReached 53 = .ok (.iload_n 3, 1) := by decide +kernel
theorem dX1_findReached_54 : decode cX1_findReached 54 = .ok (.ifCond .lt 25, 3) := by decide +kernel
theorem dX1_findReached_57 : decode cX1_findReached 57 = .ok (.iload_n 3, 1) := by decide +kernel
theorem dX1_findReached_58 : decode cX1_findReached 58 = .ok (.bipush 50, 2) := by decide +kernel
theorem dX1_findReached_60 : decode cX1_findReached 60 = .ok (.if_icmp .ge 19, 3) := by decide +kernel
theorem dX1_findReached_63 : decode cX1_findReached 63 = .ok (.aload_n 0, 1) := by decide +kernel
theorem dX1_findReached_64 : decode cX1_findReached 64 = .ok (.getfield 18, 3) := by decide +kernel
theorem dX1_findReached_67 : decode cX1_findReached 67 = .ok (.iload_n 3, 1) := by decide +kernel
theorem dX1_findReached_68 : decode cX1_findReached 68 = .ok (.dup2, 1) := by decide +kernel
theorem dX1_findReached_69 : decode cX1_findReached 69 = .ok (.laload, 1) := by decide +kernel
theorem dX1_findReached_70 : decode cX1_findReached 70 = .ok (.aload_n 0, 1) := by decide +kernel
theorem dX1_findReached_71 : decode cX1_findReached 71 = .ok (.aload_n 1, 1) := by decide +kernel
theorem dX1_findReached_72 : decode cX1_findReached 72 = .ok (.iload_n 2, 1) := by decide +kernel
theorem dX1_findReached_73 : decode cX1_findReached 73 = .ok (.iconst 0, 1) := by decide +kernel
theorem dX1_findReached_74 : decode cX1_findReached 74 = .ok (.invokevirtual 67, 3) := by decide +kernel
theorem dX1_findReached_77 : decode cX1_findReached 77 = .ok (.lor, 1) := by decide +kernel
theorem dX1_findReached_78 : decode cX1_findReached 78 = .ok (.lastore, 1) := by decide +kernel
theorem dX1_findReached_79 : decode cX1_findReached 79 = .ok (.iinc 2 1, 3) := by decide +kernel
theorem dX1_findReached_82 : decode cX1_findReached 82 = .ok (.goto (-59), 3) := by decide +kernel
theorem dX1_findReached_85 : decode cX1_findReached 85 = .ok (.iconst 0, 1) := by decide +kernel
theorem dX1_findReached_86 : decode cX1_findReached 86 = .ok (.istore_n 2, 1) := by decide +kernel
theorem dX1_findReached_87 : decode cX1_findReached 87 = .ok (.iload_n 2, 1) := by decide +kernel
theorem dX1_findReached_88 : decode cX1_findReached 88 = .ok (.aload_n 1, 1) := by decide +kernel
theorem dX1_findReached_89 : decode cX1_findReached 89 = .ok (.getfield 74, 3) := by decide +kernel
theorem dX1_findReached_92 : decode cX1_findReached 92 = .ok (.if_icmp .ge 52, 3) := by decide +kernel
theorem dX1_findReached_95 : decode cX1_findReached 95 = .ok (.iconst 0, 1) := by decide +kernel
theorem dX1_findReached_96 : decode cX1_findReached 96 = .ok (.istore_n 3, 1) := by decide +kernel
theorem dX1_findReached_97 : decode cX1_findReached 97 = .ok (.iload_n 3, 1) := by decide +kernel
theorem dX1_findReached_98 : decode cX1_findReached 98 = .ok (.aload_n 1, 1) := by decide +kernel
theorem dX1_findReached_99 : decode cX1_findReached 99 = .ok (.getfield 74, 3) := by decide +kernel
theorem dX1_findReached_102 : decode cX1_findReached 102 = .ok (.if_icmp .ge 36, 3) := by decide +kernel
theorem dX1_findReached_105 : decode cX1_findReached 105 = .ok (.aload_n 0, 1) := by decide +kernel
theorem dX1_findReached_106 : decode cX1_findReached 106 = .ok (.iload_n 3, 1) := by decide +kernel
theorem dX1_findReached_107 : decode cX1_findReached 107 = .ok (.iload_n 2, 1) := by decide +kernel
theorem dX1_findReached_108 : decode cX1_findReached 108 = .ok (.invokevirtual 89, 3) := by decide +kernel
theorem dX1_findReached_111 : decode cX1_findReached 111 = .ok (.iconst 1, 1) := by decide +kernel
theorem dX1_findReached_112 : decode cX1_findReached 112 = .ok (.if_icmp .ne 20, 3) := by decide +kernel
theorem dX1_findReached_115 : decode cX1_findReached 115 = .ok (.aload_n 0, 1) := by decide +kernel
theorem dX1_findReached_116 : decode cX1_findReached 116 = .ok (.getfield 18, 3) := by decide +kernel
theorem dX1_findReached_119 : decode cX1_findReached 119 = .ok (.iload_n 3, 1) := by decide +kernel
theorem dX1_findReached_120 : decode cX1_findReached 120 = .ok (.dup2, 1) := by decide +kernel
theorem dX1_findReached_121 : decode cX1_findReached 121 = .ok (.laload, 1) := by decide +kernel
theorem dX1_findReached_122 : decode cX1_findReached 122 = .ok (.aload_n 0, 1) := by decide +kernel
theorem dX1_findReached_123 : decode cX1_findReached 123 = .ok (.getfield 18, 3) := by decide +kernel
theorem dX1_findReached_126 : decode cX1_findReached 126 = .ok (.iload_n 2, 1) := by decide +kernel
theorem dX1_findReached_127 : decode cX1_findReached 127 = .ok (.invokestatic 39, 3) := by decide +kernel
theorem dX1_findReached_130 : decode cX1_findReached 130 = .ok (.lor, 1) := by decide +kernel
theorem dX1_findReached_131 : decode cX1_findReached 131 = .ok (.lastore, 1) := by decide +kernel
theorem dX1_findReached_132 : decode cX1_findReached 132 = .ok (.iinc 3 1, 3) := by decide +kernel
theorem dX1_findReached_135 : decode cX1_findReached 135 = .ok (.goto (-38), 3) := by decide +kernel
theorem dX1_findReached_138 : decode cX1_findReached 138 = .ok (.iinc 2 1, 3) := by decide +kernel
theorem dX1_findReached_141 : decode cX1_findReached 141 = .ok (.goto (-54), 3) := by decide +kernel
theorem dX1_findReached_144 : decode cX1_findReached 144 = .ok (.return_, 1) := by decide +kernel
theorem dX2_init_0 : decode cX2_init 0 = .ok (.aload_n 0, 1) := by decide +kernel
theorem dX2_init_1 : decode cX2_init 1 = .ok (.invokespecial 3, 3) := by decide +kernel
theorem dX2_init_4 : decode cX2_init 4 = .ok (.aload_n 0, 1) := by decide +kernel
theorem dX2_init_5 : decode cX2_init 5 = .ok (.sipush 200, 3) := by decide +kernel
theorem dX2_init_8 : decode cX2_init 8 = .ok (.newarray .long, 2) := by decide +kernel
theorem dX2_init_10 : decode cX2_init 10 = .ok (.putfield 9, 3) := by decide +kernel
theorem dX2_init_13 : decode cX2_init 13 = .ok (.aload_n 0, 1) := by decide +kernel
theorem dX2_init_14 : decode cX2_init 14 = .ok (.new 15, 3) := by decide +kernel
theorem dX2_init_17 : decode cX2_init 17 = .ok (.dup, 1) := by decide +kernel
theorem dX2_init_18 : decode cX2_init 18 = .ok (.invokespecial 17, 3) := by decide +kernel
theorem dX2_init_21 : decode cX2_init 21 = .ok (.putfield 18, 3) := by decide +kernel
theorem dX2_init_24 : decode cX2_init 24 = .ok (.aload_n 0, 1) := by decide +kernel
theorem dX2_init_25 : decode cX2_init 25 = .ok (.sipush 2000, 3) := by decide +kernel
theorem dX2_init_28 : decode cX2_init 28 = .ok (.newarray .int, 2) := by decide +kernel
theorem dX2_init_30 : decode cX2_init 30 = .ok (.putfield 22, 3) := by decide +kernel
theorem dX2_init_33 : decode cX2_init 33 = .ok (.aload_n 0, 1) := by decide +kernel
theorem dX2_init_34 : decode cX2_init 34 = .ok (.sipush 2000, 3) := by decide +kernel
theorem dX2_init_37 : decode cX2_init 37 = .ok (.newarray .int, 2) := by decide +kernel
theorem dX2_init_39 : decode cX2_init 39 = .ok (.putfield 26, 3) := by decide +kernel
theorem dX2_init_42 : decode cX2_init 42 = .ok (.aload_n 0, 1) := by decide +kernel
theorem dX2_init_43 : decode cX2_init 43 = .ok (.sipush 2000, 3) := by decide +kernel
theorem dX2_init_46 : decode cX2_init 46 = .ok (.newarray .boolean, 2) := by decide +kernel
theorem dX2_init_48 : decode cX2_init 48 = .ok (.putfield 29, 3) := by decide +kernel
theorem dX2_init_51 : decode cX2_init 51 = .ok (.aload_n 0, 1) := by decide +kernel
theorem dX2_init_52 : decode cX2_init 52 = .ok (.sipush 2000, 3) := by decide +kernel
theorem dX2_init_55 : decode cX2_init 55 = .ok (.newarray .int, 2) := by decide +kernel
theorem dX2_init_57 : decode cX2_init 57 = .ok (.putfield 33, 3) := by decide +kernel
theorem dX2_init_60 : decode cX2_init 60 = .ok (.aload_n 0, 1) := by decide +kernel
theorem dX2_init_61 : decode cX2_init 61 = .ok (.sipush 2000, 3) := by decide +kernel
theorem dX2_init_64 : decode cX2_init 64 = .ok (.newarray .long, 2) := by decide +kernel
theorem dX2_init_66 : decode cX2_init 66 = .ok (.putfield 36, 3) := by decide +kernel
theorem dX2_init_69 : decode cX2_init 69 = .ok (.return_, 1) := by decide +kernel
theorem dX2_forget_0 : decode cX2_forget 0 = .ok (.aload_n 0, 1) := by decide +kernel
theorem dX2_forget_1 : decode cX2_forget 1 = .ok (.iconst 0, 1) := by decide +kernel
theorem dX2_forget_2 : decode cX2_forget 2 = .ok (.putfield 39, 3) := by decide +kernel
theorem dX2_forget_5 : decode cX2_forget 5 = .ok (.aload_n 0, 1) := by decide +kernel
theorem dX2_forget_6 : decode cX2_forget 6 = .ok (.lconst 0, 1) := by decide +kernel
theorem dX2_forget_7 : decode cX2_forget 7 = .ok (.putfield 43, 3) := by decide +kernel
theorem dX2_forget_10 : decode cX2_forget 10 = .ok (.iconst 0, 1) := by decide +kernel
theorem dX2_forget_11 : decode cX2_forget 11 = .ok (.istore_n 1, 1) := by decide +kernel
theorem dX2_forget_12 : decode cX2_forget 12 = .ok (.iload_n 1, 1) := by decide +kernel
theorem dX2_forget_13 : decode cX2_forget 13 = .ok (.sipush 200, 3) := by decide +kernel
theorem dX2_forget_16 : decode cX2_forget 16 = .ok (.if_icmp .ge 16, 3) := by decide +kernel
theorem dX2_forget_19 : decode cX2_forget 19 = .ok (.aload_n 0, 1) := by decide +kernel
theorem dX2_forget_20 : decode cX2_forget 20 = .ok (.getfield 9, 3) := by decide +kernel
theorem dX2_forget_23 : decode cX2_forget 23 = .ok (.iload_n 1, 1) := by decide +kernel
theorem dX2_forget_24 : decode cX2_forget 24 = .ok (.lconst 0, 1) := by decide +kernel
theorem dX2_forget_25 : decode cX2_forget 25 = .ok (.lastore, 1) := by decide +kernel
theorem dX2_forget_26 : decode cX2_forget 26 = .ok (.iinc 1 1, 3) := by decide +kernel
theorem dX2_forget_29 : decode cX2_forget 29 = .ok (.goto (-17), 3) := by decide +kernel
theorem dX2_forget_32 : decode cX2_forget 32 = .ok (.return_, 1) := by decide +kernel
theorem dX2_start_0 : decode cX2_start 0 = .ok (.aload_n 0, 1) := by decide +kernel
theorem dX2_start_1 : decode cX2_start 1 = .ok (.invokevirtual 47, 3) := by decide +kernel
theorem dX2_start_4 : decode cX2_start 4 = .ok (.aload_n 0, 1) := by decide +kernel
theorem dX2_start_5 : decode cX2_start 5 = .ok (.aload_n 1, 1) := by decide +kernel
theorem dX2_start_6 : decode cX2_start 6 = .ok (.putfield 50, 3) := by decide +kernel
theorem dX2_start_9 : decode cX2_start 9 = .ok (.aload_n 0, 1) := by decide +kernel
theorem dX2_start_10 : decode cX2_start 10 = .ok (.iload_n 2, 1) := by decide +kernel
theorem dX2_start_11 : decode cX2_start 11 = .ok (.sipush 2000, 3) := by decide +kernel
theorem dX2_start_14 : decode cX2_start 14 = .ok (.invokestatic 54, 3) := by decide +kernel
theorem dX2_start_17 : decode cX2_start 17 = .ok (.putfield 60, 3) := by decide +kernel
theorem dX2_start_20 : decode cX2_start 20 = .ok (.aload_n 0, 1) := by decide +kernel
theorem dX2_start_21 : decode cX2_start 21 = .ok (.iconst (-1), 1) := by decide +kernel
theorem dX2_start_22 : decode cX2_start 22 = .ok (.putfield 63, 3) := by decide +kernel
theorem dX2_start_25 : decode cX2_start 25 = .ok (.aload_n 0, 1) := by decide +kernel
theorem dX2_start_26 : decode cX2_start 26 = .ok (.getfield 18, 3) := by decide +kernel
theorem dX2_start_29 : decode cX2_start 29 = .ok (.invokevirtual 66, 3) := by decide +kernel
theorem dX2_start_32 : decode cX2_start 32 = .ok (.aload_n 0, 1) := by decide +kernel
theorem dX2_start_33 : decode cX2_start 33 = .ok (.iconst 0, 1) := by decide +kernel
theorem dX2_start_34 : decode cX2_start 34 = .ok (.putfield 69, 3) := by decide +kernel
theorem dX2_start_37 : decode cX2_start 37 = .ok (.aload_n 0, 1) := by decide +kernel
theorem dX2_start_38 : decode cX2_start 38 = .ok (.iconst 0, 1) := by decide +kernel
theorem dX2_start_39 : decode cX2_start 39 = .ok (.putfield 72, 3) := by decide +kernel
theorem dX2_start_42 : decode cX2_start 42 = .ok (.aload_n 0, 1) := by decide +kernel
theorem dX2_start_43 : decode cX2_start 43 = .ok (.iconst (-1), 1) := by decide +kernel
theorem dX2_start_44 : decode cX2_start 44 = .ok (.putfield 75, 3) := by decide +kernel
theorem dX2_start_47 : decode cX2_start 47 = .ok (.iconst 0, 1) := by decide +kernel
theorem dX2_start_48 : decode cX2_start 48 = .ok (.istore_n 3, 1) := by decide +kernel
theorem dX2_start_49 : decode cX2_start 49 = .ok (.iload_n 3, 1) := by decide +kernel
theorem dX2_start_50 : decode cX2_start 50 = .ok (.sipush 8000, 3) := by decide +kernel
theorem dX2_start_53 : decode cX2_start 53 = .ok (.if_icmp .ge 93, 3) := by decide +kernel
theorem dX2_start_56 : decode cX2_start 56 = .ok (.aload_n 0, 1) := by decide +kernel
theorem dX2_start_57 : decode cX2_start 57 = .ok (.getfield 63, 3) := by decide +kernel
theorem dX2_start_60 : decode cX2_start 60 = .ok (.iconst (-1), 1) := by decide +kernel
theorem dX2_start_61 : decode cX2_start 61 = .ok (.if_icmp .ne 85, 3) := by decide +kernel
theorem dX2_start_64 : decode cX2_start 64 = .ok (.aload_n 0, 1) := by decide +kernel
theorem dX2_start_65 : decode cX2_start 65 = .ok (.getfield 72, 3) := by decide +kernel
theorem dX2_start_68 : decode cX2_start 68 = .ok (.iconst (-1), 1) := by decide +kernel
theorem dX2_start_69 : decode cX2_start 69 = .ok (.if_icmp .eq 14, 3) := by decide +kernel
theorem dX2_start_72 : decode cX2_start 72 = .ok (.aload_n 0, 1) := by decide +kernel
theorem dX2_start_73 : decode cX2_start 73 = .ok (.aload_n 0, 1) := by decide +kernel
theorem dX2_start_74 : decode cX2_start 74 = .ok (.getfield 72, 3) := by decide +kernel
theorem dX2_start_77 : decode cX2_start 77 = .ok (.invokevirtual 78, 3) := by decide +kernel
theorem dX2_start_80 : decode cX2_start 80 = .ok (.goto 60, 3) := by decide +kernel
theorem dX2_start_83 : decode cX2_start 83 = .ok (.aload_n 0, 1) := by decide +kernel
theorem dX2_start_84 : decode cX2_start 84 = .ok (.getfield 69, 3) := by decide +kernel
theorem dX2_start_87 : decode cX2_start 87 = .ok (.ifCond .le 16, 3) := by decide +kernel
theorem dX2_start_90 : decode cX2_start 90 = .ok (.aload_n 0, 1) := by decide +kernel
theorem dX2_start_91 : decode cX2_start 91 = .ok (.aload_n 0, 1) := by decide +kernel
theorem dX2_start_92 : decode cX2_start 92 = .ok (.getfield 69, 3) := by decide +kernel
theorem dX2_start_95 : decode cX2_start 95 = .ok (.iconst 1, 1) := by decide +kernel
theorem dX2_start_96 : decode cX2_start 96 = .ok (.isub, 1) := by decide +kernel
theorem dX2_start_97 : decode cX2_start 97 = .ok (.invokevirtual 82, 3) := by decide +kernel
theorem dX2_start_100 : decode cX2_start 100 = .ok (.goto 40, 3) := by decide +kernel
theorem dX2_start_103 : decode cX2_start 103 = .ok (.aload_n 0, 1) := by decide +kernel
theorem dX2_start_104 : decode cX2_start 104 = .ok (.aload_n 0, 1) := by decide +kernel
theorem dX2_start_105 : decode cX2_start 105 = .ok (.getfield 85, 3) := by decide +kernel
theorem dX2_start_108 : decode cX2_start 108 = .ok (.iconst (-1), 1) := by decide +kernel
theorem dX2_start_109 : decode cX2_start 109 = .ok (.if_icmp .ne 7, 3) := by decide +kernel
theorem dX2_start_112 : decode cX2_start 112 = .ok (.iconst 0, 1) := by decide +kernel
theorem dX2_start_113 : decode cX2_start 113 = .ok (.goto 4, 3) := by decide +kernel
theorem dX2_start_116 : decode cX2_start 116 = .ok (.iconst 1, 1) := by decide +kernel
theorem dX2_start_117 : decode cX2_start 117 = .ok (.aload_n 0, 1) := by decide +kernel
theorem dX2_start_118 : decode cX2_start 118 = .ok (.getfield 85, 3) := by decide +kernel
theorem dX2_start_121 : decode cX2_start 121 = .ok (.iconst (-1), 1) := by decide +kernel
theorem dX2_start_122 : decode cX2_start 122 = .ok (.if_icmp .ne 10, 3) := by decide +kernel
theorem dX2_start_125 : decode cX2_start 125 = .ok (.aload_n 0, 1) := by decide +kernel
theorem dX2_start_126 : decode cX2_start 126 = .ok (.getfield 88, 3) := by decide +kernel
theorem dX2_start_129 : decode cX2_start 129 = .ok (.goto 8, 3) := by decide +kernel
theorem dX2_start_132 : decode cX2_start 132 = .ok (.aload_n 0, 1) := by decide +kernel
theorem dX2_start_133 : decode cX2_start 133 = .ok (.getfield 85, 3) := by decide +kernel
theorem dX2_start_136 : decode cX2_start 136 = .ok (.i2l, 1) := by decide +kernel
theorem dX2_start_137 : decode cX2_start 137 = .ok (.invokevirtual 91, 3) := by decide +kernel
theorem dX2_start_140 : decode cX2_start 140 = .ok (.iinc 3 1, 3) := by decide +kernel
theorem dX2_start_143 : decode cX2_start 143 = .ok (.goto (-94), 3) := by decide +kernel
theorem dX2_start_146 : decode cX2_start 146 = .ok (.return_, 1) := by decide +kernel
theorem dX2_end_0 : decode cX2_end 0 = .ok (.aload_n 0, 1) := by decide +kernel
theorem dX2_end_1 : decode cX2_end 1 = .ok (.iload_n 1, 1) := by decide +kernel
theorem dX2_end_2 : decode cX2_end 2 = .ok (.putfield 63, 3) := by decide +kernel
theorem dX2_end_5 : decode cX2_end 5 = .ok (.aload_n 0, 1) := by decide +kernel
theorem dX2_end_6 : decode cX2_end 6 = .ok (.lload_n 2, 1) := by decide +kernel
theorem dX2_end_7 : decode cX2_end 7 = .ok (.putfield 43, 3) := by decide +kernel
theorem dX2_end_10 : decode cX2_end 10 = .ok (.return_, 1) := by decide +kernel
theorem dX2_begin_0 : decode cX2_begin 0 = .ok (.aload_n 0, 1) := by decide +kernel
theorem dX2_begin_1 : decode cX2_begin 1 = .ok (.getfield 39, 3) := by decide +kernel
theorem dX2_begin_4 : decode cX2_begin 4 = .ok (.aload_n 0, 1) := by decide +kernel
theorem dX2_begin_5 : decode cX2_begin 5 = .ok (.getfield 60, 3) := by decide +kernel
theorem dX2_begin_8 : decode cX2_begin 8 = .ok (.if_icmp .lt 10, 3) := by decide +kernel
theorem dX2_begin_11 : decode cX2_begin 11 = .ok (.aload_n 0, 1) := by decide +kernel
theorem dX2_begin_12 : decode cX2_begin 12 = .ok (.iconst 3, 1) := by decide +kernel
theorem dX2_begin_13 : decode cX2_begin 13 = .ok (.lconst 0, 1) := by decide +kernel
theorem dX2_begin_14 : decode cX2_begin 14 = .ok (.invokevirtual 91, 3) := by decide +kernel
theorem dX2_begin_17 : decode cX2_begin 17 = .ok (.return_, 1) := by decide +kernel
theorem dX2_begin_18 : decode cX2_begin 18 = .ok (.aload_n 0, 1) := by decide +kernel
theorem dX2_begin_19 : decode cX2_begin 19 = .ok (.dup, 1) := by decide +kernel
theorem dX2_begin_20 : decode cX2_begin 20 = .ok (.getfield 39, 3) := by decide +kernel
theorem dX2_begin_23 : decode cX2_begin 23 = .ok (.iconst 1, 1) := by decide +kernel
theorem dX2_begin_24 : decode cX2_begin 24 = .ok (.iadd, 1) := by decide +kernel
theorem dX2_begin_25 : decode cX2_begin 25 = .ok (.putfield 39, 3) := by decide +kernel
theorem dX2_begin_28 : decode cX2_begin 28 = .ok (.aload_n 0, 1) := by decide +kernel
theorem dX2_begin_29 : decode cX2_begin 29 = .ok (.getfield 50, 3) := by decide +kernel
theorem dX2_begin_32 : decode cX2_begin 32 = .ok (.getfield 95, 3) := by decide +kernel
theorem dX2_begin_35 : decode cX2_begin 35 = .ok (.iload_n 1, 1) := by decide +kernel
theorem dX2_begin_36 : decode cX2_begin 36 = .ok (.invokestatic 100, 3) := by decide +kernel
theorem dX2_begin_39 : decode cX2_begin 39 = .ok (.tableswitch 90 0 3 #[29, 47, 67, 67], 29) := by decide +kernel
theorem dX2_begin_68 : decode cX2_begin 68 = .ok (.aload_n 0, 1) := by decide +kernel
theorem dX2_begin_69 : decode cX2_begin 69 = .ok (.aload_n 0, 1) := by decide +kernel
theorem dX2_begin_70 : decode cX2_begin 70 = .ok (.getfield 50, 3) := by decide +kernel
theorem dX2_begin_73 : decode cX2_begin 73 = .ok (.getfield 104, 3) := by decide +kernel
theorem dX2_begin_76 : decode cX2_begin 76 = .ok (.iload_n 1, 1) := by decide +kernel
theorem dX2_begin_77 : decode cX2_begin 77 = .ok (.invokestatic 100, 3) := by decide +kernel
theorem dX2_begin_80 : decode cX2_begin 80 = .ok (.invokevirtual 107, 3) := by decide +kernel
theorem dX2_begin_83 : decode cX2_begin 83 = .ok (.goto 51, 3) := by decide +kernel
theorem dX2_begin_86 : decode cX2_begin 86 = .ok (.aload_n 0, 1) := by decide +kernel
theorem dX2_begin_87 : decode cX2_begin 87 = .ok (.iconst (-1), 1) := by decide +kernel
theorem dX2_begin_88 : decode cX2_begin 88 = .ok (.aload_n 0, 1) := by decide +kernel
theorem dX2_begin_89 : decode cX2_begin 89 = .ok (.getfield 50, 3) := by decide +kernel
theorem dX2_begin_92 : decode cX2_begin 92 = .ok (.getfield 104, 3) := by decide +kernel
theorem dX2_begin_95 : decode cX2_begin 95 = .ok (.iload_n 1, 1) := by decide +kernel
theorem dX2_begin_96 : decode cX2_begin 96 = .ok (.invokestatic 100, 3) := by decide +kernel
theorem dX2_begin_99 : decode cX2_begin 99 = .ok (.i2l, 1) := by decide +kernel
theorem dX2_begin_100 : decode cX2_begin 100 = .ok (.invokevirtual 110, 3) := by decide +kernel
theorem dX2_begin_103 : decode cX2_begin 103 = .ok (.goto 31, 3) := by decide +kernel
theorem dX2_begin_106 : decode cX2_begin 106 = .ok (.aload_n 0, 1) := by decide +kernel
theorem dX2_begin_107 : decode cX2_begin 107 = .ok (.aload_n 0, 1) := by decide +kernel
theorem dX2_begin_108 : decode cX2_begin 108 = .ok (.getfield 50, 3) := by decide +kernel
theorem dX2_begin_111 : decode cX2_begin 111 = .ok (.getfield 113, 3) := by decide +kernel
theorem dX2_begin_114 : decode cX2_begin 114 = .ok (.iload_n 1, 1) := by decide +kernel
theorem dX2_begin_115 : decode cX2_begin 115 = .ok (.invokestatic 100, 3) := by decide +kernel
theorem dX2_begin_118 : decode cX2_begin 118 = .ok (.aload_n 0, 1) := by decide +kernel
theorem dX2_begin_119 : decode cX2_begin 119 = .ok (.getfield 75, 3) := by decide +kernel
theorem dX2_begin_122 : decode cX2_begin 122 = .ok (.i2l, 1) := by decide +kernel
theorem dX2_begin_123 : decode cX2_begin 123 = .ok (.invokevirtual 110, 3) := by decide +kernel
theorem dX2_begin_126 : decode cX2_begin 126 = .ok (.goto 8, 3) := by decide +kernel
theorem dX2_begin_129 : decode cX2_begin 129 = .ok (.aload_n 0, 1) := by decide +kernel
theorem dX2_begin_130 : decode cX2_begin 130 = .ok (.iload_n 1, 1) := by decide +kernel
theorem dX2_begin_131 : decode cX2_begin 131 = .ok (.invokevirtual 115, 3) := by decide +kernel
theorem dX2_begin_134 : decode cX2_begin 134 = .ok (.return_, 1) := by decide +kernel
theorem dX2_come_0 : decode cX2_come 0 = .ok (.aload_n 0, 1) := by decide +kernel
theorem dX2_come_1 : decode cX2_come 1 = .ok (.iload_n 1, 1) := by decide +kernel
theorem dX2_come_2 : decode cX2_come 2 = .ok (.putfield 85, 3) := by decide +kernel
theorem dX2_come_5 : decode cX2_come 5 = .ok (.aload_n 0, 1) := by decide +kernel
theorem dX2_come_6 : decode cX2_come 6 = .ok (.lload_n 2, 1) := by decide +kernel
theorem dX2_come_7 : decode cX2_come 7 = .ok (.putfield 88, 3) := by decide +kernel
theorem dX2_come_10 : decode cX2_come 10 = .ok (.aload_n 0, 1) := by decide +kernel
theorem dX2_come_11 : decode cX2_come 11 = .ok (.iconst (-1), 1) := by decide +kernel
theorem dX2_come_12 : decode cX2_come 12 = .ok (.putfield 72, 3) := by decide +kernel
theorem dX2_come_15 : decode cX2_come 15 = .ok (.return_, 1) := by decide +kernel
theorem dX2_recall_0 : decode cX2_recall 0 = .ok (.aload_n 0, 1) := by decide +kernel
theorem dX2_recall_1 : decode cX2_recall 1 = .ok (.getfield 50, 3) := by decide +kernel
theorem dX2_recall_4 : decode cX2_recall 4 = .ok (.getfield 118, 3) := by decide +kernel
theorem dX2_recall_7 : decode cX2_recall 7 = .ok (.iload_n 1, 1) := by decide +kernel
theorem dX2_recall_8 : decode cX2_recall 8 = .ok (.invokestatic 100, 3) := by decide +kernel
theorem dX2_recall_11 : decode cX2_recall 11 = .ok (.istore_n 2, 1) := by decide +kernel
theorem dX2_recall_12 : decode cX2_recall 12 = .ok (.aload_n 0, 1) := by decide +kernel
theorem dX2_recall_13 : decode cX2_recall 13 = .ok (.getfield 50, 3) := by decide +kernel
theorem dX2_recall_16 : decode cX2_recall 16 = .ok (.getfield 121, 3) := by decide +kernel
theorem dX2_recall_19 : decode cX2_recall 19 = .ok (.iload_n 2, 1) := by decide +kernel
theorem dX2_recall_20 : decode cX2_recall 20 = .ok (.invokestatic 100, 3) := by decide +kernel
theorem dX2_recall_23 : decode cX2_recall 23 = .ok (.iload_n 1, 1) := by decide +kernel
theorem dX2_recall_24 : decode cX2_recall 24 = .ok (.if_icmp .ne 53, 3) := by decide +kernel
theorem dX2_recall_27 : decode cX2_recall 27 = .ok (.aload_n 0, 1) := by decide +kernel
theorem dX2_recall_28 : decode cX2_recall 28 = .ok (.getfield 18, 3) := by decide +kernel
theorem dX2_recall_31 : decode cX2_recall 31 = .ok (.aload_n 0, 1) := by decide +kernel
theorem dX2_recall_32 : decode cX2_recall 32 = .ok (.getfield 50, 3) := by decide +kernel
theorem dX2_recall_35 : decode cX2_recall 35 = .ok (.getfield 104, 3) := by decide +kernel
theorem dX2_recall_38 : decode cX2_recall 38 = .ok (.iload_n 2, 1) := by decide +kernel
theorem dX2_recall_39 : decode cX2_recall 39 = .ok (.invokestatic 100, 3) := by decide +kernel
theorem dX2_recall_42 : decode cX2_recall 42 = .ok (.aload_n 0, 1) := by decide +kernel
theorem dX2_recall_43 : decode cX2_recall 43 = .ok (.getfield 75, 3) := by decide +kernel
theorem dX2_recall_46 : decode cX2_recall 46 = .ok (.invokevirtual 124, 3) := by decide +kernel
theorem dX2_recall_49 : decode cX2_recall 49 = .ok (.istore_n 3, 1) := by decide +kernel
theorem dX2_recall_50 : decode cX2_recall 50 = .ok (.aload_n 0, 1) := by decide +kernel
theorem dX2_recall_51 : decode cX2_recall 51 = .ok (.aload_n 0, 1) := by decide +kernel
theorem dX2_recall_52 : decode cX2_recall 52 = .ok (.getfield 50, 3) := by decide +kernel
theorem dX2_recall_55 : decode cX2_recall 55 = .ok (.getfield 113, 3) := by decide +kernel
theorem dX2_recall_58 : decode cX2_recall 58 = .ok (.iload_n 2, 1) := by decide +kernel
theorem dX2_recall_59 : decode cX2_recall 59 = .ok (.invokestatic 100, 3) := by decide +kernel
theorem dX2_recall_62 : decode cX2_recall 62 = .ok (.aload_n 0, 1) := by decide +kernel
theorem dX2_recall_63 : decode cX2_recall 63 = .ok (.getfield 18, 3) := by decide +kernel
theorem dX2_recall_66 : decode cX2_recall 66 = .ok (.iload_n 3, 1) := by decide +kernel
theorem dX2_recall_67 : decode cX2_recall 67 = .ok (.invokevirtual 127, 3) := by decide +kernel
theorem dX2_recall_70 : decode cX2_recall 70 = .ok (.i2l, 1) := by decide +kernel
theorem dX2_recall_71 : decode cX2_recall 71 = .ok (.invokevirtual 110, 3) := by decide +kernel
theorem dX2_recall_74 : decode cX2_recall 74 = .ok (.goto 36, 3) := by decide +kernel
theorem dX2_recall_77 : decode cX2_recall 77 = .ok (.aload_n 0, 1) := by decide +kernel
theorem dX2_recall_78 : decode cX2_recall 78 = .ok (.getfield 18, 3) := by decide +kernel
theorem dX2_recall_81 : decode cX2_recall 81 = .ok (.iload_n 1, 1) := by decide +kernel
theorem dX2_recall_82 : decode cX2_recall 82 = .ok (.aload_n 0, 1) := by decide +kernel
theorem dX2_recall_83 : decode cX2_recall 83 = .ok (.getfield 75, 3) := by decide +kernel
theorem dX2_recall_86 : decode cX2_recall 86 = .ok (.invokevirtual 124, 3) := by decide +kernel
theorem dX2_recall_89 : decode cX2_recall 89 = .ok (.istore_n 3, 1) := by decide +kernel
theorem dX2_recall_90 : decode cX2_recall 90 = .ok (.aload_n 0, 1) := by decide +kernel
theorem dX2_recall_91 : decode cX2_recall 91 = .ok (.aload_n 0, 1) := by decide +kernel
theorem dX2_recall_92 : decode cX2_recall 92 = .ok (.getfield 18, 3) := by decide +kernel
theorem dX2_recall_95 : decode cX2_recall 95 = .ok (.iload_n 3, 1) := by decide +kernel
theorem dX2_recall_96 : decode cX2_recall 96 = .ok (.invokevirtual 131, 3) := by decide +kernel
theorem dX2_recall_99 : decode cX2_recall 99 = .ok (.aload_n 0, 1) := by decide +kernel
theorem dX2_recall_100 : decode cX2_recall 100 = .ok (.getfield 18, 3) := by decide +kernel
theorem dX2_recall_103 : decode cX2_recall 103 = .ok (.iload_n 3, 1) := by decide +kernel
theorem dX2_recall_104 : decode cX2_recall 104 = .ok (.invokevirtual 134, 3) := by decide +kernel
theorem dX2_recall_107 : decode cX2_recall 107 = .ok (.invokevirtual 110, 3) := by decide +kernel
theorem dX2_recall_110 : decode cX2_recall 110 = .ok (.return_, 1) := by decide +kernel
theorem dX2_await_0 : decode cX2_await 0 = .ok (.aload_n 0, 1) := by decide +kernel
theorem dX2_await_1 : decode cX2_await 1 = .ok (.getfield 69, 3) := by decide +kernel
theorem dX2_await_4 : decode cX2_await 4 = .ok (.sipush 2000, 3) := by decide +kernel
theorem dX2_await_7 : decode cX2_await 7 = .ok (.if_icmp .ge 46, 3) := by decide +kernel
theorem dX2_await_10 : decode cX2_await 10 = .ok (.aload_n 0, 1) := by decide +kernel
theorem dX2_await_11 : decode cX2_await 11 = .ok (.getfield 22, 3) := by decide +kernel
theorem dX2_await_14 : decode cX2_await 14 = .ok (.aload_n 0, 1) := by decide +kernel
theorem dX2_await_15 : decode cX2_await 15 = .ok (.getfield 69, 3) := by decide +kernel
theorem dX2_await_18 : decode cX2_await 18 = .ok (.iload_n 1, 1) := by decide +kernel
theorem dX2_await_19 : decode cX2_await 19 = .ok (.iastore, 1) := by decide +kernel
theorem dX2_await_20 : decode cX2_await 20 = .ok (.aload_n 0, 1) := by decide +kernel
theorem dX2_await_21 : decode cX2_await 21 = .ok (.getfield 26, 3) := by decide +kernel
theorem dX2_await_24 : decode cX2_await 24 = .ok (.aload_n 0, 1) := by decide +kernel
theorem dX2_await_25 : decode cX2_await 25 = .ok (.getfield 69, 3) := by decide +kernel
theorem dX2_await_28 : decode cX2_await 28 = .ok (.aload_n 0, 1) := by decide +kernel
theorem dX2_await_29 : decode cX2_await 29 = .ok (.getfield 75, 3) := by decide +kernel
theorem dX2_await_32 : decode cX2_await 32 = .ok (.iastore, 1) := by decide +kernel
theorem dX2_await_33 : decode cX2_await 33 = .ok (.aload_n 0, 1) := by decide +kernel
theorem dX2_await_34 : decode cX2_await 34 = .ok (.getfield 29, 3) := by decide +kernel
theorem dX2_await_37 : decode cX2_await 37 = .ok (.aload_n 0, 1) := by decide +kernel
theorem dX2_await_38 : decode cX2_await 38 = .ok (.getfield 69, 3) := by decide +kernel
theorem dX2_await_41 : decode cX2_await 41 = .ok (.iconst 0, 1) := by decide +kernel
theorem dX2_await_42 : decode cX2_await 42 = .ok (.bastore, 1) := by decide +kernel
theorem dX2_await_43 : decode cX2_await 43 = .ok (.aload_n 0, 1) := by decide +kernel
theorem dX2_await_44 : decode cX2_await 44 = .ok (.dup, 1) := by decide +kernel
theorem dX2_await_45 : decode cX2_await 45 = .ok (.getfield 69, 3) := by decide +kernel
theorem dX2_await_48 : decode cX2_await 48 = .ok (.iconst 1, 1) := by decide +kernel
theorem dX2_await_49 : decode cX2_await 49 = .ok (.iadd, 1) := by decide +kernel
theorem dX2_await_50 : decode cX2_await 50 = .ok (.putfield 69, 3) := by decide +kernel
theorem dX2_await_53 : decode cX2_await 53 = .ok (.aload_n 0, 1) := by decide +kernel
theorem dX2_await_54 : decode cX2_await 54 = .ok (.aload_n 0, 1) := by decide +kernel
theorem dX2_await_55 : decode cX2_await 55 = .ok (.getfield 50, 3) := by decide +kernel
theorem dX2_await_58 : decode cX2_await 58 = .ok (.iload_n 1, 1) := by decide +kernel
theorem dX2_await_59 : decode cX2_await 59 = .ok (.iconst 0, 1) := by decide +kernel
theorem dX2_await_60 : decode cX2_await 60 = .ok (.invokevirtual 138, 3) := by decide +kernel
theorem dX2_await_63 : decode cX2_await 63 = .ok (.putfield 72, 3) := by decide +kernel
theorem dX2_await_66 : decode cX2_await 66 = .ok (.return_, 1) := by decide +kernel
theorem dX2_hand_0 : decode cX2_hand 0 = .ok (.aload_n 0, 1) := by decide +kernel
theorem dX2_hand_1 : decode cX2_hand 1 = .ok (.getfield 22, 3) := by decide +kernel
theorem dX2_hand_4 : decode cX2_hand 4 = .ok (.iload_n 1, 1) := by decide +kernel
theorem dX2_hand_5 : decode cX2_hand 5 = .ok (.iaload, 1) := by decide +kernel
theorem dX2_hand_6 : decode cX2_hand 6 = .ok (.istore_n 2, 1) := by decide +kernel
theorem dX2_hand_7 : decode cX2_hand 7 = .ok (.aload_n 0, 1) := by decide +kernel
theorem dX2_hand_8 : decode cX2_hand 8 = .ok (.getfield 50, 3) := by decide +kernel
theorem dX2_hand_11 : decode cX2_hand 11 = .ok (.getfield 95, 3) := by decide +kernel
theorem dX2_hand_14 : decode cX2_hand 14 = .ok (.iload_n 2, 1) := by decide +kernel
theorem dX2_hand_15 : decode cX2_hand 15 = .ok (.invokestatic 100, 3) := by decide +kernel
theorem dX2_hand_18 : decode cX2_hand 18 = .ok (.istore_n 3, 1) := by decide +kernel
theorem dX2_hand_19 : decode cX2_hand 19 = .ok (.aload_n 0, 1) := by decide +kernel
theorem dX2_hand_20 : decode cX2_hand 20 = .ok (.aload_n 0, 1) := by decide +kernel
theorem dX2_hand_21 : decode cX2_hand 21 = .ok (.getfield 26, 3) := by decide +kernel
theorem dX2_hand_24 : decode cX2_hand 24 = .ok (.iload_n 1, 1) := by decide +kernel
theorem dX2_hand_25 : decode cX2_hand 25 = .ok (.iaload, 1) := by decide +kernel
theorem dX2_hand_26 : decode cX2_hand 26 = .ok (.putfield 75, 3) := by decide +kernel
theorem dX2_hand_29 : decode cX2_hand 29 = .ok (.iload_n 3, 1) := by decide +kernel
theorem dX2_hand_30 : decode cX2_hand 30 = .ok (.iconst 4, 1) := by decide +kernel
theorem dX2_hand_31 : decode cX2_hand 31 = .ok (.if_icmp .ne 11, 3) := by decide +kernel
theorem dX2_hand_34 : decode cX2_hand 34 = .ok (.aload_n 0, 1) := by decide +kernel
theorem dX2_hand_35 : decode cX2_hand 35 = .ok (.iload_n 2, 1) := by decide +kernel
theorem dX2_hand_36 : decode cX2_hand 36 = .ok (.invokevirtual 141, 3) := by decide +kernel
theorem dX2_hand_39 : decode cX2_hand 39 = .ok (.goto 159, 3) := by decide +kernel
theorem dX2_hand_42 : decode cX2_hand 42 = .ok (.iload_n 3, 1) := by decide +kernel
theorem dX2_hand_43 : decode cX2_hand 43 = .ok (.iconst 5, 1) := by decide +kernel
theorem dX2_hand_44 : decode cX2_hand 44 = .ok (.if_icmp .ne 58, 3) := by decide +kernel
theorem dX2_hand_47 : decode cX2_hand 47 = .ok (.aload_n 0, 1) := by decide +kernel
theorem dX2_hand_48 : decode cX2_hand 48 = .ok (.iload_n 1, 1) := by decide +kernel
theorem dX2_hand_49 : decode cX2_hand 49 = .ok (.putfield 69, 3) := by decide +kernel
theorem dX2_hand_52 : decode cX2_hand 52 = .ok (.aload_n 0, 1) := by decide +kernel
theorem dX2_hand_53 : decode cX2_hand 53 = .ok (.aload_n 0, 1) := by decide +kernel
theorem dX2_hand_54 : decode cX2_hand 54 = .ok (.getfield 18, 3) := by decide +kernel
theorem dX2_hand_57 : decode cX2_hand 57 = .ok (.aload_n 0, 1) := by decide +kernel
theorem dX2_hand_58 : decode cX2_hand 58 = .ok (.getfield 50, 3) := by decide +kernel
theorem dX2_hand_61 : decode cX2_hand 61 = .ok (.getfield 104, 3) := by decide +kernel
theorem dX2_hand_64 : decode cX2_hand 64 = .ok (.iload_n 2, 1) := by decide +kernel
theorem dX2_hand_65 : decode cX2_hand 65 = .ok (.invokestatic 100, 3) := by decide +kernel
theorem dX2_hand_68 : decode cX2_hand 68 = .ok (.aload_n 0, 1) := by decide +kernel
theorem dX2_hand_69 : decode cX2_hand 69 = .ok (.getfield 85, 3) := by decide +kernel
theorem dX2_hand_72 : decode cX2_hand 72 = .ok (.aload_n 0, 1) := by decide +kernel
theorem dX2_hand_73 : decode cX2_hand 73 = .ok (.getfield 88, 3) := by decide +kernel
theorem dX2_hand_76 : decode cX2_hand 76 = .ok (.aload_n 0, 1) := by decide +kernel
theorem dX2_hand_77 : decode cX2_hand 77 = .ok (.getfield 75, 3) := by decide +kernel
theorem dX2_hand_80 : decode cX2_hand 80 = .ok (.invokevirtual 144, 3) := by decide +kernel
theorem dX2_hand_83 : decode cX2_hand 83 = .ok (.putfield 75, 3) := by decide +kernel
theorem dX2_hand_86 : decode cX2_hand 86 = .ok (.aload_n 0, 1) := by decide +kernel
theorem dX2_hand_87 : decode cX2_hand 87 = .ok (.aload_n 0, 1) := by decide +kernel
theorem dX2_hand_88 : decode cX2_hand 88 = .ok (.getfield 50, 3) := by decide +kernel
theorem dX2_hand_91 : decode cX2_hand 91 = .ok (.iload_n 2, 1) := by decide +kernel
theorem dX2_hand_92 : decode cX2_hand 92 = .ok (.iconst 1, 1) := by decide +kernel
theorem dX2_hand_93 : decode cX2_hand 93 = .ok (.invokevirtual 138, 3) := by decide +kernel
theorem dX2_hand_96 : decode cX2_hand 96 = .ok (.putfield 72, 3) := by decide +kernel
theorem dX2_hand_99 : decode cX2_hand 99 = .ok (.goto 99, 3) := by decide +kernel
theorem dX2_hand_102 : decode cX2_hand 102 = .ok (.aload_n 0, 1) := by decide +kernel
theorem dX2_hand_103 : decode cX2_hand 103 = .ok (.getfield 29, 3) := by decide +kernel
theorem dX2_hand_106 : decode cX2_hand 106 = .ok (.iload_n 1, 1) := by decide +kernel
theorem dX2_hand_107 : decode cX2_hand 107 = .ok (.baload, 1) := by decide +kernel
theorem dX2_hand_108 : decode cX2_hand 108 = .ok (.ifCond .ne 46, 3) := by decide +kernel
theorem dX2_hand_111 : decode cX2_hand 111 = .ok (.aload_n 0, 1) := by decide +kernel
theorem dX2_hand_112 : decode cX2_hand 112 = .ok (.getfield 29, 3) := by decide +kernel
theorem dX2_hand_115 : decode cX2_hand 115 = .ok (.iload_n 1, 1) := by decide +kernel
theorem dX2_hand_116 : decode cX2_hand 116 = .ok (.iconst 1, 1) := by decide +kernel
theorem dX2_hand_117 : decode cX2_hand 117 = .ok (.bastore, 1) := by decide +kernel
theorem dX2_hand_118 : decode cX2_hand 118 = .ok (.aload_n 0, 1) := by decide +kernel
theorem dX2_hand_119 : decode cX2_hand 119 = .ok (.getfield 33, 3) := by decide +kernel
theorem dX2_hand_122 : decode cX2_hand 122 = .ok (.iload_n 1, 1) := by decide +kernel
theorem dX2_hand_123 : decode cX2_hand 123 = .ok (.aload_n 0, 1) := by decide +kernel
theorem dX2_hand_124 : decode cX2_hand 124 = .ok (.getfield 85, 3) := by decide +kernel
theorem dX2_hand_127 : decode cX2_hand 127 = .ok (.iastore, 1) := by decide +kernel
theorem dX2_hand_128 : decode cX2_hand 128 = .ok (.aload_n 0, 1) := by decide +kernel
theorem dX2_hand_129 : decode cX2_hand 129 = .ok (.getfield 36, 3) := by decide +kernel
theorem dX2_hand_132 : decode cX2_hand 132 = .ok (.iload_n 1, 1) := by decide +kernel
theorem dX2_hand_133 : decode cX2_hand 133 = .ok (.aload_n 0, 1) := by decide +kernel
theorem dX2_hand_134 : decode cX2_hand 134 = .ok (.getfield 88, 3) := by decide +kernel
theorem dX2_hand_137 : decode cX2_hand 137 = .ok (.lastore, 1) := by decide +kernel
theorem dX2_hand_138 : decode cX2_hand 138 = .ok (.aload_n 0, 1) := by decide +kernel
theorem dX2_hand_139 : decode cX2_hand 139 = .ok (.aload_n 0, 1) := by decide +kernel
theorem dX2_hand_140 : decode cX2_hand 140 = .ok (.getfield 50, 3) := by decide +kernel
theorem dX2_hand_143 : decode cX2_hand 143 = .ok (.iload_n 2, 1) := by decide +kernel
theorem dX2_hand_144 : decode cX2_hand 144 = .ok (.iconst 1, 1) := by decide +kernel
theorem dX2_hand_145 : decode cX2_hand 145 = .ok (.invokevirtual 138, 3) := by decide +kernel
theorem dX2_hand_148 : decode cX2_hand 148 = .ok (.putfield 72, 3) := by decide +kernel
theorem dX2_hand_151 : decode cX2_hand 151 = .ok (.goto 47, 3) := by decide +kernel
theorem dX2_hand_154 : decode cX2_hand 154 = .ok (.iload_n 3, 1) := by decide +kernel
theorem dX2_hand_155 : decode cX2_hand 155 = .ok (.bipush 11, 2) := by decide +kernel
theorem dX2_hand_157 : decode cX2_hand 157 = .ok (.if_icmp .ne 23, 3) := by decide +kernel
theorem dX2_hand_160 : decode cX2_hand 160 = .ok (.aload_n 0, 1) := by decide +kernel
theorem dX2_hand_161 : decode cX2_hand 161 = .ok (.iload_n 2, 1) := by decide +kernel
theorem dX2_hand_162 : decode cX2_hand 162 = .ok (.aload_n 0, 1) := by decide +kernel
theorem dX2_hand_163 : decode cX2_hand 163 = .ok (.getfield 33, 3) := by decide +kernel
theorem dX2_hand_166 : decode cX2_hand 166 = .ok (.iload_n 1, 1) := by decide +kernel
theorem dX2_hand_167 : decode cX2_hand 167 = .ok (.iaload, 1) := by decide +kernel
theorem dX2_hand_168 : decode cX2_hand 168 = .ok (.aload_n 0, 1) := by decide +kernel
theorem dX2_hand_169 : decode cX2_hand 169 = .ok (.getfield 36, 3) := by decide +kernel
theorem dX2_hand_172 : decode cX2_hand 172 = .ok (.iload_n 1, 1) := by decide +kernel
theorem dX2_hand_173 : decode cX2_hand 173 = .ok (.laload, 1) := by decide +kernel
theorem dX2_hand_174 : decode cX2_hand 174 = .ok (.invokevirtual 148, 3) := by decide +kernel
theorem dX2_hand_177 : decode cX2_hand 177 = .ok (.goto 21, 3) := by decide +kernel
theorem dX2_hand_180 : decode cX2_hand 180 = .ok (.aload_n 0, 1) := by decide +kernel
theorem dX2_hand_181 : decode cX2_hand 181 = .ok (.iload_n 2, 1) := by decide +kernel
theorem dX2_hand_182 : decode cX2_hand 182 = .ok (.iload_n 3, 1) := by decide +kernel
theorem dX2_hand_183 : decode cX2_hand 183 = .ok (.aload_n 0, 1) := by decide +kernel
theorem dX2_hand_184 : decode cX2_hand 184 = .ok (.getfield 33, 3) := by decide +kernel
theorem dX2_hand_187 : decode cX2_hand 187 = .ok (.iload_n 1, 1) := by decide +kernel
theorem dX2_hand_188 : decode cX2_hand 188 = .ok (.iaload, 1) := by decide +kernel
theorem dX2_hand_189 : decode cX2_hand 189 = .ok (.aload_n 0, 1) := by decide +kernel
theorem dX2_hand_190 : decode cX2_hand 190 = .ok (.getfield 36, 3) := by decide +kernel
theorem dX2_hand_193 : decode cX2_hand 193 = .ok (.iload_n 1, 1) := by decide +kernel
theorem dX2_hand_194 : decode cX2_hand 194 = .ok (.laload, 1) := by decide +kernel
theorem dX2_hand_195 : decode cX2_hand 195 = .ok (.invokevirtual 152, 3) := by decide +kernel
theorem dX2_hand_198 : decode cX2_hand 198 = .ok (.return_, 1) := by decide +kernel
theorem dX2_choose_0 : decode cX2_choose 0 = .ok (.aload_n 0, 1) := by decide +kernel
theorem dX2_choose_1 : decode cX2_choose 1 = .ok (.getfield 85, 3) := by decide +kernel
theorem dX2_choose_4 : decode cX2_choose 4 = .ok (.iconst (-1), 1) := by decide +kernel
theorem dX2_choose_5 : decode cX2_choose 5 = .ok (.if_icmp .eq 11, 3) := by decide +kernel
theorem dX2_choose_8 : decode cX2_choose 8 = .ok (.aload_n 0, 1) := by decide +kernel
theorem dX2_choose_9 : decode cX2_choose 9 = .ok (.iconst 2, 1) := by decide +kernel
theorem dX2_choose_10 : decode cX2_choose 10 = .ok (.iload_n 1, 1) := by decide +kernel
theorem dX2_choose_11 : decode cX2_choose 11 = .ok (.i2l, 1) := by decide +kernel
theorem dX2_choose_12 : decode cX2_choose 12 = .ok (.invokevirtual 91, 3) := by decide +kernel
theorem dX2_choose_15 : decode cX2_choose 15 = .ok (.return_, 1) := by decide +kernel
theorem dX2_choose_16 : decode cX2_choose 16 = .ok (.aload_n 0, 1) := by decide +kernel
theorem dX2_choose_17 : decode cX2_choose 17 = .ok (.dup, 1) := by decide +kernel
theorem dX2_choose_18 : decode cX2_choose 18 = .ok (.getfield 69, 3) := by decide +kernel
theorem dX2_choose_21 : decode cX2_choose 21 = .ok (.iconst 1, 1) := by decide +kernel
theorem dX2_choose_22 : decode cX2_choose 22 = .ok (.isub, 1) := by decide +kernel
theorem dX2_choose_23 : decode cX2_choose 23 = .ok (.putfield 69, 3) := by decide +kernel
theorem dX2_choose_26 : decode cX2_choose 26 = .ok (.aload_n 0, 1) := by decide +kernel
theorem dX2_choose_27 : decode cX2_choose 27 = .ok (.aload_n 0, 1) := by decide +kernel
theorem dX2_choose_28 : decode cX2_choose 28 = .ok (.getfield 50, 3) := by decide +kernel
theorem dX2_choose_31 : decode cX2_choose 31 = .ok (.iload_n 1, 1) := by decide +kernel
theorem dX2_choose_32 : decode cX2_choose 32 = .ok (.aload_n 0, 1) := by decide +kernel
theorem dX2_choose_33 : decode cX2_choose 33 = .ok (.getfield 88, 3) := by decide +kernel
theorem dX2_choose_36 : decode cX2_choose 36 = .ok (.lconst 0, 1) := by decide +kernel
theorem dX2_choose_37 : decode cX2_choose 37 = .ok (.lcmp, 1) := by decide +kernel
theorem dX2_choose_38 : decode cX2_choose 38 = .ok (.ifCond .eq 7, 3) := by decide +kernel
theorem dX2_choose_41 : decode cX2_choose 41 = .ok (.iconst 1, 1) := by decide +kernel
theorem dX2_choose_42 : decode cX2_choose 42 = .ok (.goto 4, 3) := by decide +kernel
theorem dX2_choose_45 : decode cX2_choose 45 = .ok (.iconst 2, 1) := by decide +kernel
theorem dX2_choose_46 : decode cX2_choose 46 = .ok (.invokevirtual 138, 3) := by decide +kernel
theorem dX2_choose_49 : decode cX2_choose 49 = .ok (.putfield 72, 3) := by decide +kernel
theorem dX2_choose_52 : decode cX2_choose 52 = .ok (.return_, 1) := by decide +kernel
theorem dX2_enter_0 : decode cX2_enter 0 = .ok (.iload_n 2, 1) := by decide +kernel
theorem dX2_enter_1 : decode cX2_enter 1 = .ok (.iconst (-1), 1) := by decide +kernel
theorem dX2_enter_2 : decode cX2_enter 2 = .ok (.if_icmp .ne 11, 3) := by decide +kernel
theorem dX2_enter_5 : decode cX2_enter 5 = .ok (.aload_n 0, 1) := by decide +kernel
theorem dX2_enter_6 : decode cX2_enter 6 = .ok (.iconst 2, 1) := by decide +kernel
theorem dX2_enter_7 : decode cX2_enter 7 = .ok (.iload_n 1, 1) := by decide +kernel
theorem dX2_enter_8 : decode cX2_enter 8 = .ok (.i2l, 1) := by decide +kernel
theorem dX2_enter_9 : decode cX2_enter 9 = .ok (.invokevirtual 91, 3) := by decide +kernel
theorem dX2_enter_12 : decode cX2_enter 12 = .ok (.return_, 1) := by decide +kernel
theorem dX2_enter_13 : decode cX2_enter 13 = .ok (.iload_n 1, 1) := by decide +kernel
theorem dX2_enter_14 : decode cX2_enter 14 = .ok (.ifCond .lt 22, 3) := by decide +kernel
theorem dX2_enter_17 : decode cX2_enter 17 = .ok (.iload_n 1, 1) := by decide +kernel
theorem dX2_enter_18 : decode cX2_enter 18 = .ok (.sipush 200, 3) := by decide +kernel
theorem dX2_enter_21 : decode cX2_enter 21 = .ok (.if_icmp .ge 15, 3) := by decide +kernel
theorem dX2_enter_24 : decode cX2_enter 24 = .ok (.aload_n 0, 1) := by decide +kernel
theorem dX2_enter_25 : decode cX2_enter 25 = .ok (.getfield 9, 3) := by decide +kernel
theorem dX2_enter_28 : decode cX2_enter 28 = .ok (.iload_n 1, 1) := by decide +kernel
theorem dX2_enter_29 : decode cX2_enter 29 = .ok (.dup2, 1) := by decide +kernel
theorem dX2_enter_30 : decode cX2_enter 30 = .ok (.laload, 1) := by decide +kernel
theorem dX2_enter_31 : decode cX2_enter 31 = .ok (.lconst 1, 1) := by decide +kernel
theorem dX2_enter_32 : decode cX2_enter 32 = .ok (.iload_n 2, 1) := by decide +kernel
theorem dX2_enter_33 : decode cX2_enter 33 = .ok (.lshl, 1) := by decide +kernel
theorem dX2_enter_34 : decode cX2_enter 34 = .ok (.lor, 1) := by decide +kernel
theorem dX2_enter_35 : decode cX2_enter 35 = .ok (.lastore, 1) := by decide +kernel
theorem dX2_enter_36 : decode cX2_enter 36 = .ok (.aload_n 0, 1) := by decide +kernel
theorem dX2_enter_37 : decode cX2_enter 37 = .ok (.dup, 1) := by decide +kernel
theorem dX2_enter_38 : decode cX2_enter 38 = .ok (.getfield 69, 3) := by decide +kernel
theorem dX2_enter_41 : decode cX2_enter 41 = .ok (.iconst 1, 1) := by decide +kernel
theorem dX2_enter_42 : decode cX2_enter 42 = .ok (.isub, 1) := by decide +kernel
theorem dX2_enter_43 : decode cX2_enter 43 = .ok (.putfield 69, 3) := by decide +kernel
theorem dX2_enter_46 : decode cX2_enter 46 = .ok (.aload_n 0, 1) := by decide +kernel
theorem dX2_enter_47 : decode cX2_enter 47 = .ok (.getfield 50, 3) := by decide +kernel
theorem dX2_enter_50 : decode cX2_enter 50 = .ok (.getfield 156, 3) := by decide +kernel
theorem dX2_enter_53 : decode cX2_enter 53 = .ok (.iload_n 2, 1) := by decide +kernel
theorem dX2_enter_54 : decode cX2_enter 54 = .ok (.invokestatic 100, 3) := by decide +kernel
theorem dX2_enter_57 : decode cX2_enter 57 = .ok (.istore 5, 2) := by decide +kernel
theorem dX2_enter_59 : decode cX2_enter 59 = .ok (.aload_n 0, 1) := by decide +kernel
theorem dX2_enter_60 : decode cX2_enter 60 = .ok (.aload_n 0, 1) := by decide +kernel
theorem dX2_enter_61 : decode cX2_enter 61 = .ok (.getfield 18, 3) := by decide +kernel
theorem dX2_enter_64 : decode cX2_enter 64 = .ok (.aload_n 0, 1) := by decide +kernel
theorem dX2_enter_65 : decode cX2_enter 65 = .ok (.getfield 50, 3) := by decide +kernel
theorem dX2_enter_68 : decode cX2_enter 68 = .ok (.getfield 104, 3) := by decide +kernel
theorem dX2_enter_71 : decode cX2_enter 71 = .ok (.iload 5, 2) := by decide +kernel
theorem dX2_enter_73 : decode cX2_enter 73 = .ok (.invokestatic 100, 3) := by decide +kernel
theorem dX2_enter_76 : decode cX2_enter 76 = .ok (.aload_n 0, 1) := by decide +kernel
theorem dX2_enter_77 : decode cX2_enter 77 = .ok (.getfield 85, 3) := by decide +kernel
theorem dX2_enter_80 : decode cX2_enter 80 = .ok (.aload_n 0, 1) := by decide +kernel
theorem dX2_enter_81 : decode cX2_enter 81 = .ok (.getfield 88, 3) := by decide +kernel
theorem dX2_enter_84 : decode cX2_enter 84 = .ok (.lload_n 3, 1) := by decide +kernel
theorem dX2_enter_85 : decode cX2_enter 85 = .ok (.l2i, 1) := by decide +kernel
theorem dX2_enter_86 : decode cX2_enter 86 = .ok (.invokevirtual 144, 3) := by decide +kernel
theorem dX2_enter_89 : decode cX2_enter 89 = .ok (.putfield 75, 3) := by decide +kernel
theorem dX2_enter_92 : decode cX2_enter 92 = .ok (.aload_n 0, 1) := by decide +kernel
theorem dX2_enter_93 : decode cX2_enter 93 = .ok (.aload_n 0, 1) := by decide +kernel
theorem dX2_enter_94 : decode cX2_enter 94 = .ok (.getfield 50, 3) := by decide +kernel
theorem dX2_enter_97 : decode cX2_enter 97 = .ok (.iload 5, 2) := by decide +kernel
theorem dX2_enter_99 : decode cX2_enter 99 = .ok (.iconst 0, 1) := by decide +kernel
theorem dX2_enter_100 : decode cX2_enter 100 = .ok (.invokevirtual 138, 3) := by decide +kernel
theorem dX2_enter_103 : decode cX2_enter 103 = .ok (.putfield 72, 3) := by decide +kernel
theorem dX2_enter_106 : decode cX2_enter 106 = .ok (.return_, 1) := by decide +kernel
theorem dX2_reckon_0 : decode cX2_reckon 0 = .ok (.iload_n 3, 1) := by decide +kernel
theorem dX2_reckon_1 : decode cX2_reckon 1 = .ok (.iconst (-1), 1) := by decide +kernel
theorem dX2_reckon_2 : decode cX2_reckon 2 = .ok (.if_icmp .ne 11, 3) := by decide +kernel
theorem dX2_reckon_5 : decode cX2_reckon 5 = .ok (.aload_n 0, 1) := by decide +kernel
theorem dX2_reckon_6 : decode cX2_reckon 6 = .ok (.getfield 85, 3) := by decide +kernel
theorem dX2_reckon_9 : decode cX2_reckon 9 = .ok (.iconst (-1), 1) := by decide +kernel
theorem dX2_reckon_10 : decode cX2_reckon 10 = .ok (.if_icmp .eq 11, 3) := by decide +kernel
theorem dX2_reckon_13 : decode cX2_reckon 13 = .ok (.aload_n 0, 1) := by decide +kernel
theorem dX2_reckon_14 : decode cX2_reckon 14 = .ok (.iconst 2, 1) := by decide +kernel
theorem dX2_reckon_15 : decode cX2_reckon 15 = .ok (.iload_n 1, 1) := by decide +kernel
theorem dX2_reckon_16 : decode cX2_reckon 16 = .ok (.i2l, 1) := by decide +kernel
theorem dX2_reckon_17 : decode cX2_reckon 17 = .ok (.invokevirtual 91, 3) := by decide +kernel
theorem dX2_reckon_20 : decode cX2_reckon 20 = .ok (.return_, 1) := by decide +kernel
theorem dX2_reckon_21 : decode cX2_reckon 21 = .ok (.aload_n 0, 1) := by decide +kernel
theorem dX2_reckon_22 : decode cX2_reckon 22 = .ok (.dup, 1) := by decide +kernel
theorem dX2_reckon_23 : decode cX2_reckon 23 = .ok (.getfield 69, 3) := by decide +kernel
theorem dX2_reckon_26 : decode cX2_reckon 26 = .ok (.iconst 1, 1) := by decide +kernel
theorem dX2_reckon_27 : decode cX2_reckon 27 = .ok (.isub, 1) := by decide +kernel
theorem dX2_reckon_28 : decode cX2_reckon 28 = .ok (.putfield 69, 3) := by decide +kernel
theorem dX2_reckon_31 : decode cX2_reckon 31 = .ok (.iload_n 2, 1) := by decide +kernel
theorem dX2_reckon_32 : decode cX2_reckon 32 = .ok (.tableswitch 100 6 9 #[32, 47, 62, 77], 32) := by decide +kernel
theorem dX2_reckon_64 : decode cX2_reckon 64 = .ok (.aload_n 0, 1) := by decide +kernel
theorem dX2_reckon_65 : decode cX2_reckon 65 = .ok (.iconst (-1), 1) := by decide +kernel
theorem dX2_reckon_66 : decode cX2_reckon 66 = .ok (.lload 4, 2) := by decide +kernel
theorem dX2_reckon_68 : decode cX2_reckon 68 = .ok (.aload_n 0, 1) := by decide +kernel
theorem dX2_reckon_69 : decode cX2_reckon 69 = .ok (.getfield 88, 3) := by decide +kernel
theorem dX2_reckon_72 : decode cX2_reckon 72 = .ok (.ladd, 1) := by decide +kernel
theorem dX2_reckon_73 : decode cX2_reckon 73 = .ok (.invokevirtual 110, 3) := by decide +kernel
theorem dX2_reckon_76 : decode cX2_reckon 76 = .ok (.goto 76, 3) := by decide +kernel
theorem dX2_reckon_79 : decode cX2_reckon 79 = .ok (.aload_n 0, 1) := by decide +kernel
theorem dX2_reckon_80 : decode cX2_reckon 80 = .ok (.iconst (-1), 1) := by decide +kernel
theorem dX2_reckon_81 : decode cX2_reckon 81 = .ok (.lload 4, 2) := by decide +kernel
theorem dX2_reckon_83 : decode cX2_reckon 83 = .ok (.aload_n 0, 1) := by decide +kernel
theorem dX2_reckon_84 : decode cX2_reckon 84 = .ok (.getfield 88, 3) := by decide +kernel
theorem dX2_reckon_87 : decode cX2_reckon 87 = .ok (.lsub, 1) := by decide +kernel
theorem dX2_reckon_88 : decode cX2_reckon 88 = .ok (.invokevirtual 110, 3) := by decide +kernel
theorem dX2_reckon_91 : decode cX2_reckon 91 = .ok (.goto 61, 3) := by decide +kernel
theorem dX2_reckon_94 : decode cX2_reckon 94 = .ok (.aload_n 0, 1) := by decide +kernel
theorem dX2_reckon_95 : decode cX2_reckon 95 = .ok (.iconst (-1), 1) := by decide +kernel
theorem dX2_reckon_96 : decode cX2_reckon 96 = .ok (.lload 4, 2) := by decide +kernel
theorem dX2_reckon_98 : decode cX2_reckon 98 = .ok (.aload_n 0, 1) := by decide +kernel
theorem dX2_reckon_99 : decode cX2_reckon 99 = .ok (.getfield 88, 3) := by decide +kernel
theorem dX2_reckon_102 : decode cX2_reckon 102 = .ok (.lmul, 1) := by decide +kernel
theorem dX2_reckon_103 : decode cX2_reckon 103 = .ok (.invokevirtual 110, 3) := by decide +kernel
theorem dX2_reckon_106 : decode cX2_reckon 106 = .ok (.goto 46, 3) := by decide +kernel
theorem dX2_reckon_109 : decode cX2_reckon 109 = .ok (.aload_n 0, 1) := by decide +kernel
theorem dX2_reckon_110 : decode cX2_reckon 110 = .ok (.iconst (-1), 1) := by decide +kernel
theorem dX2_reckon_111 : decode cX2_reckon 111 = .ok (.lload 4, 2) := by decide +kernel
theorem dX2_reckon_113 : decode cX2_reckon 113 = .ok (.aload_n 0, 1) := by decide +kernel
theorem dX2_reckon_114 : decode cX2_reckon 114 = .ok (.getfield 88, 3) := by decide +kernel
theorem dX2_reckon_117 : decode cX2_reckon 117 = .ok (.lcmp, 1) := by decide +kernel
theorem dX2_reckon_118 : decode cX2_reckon 118 = .ok (.ifCond .ne 7, 3) := by decide +kernel
theorem dX2_reckon_121 : decode cX2_reckon 121 = .ok (.lconst 1, 1) := by decide +kernel
theorem dX2_reckon_122 : decode cX2_reckon 122 = .ok (.goto 4, 3) := by decide +kernel
theorem dX2_reckon_125 : decode cX2_reckon 125 = .ok (.lconst 0, 1) := by decide +kernel
theorem dX2_reckon_126 : decode cX2_reckon 126 = .ok (.invokevirtual 110, 3) := by decide +kernel
theorem dX2_reckon_129 : decode cX2_reckon 129 = .ok (.goto 23, 3) := by decide +kernel
theorem dX2_reckon_132 : decode cX2_reckon 132 = .ok (.aload_n 0, 1) := by decide +kernel
theorem dX2_reckon_133 : decode cX2_reckon 133 = .ok (.iconst (-1), 1) := by decide +kernel
theorem dX2_reckon_134 : decode cX2_reckon 134 = .ok (.lload 4, 2) := by decide +kernel
theorem dX2_reckon_136 : decode cX2_reckon 136 = .ok (.aload_n 0, 1) := by decide +kernel
theorem dX2_reckon_137 : decode cX2_reckon 137 = .ok (.getfield 88, 3) := by decide +kernel
theorem dX2_reckon_140 : decode cX2_reckon 140 = .ok (.lcmp, 1) := by decide +kernel
theorem dX2_reckon_141 : decode cX2_reckon 141 = .ok (.ifCond .ge 7, 3) := by decide +kernel
theorem dX2_reckon_144 : decode cX2_reckon 144 = .ok (.lconst 1, 1) := by decide +kernel
theorem dX2_reckon_145 : decode cX2_reckon 145 = .ok (.goto 4, 3) := by decide +kernel
theorem dX2_reckon_148 : decode cX2_reckon 148 = .ok (.lconst 0, 1) := by decide +kernel
theorem dX2_reckon_149 : decode cX2_reckon 149 = .ok (.invokevirtual 110, 3) := by decide +kernel
theorem dX2_reckon_152 : decode cX2_reckon 152 = .ok (.return_, 1) := by decide +kernel
theorem dX3_init_0 : decode cX3_init 0 = .ok (.aload_n 0, 1) := by decide +kernel
theorem dX3_init_1 : decode cX3_init 1 = .ok (.invokespecial 3, 3) := by decide +kernel
theorem dX3_init_4 : decode cX3_init 4 = .ok (.aload_n 0, 1) := by decide +kernel
theorem dX3_init_5 : decode cX3_init 5 = .ok (.sipush 200, 3) := by decide +kernel
theorem dX3_init_8 : decode cX3_init 8 = .ok (.newarray .int, 2) := by decide +kernel
theorem dX3_init_10 : decode cX3_init 10 = .ok (.putfield 9, 3) := by decide +kernel
theorem dX3_init_13 : decode cX3_init 13 = .ok (.aload_n 0, 1) := by decide +kernel
theorem dX3_init_14 : decode cX3_init 14 = .ok (.sipush 200, 3) := by decide +kernel
theorem dX3_init_17 : decode cX3_init 17 = .ok (.newarray .int, 2) := by decide +kernel
theorem dX3_init_19 : decode cX3_init 19 = .ok (.putfield 15, 3) := by decide +kernel
theorem dX3_init_22 : decode cX3_init 22 = .ok (.aload_n 0, 1) := by decide +kernel
theorem dX3_init_23 : decode cX3_init 23 = .ok (.sipush 200, 3) := by decide +kernel
theorem dX3_init_26 : decode cX3_init 26 = .ok (.newarray .int, 2) := by decide +kernel
theorem dX3_init_28 : decode cX3_init 28 = .ok (.putfield 18, 3) := by decide +kernel
theorem dX3_init_31 : decode cX3_init 31 = .ok (.aload_n 0, 1) := by decide +kernel
theorem dX3_init_32 : decode cX3_init 32 = .ok (.sipush 200, 3) := by decide +kernel
theorem dX3_init_35 : decode cX3_init 35 = .ok (.newarray .int, 2) := by decide +kernel
theorem dX3_init_37 : decode cX3_init 37 = .ok (.putfield 21, 3) := by decide +kernel
theorem dX3_init_40 : decode cX3_init 40 = .ok (.aload_n 0, 1) := by decide +kernel
theorem dX3_init_41 : decode cX3_init 41 = .ok (.sipush 200, 3) := by decide +kernel
theorem dX3_init_44 : decode cX3_init 44 = .ok (.newarray .int, 2) := by decide +kernel
theorem dX3_init_46 : decode cX3_init 46 = .ok (.putfield 24, 3) := by decide +kernel
theorem dX3_init_49 : decode cX3_init 49 = .ok (.aload_n 0, 1) := by decide +kernel
theorem dX3_init_50 : decode cX3_init 50 = .ok (.sipush 200, 3) := by decide +kernel
theorem dX3_init_53 : decode cX3_init 53 = .ok (.newarray .int, 2) := by decide +kernel
theorem dX3_init_55 : decode cX3_init 55 = .ok (.putfield 27, 3) := by decide +kernel
theorem dX3_init_58 : decode cX3_init 58 = .ok (.aload_n 0, 1) := by decide +kernel
theorem dX3_init_59 : decode cX3_init 59 = .ok (.bipush 50, 2) := by decide +kernel
theorem dX3_init_61 : decode cX3_init 61 = .ok (.newarray .int, 2) := by decide +kernel
theorem dX3_init_63 : decode cX3_init 63 = .ok (.putfield 30, 3) := by decide +kernel
theorem dX3_init_66 : decode cX3_init 66 = .ok (.aload_n 0, 1) := by decide +kernel
theorem dX3_init_67 : decode cX3_init 67 = .ok (.bipush 100, 2) := by decide +kernel
theorem dX3_init_69 : decode cX3_init 69 = .ok (.newarray .int, 2) := by decide +kernel
theorem dX3_init_71 : decode cX3_init 71 = .ok (.putfield 33, 3) := by decide +kernel
theorem dX3_init_74 : decode cX3_init 74 = .ok (.aload_n 0, 1) := by decide +kernel
theorem dX3_init_75 : decode cX3_init 75 = .ok (.bipush 100, 2) := by decide +kernel
theorem dX3_init_77 : decode cX3_init 77 = .ok (.newarray .int, 2) := by decide +kernel
theorem dX3_init_79 : decode cX3_init 79 = .ok (.putfield 36, 3) := by decide +kernel
theorem dX3_init_82 : decode cX3_init 82 = .ok (.aload_n 0, 1) := by decide +kernel
theorem dX3_init_83 : decode cX3_init 83 = .ok (.bipush 50, 2) := by decide +kernel
theorem dX3_init_85 : decode cX3_init 85 = .ok (.newarray .int, 2) := by decide +kernel
theorem dX3_init_87 : decode cX3_init 87 = .ok (.putfield 39, 3) := by decide +kernel
theorem dX3_init_90 : decode cX3_init 90 = .ok (.aload_n 0, 1) := by decide +kernel
theorem dX3_init_91 : decode cX3_init 91 = .ok (.bipush 100, 2) := by decide +kernel
theorem dX3_init_93 : decode cX3_init 93 = .ok (.newarray .int, 2) := by decide +kernel
theorem dX3_init_95 : decode cX3_init 95 = .ok (.putfield 42, 3) := by decide +kernel
theorem dX3_init_98 : decode cX3_init 98 = .ok (.aload_n 0, 1) := by decide +kernel
theorem dX3_init_99 : decode cX3_init 99 = .ok (.iconst 3, 1) := by decide +kernel
theorem dX3_init_100 : decode cX3_init 100 = .ok (.sipush 200, 3) := by decide +kernel
theorem dX3_init_103 : decode cX3_init 103 = .ok (.multianewarray 45 2, 4) := by decide +kernel
theorem dX3_init_107 : decode cX3_init 107 = .ok (.putfield 47, 3) := by decide +kernel
theorem dX3_init_110 : decode cX3_init 110 = .ok (.aload_n 0, 1) := by decide +kernel
theorem dX3_init_111 : decode cX3_init 111 = .ok (.sipush 200, 3) := by decide +kernel
theorem dX3_init_114 : decode cX3_init 114 = .ok (.newarray .int, 2) := by decide +kernel
theorem dX3_init_116 : decode cX3_init 116 = .ok (.putfield 50, 3) := by decide +kernel
theorem dX3_init_119 : decode cX3_init 119 = .ok (.aload_n 0, 1) := by decide +kernel
theorem dX3_init_120 : decode cX3_init 120 = .ok (.sipush 200, 3) := by decide +kernel
theorem dX3_init_123 : decode cX3_init 123 = .ok (.newarray .int, 2) := by decide +kernel
theorem dX3_init_125 : decode cX3_init 125 = .ok (.putfield 53, 3) := by decide +kernel
theorem dX3_init_128 : decode cX3_init 128 = .ok (.aload_n 0, 1) := by decide +kernel
theorem dX3_init_129 : decode cX3_init 129 = .ok (.sipush 200, 3) := by decide +kernel
theorem dX3_init_132 : decode cX3_init 132 = .ok (.newarray .int, 2) := by decide +kernel
theorem dX3_init_134 : decode cX3_init 134 = .ok (.putfield 56, 3) := by decide +kernel
theorem dX3_init_137 : decode cX3_init 137 = .ok (.return_, 1) := by decide +kernel
theorem dX3_add_0 : decode cX3_add 0 = .ok (.aload_n 0, 1) := by decide +kernel
theorem dX3_add_1 : decode cX3_add 1 = .ok (.getfield 59, 3) := by decide +kernel
theorem dX3_add_4 : decode cX3_add 4 = .ok (.sipush 200, 3) := by decide +kernel
theorem dX3_add_7 : decode cX3_add 7 = .ok (.if_icmp .lt 5, 3) := by decide +kernel
theorem dX3_add_10 : decode cX3_add 10 = .ok (.iconst (-1), 1) := by decide +kernel
theorem dX3_add_11 : decode cX3_add 11 = .ok (.ireturn, 1) := by decide +kernel
theorem dX3_add_12 : decode cX3_add 12 = .ok (.aload_n 0, 1) := by decide +kernel
theorem dX3_add_13 : decode cX3_add 13 = .ok (.getfield 9, 3) := by decide +kernel
theorem dX3_add_16 : decode cX3_add 16 = .ok (.aload_n 0, 1) := by decide +kernel
theorem dX3_add_17 : decode cX3_add 17 = .ok (.getfield 59, 3) := by decide +kernel
theorem dX3_add_20 : decode cX3_add 20 = .ok (.iload_n 1, 1) := by decide +kernel
theorem dX3_add_21 : decode cX3_add 21 = .ok (.iastore, 1) := by decide +kernel
theorem dX3_add_22 : decode cX3_add 22 = .ok (.aload_n 0, 1) := by decide +kernel
theorem dX3_add_23 : decode cX3_add 23 = .ok (.getfield 15, 3) := by decide +kernel
theorem dX3_add_26 : decode cX3_add 26 = .ok (.aload_n 0, 1) := by decide +kernel
theorem dX3_add_27 : decode cX3_add 27 = .ok (.getfield 59, 3) := by decide +kernel
theorem dX3_add_30 : decode cX3_add 30 = .ok (.iload_n 2, 1) := by decide +kernel
theorem dX3_add_31 : decode cX3_add 31 = .ok (.iastore, 1) := by decide +kernel
theorem dX3_add_32 : decode cX3_add 32 = .ok (.aload_n 0, 1) := by decide +kernel
theorem dX3_add_33 : decode cX3_add 33 = .ok (.getfield 18, 3) := by decide +kernel
theorem dX3_add_36 : decode cX3_add 36 = .ok (.aload_n 0, 1) := by decide +kernel
theorem dX3_add_37 : decode cX3_add 37 = .ok (.getfield 59, 3) := by decide +kernel
theorem dX3_add_40 : decode cX3_add 40 = .ok (.iload_n 3, 1) := by decide +kernel
theorem dX3_add_41 : decode cX3_add 41 = .ok (.iastore, 1) := by decide +kernel
theorem dX3_add_42 : decode cX3_add 42 = .ok (.aload_n 0, 1) := by decide +kernel
theorem dX3_add_43 : decode cX3_add 43 = .ok (.dup, 1) := by decide +kernel
theorem dX3_add_44 : decode cX3_add 44 = .ok (.getfield 59, 3) := by decide +kernel
theorem dX3_add_47 : decode cX3_add 47 = .ok (.iconst 1, 1) := by decide +kernel
theorem dX3_add_48 : decode cX3_add 48 = .ok (.iadd, 1) := by decide +kernel
theorem dX3_add_49 : decode cX3_add 49 = .ok (.putfield 59, 3) := by decide +kernel
theorem dX3_add_52 : decode cX3_add 52 = .ok (.aload_n 0, 1) := by decide +kernel
theorem dX3_add_53 : decode cX3_add 53 = .ok (.getfield 59, 3) := by decide +kernel
theorem dX3_add_56 : decode cX3_add 56 = .ok (.iconst 1, 1) := by decide +kernel
theorem dX3_add_57 : decode cX3_add 57 = .ok (.isub, 1) := by decide +kernel
theorem dX3_add_58 : decode cX3_add 58 = .ok (.ireturn, 1) := by decide +kernel
theorem dX3_addCopies_0 : decode cX3_addCopies 0 = .ok (.iload_n 2, 1) := by decide +kernel
theorem dX3_addCopies_1 : decode cX3_addCopies 1 = .ok (.iconst 0, 1) := by decide +kernel
theorem dX3_addCopies_2 : decode cX3_addCopies 2 = .ok (.invokestatic 63, 3) := by decide +kernel
theorem dX3_addCopies_5 : decode cX3_addCopies 5 = .ok (.istore 5, 2) := by decide +kernel
theorem dX3_addCopies_7 : decode cX3_addCopies 7 = .ok (.iload 5, 2) := by decide +kernel
theorem dX3_addCopies_9 : decode cX3_addCopies 9 = .ok (.iload_n 3, 1) := by decide +kernel
theorem dX3_addCopies_10 : decode cX3_addCopies 10 = .ok (.if_icmp .ge 100, 3) := by decide +kernel
theorem dX3_addCopies_13 : decode cX3_addCopies 13 = .ok (.iload 5, 2) := by decide +kernel
theorem dX3_addCopies_15 : decode cX3_addCopies 15 = .ok (.aload_n 1, 1) := by decide +kernel
theorem dX3_addCopies_16 : decode cX3_addCopies 16 = .ok (.getfield 59, 3) := by decide +kernel
theorem dX3_addCopies_19 : decode cX3_addCopies 19 = .ok (.if_icmp .ge 91, 3) := by decide +kernel
theorem dX3_addCopies_22 : decode cX3_addCopies 22 = .ok (.aload_n 1, 1) := by decide +kernel
theorem dX3_addCopies_23 : decode cX3_addCopies 23 = .ok (.getfield 9, 3) := by decide +kernel
theorem dX3_addCopies_26 : decode cX3_addCopies 26 = .ok (.iload 5, 2) := by decide +kernel
theorem dX3_addCopies_28 : decode cX3_addCopies 28 = .ok (.iaload, 1) := by decide +kernel
theorem dX3_addCopies_29 : decode cX3_addCopies 29 = .ok (.ifCond .eq 12, 3) := by decide +kernel
theorem dX3_addCopies_32 : decode cX3_addCopies 32 = .ok (.aload_n 1, 1) := by decide +kernel
theorem dX3_addCopies_33 : decode cX3_addCopies 33 = .ok (.iload 5, 2) := by decide +kernel
theorem dX3_addCopies_35 : decode cX3_addCopies 35 = .ok (.invokevirtual 69, 3) := by decide +kernel
theorem dX3_addCopies_38 : decode cX3_addCopies 38 = .ok (.ifCond .le 7, 3) := by decide +kernel
theorem dX3_addCopies_41 : decode cX3_addCopies 41 = .ok (.iconst 1, 1) := by decide +kernel
theorem dX3_addCopies_42 : decode cX3_addCopies 42 = .ok (.goto 4, 3) := by decide +kernel
theorem dX3_addCopies_45 : decode cX3_addCopies 45 = .ok (.iconst 0, 1) := by decide +kernel
theorem dX3_addCopies_46 : decode cX3_addCopies 46 = .ok (.istore 6, 2) := by decide +kernel
theorem dX3_addCopies_48 : decode cX3_addCopies 48 = .ok (.aload_n 1, 1) := by decide +kernel
theorem dX3_addCopies_49 : decode cX3_addCopies 49 = .ok (.getfield 9, 3) := by decide +kernel
theorem dX3_addCopies_52 : decode cX3_addCopies 52 = .ok (.iload 5, 2) := by decide +kernel
theorem dX3_addCopies_54 : decode cX3_addCopies 54 = .ok (.iaload, 1) := by decide +kernel
theorem dX3_addCopies_55 : decode cX3_addCopies 55 = .ok (.iconst 3, 1) := by decide +kernel
theorem dX3_addCopies_56 : decode cX3_addCopies 56 = .ok (.if_icmp .ne 7, 3) := by decide +kernel
theorem dX3_addCopies_59 : decode cX3_addCopies 59 = .ok (.iconst 1, 1) := by decide +kernel
theorem dX3_addCopies_60 : decode cX3_addCopies 60 = .ok (.goto 4, 3) := by decide +kernel
theorem dX3_addCopies_63 : decode cX3_addCopies 63 = .ok (.iconst 0, 1) := by decide +kernel
theorem dX3_addCopies_64 : decode cX3_addCopies 64 = .ok (.istore 7, 2) := by decide +kernel
theorem dX3_addCopies_66 : decode cX3_addCopies 66 = .ok (.aload_n 0, 1) := by decide +kernel
theorem dX3_addCopies_67 : decode cX3_addCopies 67 = .ok (.aload_n 1, 1) := by decide +kernel
theorem dX3_addCopies_68 : decode cX3_addCopies 68 = .ok (.getfield 9, 3) := by decide +kernel
theorem dX3_addCopies_71 : decode cX3_addCopies 71 = .ok (.iload 5, 2) := by decide +kernel
theorem dX3_addCopies_73 : decode cX3_addCopies 73 = .ok (.iaload, 1) := by decide +kernel
theorem dX3_addCopies_74 : decode cX3_addCopies 74 = .ok (.aload_n 1, 1) := by decide +kernel
theorem dX3_addCopies_75 : decode cX3_addCopies 75 = .ok (.getfield 15, 3) := by decide +kernel
theorem dX3_addCopies_78 : decode cX3_addCopies 78 = .ok (.iload 5, 2) := by decide +kernel
theorem dX3_addCopies_80 : decode cX3_addCopies 80 = .ok (.iaload, 1) := by decide +kernel
theorem dX3_addCopies_81 : decode cX3_addCopies 81 = .ok (.iload 6, 2) := by decide +kernel
theorem dX3_addCopies_83 : decode cX3_addCopies 83 = .ok (.iload 4, 2) := by decide +kernel
theorem dX3_addCopies_85 : decode cX3_addCopies 85 = .ok (.imul, 1) := by decide +kernel
theorem dX3_addCopies_86 : decode cX3_addCopies 86 = .ok (.iadd, 1) := by decide +kernel
theorem dX3_addCopies_87 : decode cX3_addCopies 87 = .ok (.aload_n 1, 1) := by decide +kernel
theorem dX3_addCopies_88 : decode cX3_addCopies 88 = .ok (.getfield 18, 3) := by decide +kernel
theorem dX3_addCopies_91 : decode cX3_addCopies 91 = .ok (.iload 5, 2) := by decide +kernel
theorem dX3_addCopies_93 : decode cX3_addCopies 93 = .ok (.iaload, 1) := by decide +kernel
theorem dX3_addCopies_94 : decode cX3_addCopies 94 = .ok (.iload 7, 2) := by decide +kernel
theorem dX3_addCopies_96 : decode cX3_addCopies 96 = .ok (.iload 4, 2) := by decide +kernel
theorem dX3_addCopies_98 : decode cX3_addCopies 98 = .ok (.imul, 1) := by decide +kernel
theorem dX3_addCopies_99 : decode cX3_addCopies 99 = .ok (.iadd, 1) := by decide +kernel
theorem dX3_addCopies_100 : decode cX3_addCopies 100 = .ok (.invokevirtual 73, 3) := by decide +kernel
theorem dX3_addCopies_103 : decode cX3_addCopies 103 = .ok (.pop, 1) := by decide +kernel
theorem dX3_addCopies_104 : decode cX3_addCopies 104 = .ok (.iinc 5 1, 3) := by decide +kernel
theorem dX3_addCopies_107 : decode cX3_addCopies 107 = .ok (.goto (-100), 3) := by decide +kernel
theorem dX3_addCopies_110 : decode cX3_addCopies 110 = .ok (.return_, 1) := by decide +kernel
theorem dX3_settle_0 : decode cX3_settle 0 = .ok (.aload_n 0, 1) := by decide +kernel
theorem dX3_settle_1 : decode cX3_settle 1 = .ok (.iconst 0, 1) := by decide +kernel
theorem dX3_settle_2 : decode cX3_settle 2 = .ok (.putfield 77, 3) := by decide +kernel
theorem dX3_settle_5 : decode cX3_settle 5 = .ok (.aload_n 0, 1) := by decide +kernel
theorem dX3_settle_6 : decode cX3_settle 6 = .ok (.iconst 0, 1) := by decide +kernel
theorem dX3_settle_7 : decode cX3_settle 7 = .ok (.putfield 80, 3) := by decide +kernel
theorem dX3_settle_10 : decode cX3_settle 10 = .ok (.iconst (-1), 1) := by decide +kernel
theorem dX3_settle_11 : decode cX3_settle 11 = .ok (.istore_n 1, 1) := by decide +kernel
theorem dX3_settle_12 : decode cX3_settle 12 = .ok (.iconst 0, 1) := by decide +kernel
theorem dX3_settle_13 : decode cX3_settle 13 = .ok (.istore_n 2, 1) := by decide +kernel
theorem dX3_settle_14 : decode cX3_settle 14 = .ok (.iload_n 2, 1) := by decide +kernel
theorem dX3_settle_15 : decode cX3_settle 15 = .ok (.aload_n 0, 1) := by decide +kernel
theorem dX3_settle_16 : decode cX3_settle 16 = .ok (.getfield 59, 3) := by decide +kernel
theorem dX3_settle_19 : decode cX3_settle 19 = .ok (.if_icmp .ge 58, 3) := by decide +kernel
theorem dX3_settle_22 : decode cX3_settle 22 = .ok (.aload_n 0, 1) := by decide +kernel
theorem dX3_settle_23 : decode cX3_settle 23 = .ok (.iload_n 2, 1) := by decide +kernel
theorem dX3_settle_24 : decode cX3_settle 24 = .ok (.invokevirtual 83, 3) := by decide +kernel
theorem dX3_settle_27 : decode cX3_settle 27 = .ok (.aload_n 0, 1) := by decide +kernel
theorem dX3_settle_28 : decode cX3_settle 28 = .ok (.iload_n 2, 1) := by decide +kernel
theorem dX3_settle_29 : decode cX3_settle 29 = .ok (.iload_n 1, 1) := by decide +kernel
theorem dX3_settle_30 : decode cX3_settle 30 = .ok (.invokevirtual 87, 3) := by decide +kernel
theorem dX3_settle_33 : decode cX3_settle 33 = .ok (.aload_n 0, 1) := by decide +kernel
theorem dX3_settle_34 : decode cX3_settle 34 = .ok (.getfield 24, 3) := by decide +kernel
theorem dX3_settle_37 : decode cX3_settle 37 = .ok (.iload_n 2, 1) := by decide +kernel
theorem dX3_settle_38 : decode cX3_settle 38 = .ok (.iconst (-1), 1) := by decide +kernel
theorem dX3_settle_39 : decode cX3_settle 39 = .ok (.iastore, 1) := by decide +kernel
theorem dX3_settle_40 : decode cX3_settle 40 = .ok (.aload_n 0, 1) := by decide +kernel
theorem dX3_settle_41 : decode cX3_settle 41 = .ok (.getfield 9, 3) := by decide +kernel
theorem dX3_settle_44 : decode cX3_settle 44 = .ok (.iload_n 2, 1) := by decide +kernel
theorem dX3_settle_45 : decode cX3_settle 45 = .ok (.iaload, 1) := by decide +kernel
theorem dX3_settle_46 : decode cX3_settle 46 = .ok (.iconst 2, 1) := by decide +kernel
theorem dX3_settle_47 : decode cX3_settle 47 = .ok (.if_icmp .eq 13, 3) := by decide +kernel
theorem dX3_settle_50 : decode cX3_settle 50 = .ok (.aload_n 0, 1) := by decide +kernel
theorem dX3_settle_51 : decode cX3_settle 51 = .ok (.getfield 9, 3) := by decide +kernel
theorem dX3_settle_54 : decode cX3_settle 54 = .ok (.iload_n 2, 1) := by decide +kernel
theorem dX3_settle_55 : decode cX3_settle 55 = .ok (.iaload, 1) := by decide +kernel
theorem dX3_settle_56 : decode cX3_settle 56 = .ok (.iconst 3, 1) := by decide +kernel
theorem dX3_settle_57 : decode cX3_settle 57 = .ok (.if_icmp .ne 8, 3) := by decide +kernel
theorem dX3_settle_60 : decode cX3_settle 60 = .ok (.aload_n 0, 1) := by decide +kernel
theorem dX3_settle_61 : decode cX3_settle 61 = .ok (.iload_n 2, 1) := by decide +kernel
theorem dX3_settle_62 : decode cX3_settle 62 = .ok (.invokevirtual 91, 3) := by decide +kernel
theorem dX3_settle_65 : decode cX3_settle 65 = .ok (.aload_n 0, 1) := by decide +kernel
theorem dX3_settle_66 : decode cX3_settle 66 = .ok (.iload_n 2, 1) := by decide +kernel
theorem dX3_settle_67 : decode cX3_settle 67 = .ok (.invokevirtual 94, 3) := by decide +kernel
theorem dX3_settle_70 : decode cX3_settle 70 = .ok (.istore_n 1, 1) := by decide +kernel
theorem dX3_settle_71 : decode cX3_settle 71 = .ok (.iinc 2 1, 3) := by decide +kernel
theorem dX3_settle_74 : decode cX3_settle 74 = .ok (.goto (-60), 3) := by decide +kernel
theorem dX3_settle_77 : decode cX3_settle 77 = .ok (.iconst 0, 1) := by decide +kernel
theorem dX3_settle_78 : decode cX3_settle 78 = .ok (.istore_n 2, 1) := by decide +kernel
theorem dX3_settle_79 : decode cX3_settle 79 = .ok (.iload_n 2, 1) := by decide +kernel
theorem dX3_settle_80 : decode cX3_settle 80 = .ok (.aload_n 0, 1) := by decide +kernel
theorem dX3_settle_81 : decode cX3_settle 81 = .ok (.getfield 77, 3) := by decide +kernel
theorem dX3_settle_84 : decode cX3_settle 84 = .ok (.if_icmp .ge 20, 3) := by decide +kernel
theorem dX3_settle_87 : decode cX3_settle 87 = .ok (.aload_n 0, 1) := by decide +kernel
theorem dX3_settle_88 : decode cX3_settle 88 = .ok (.getfield 39, 3) := by decide +kernel
theorem dX3_settle_91 : decode cX3_settle 91 = .ok (.iload_n 2, 1) := by decide +kernel
theorem dX3_settle_92 : decode cX3_settle 92 = .ok (.aload_n 0, 1) := by decide +kernel
theorem dX3_settle_93 : decode cX3_settle 93 = .ok (.iload_n 2, 1) := by decide +kernel
theorem dX3_settle_94 : decode cX3_settle 94 = .ok (.invokevirtual 97, 3) := by decide +kernel
theorem dX3_settle_97 : decode cX3_settle 97 = .ok (.iastore, 1) := by decide +kernel
theorem dX3_settle_98 : decode cX3_settle 98 = .ok (.iinc 2 1, 3) := by decide +kernel
theorem dX3_settle_101 : decode cX3_settle 101 = .ok (.goto (-22), 3) := by decide +kernel
theorem dX3_settle_104 : decode cX3_settle 104 = .ok (.return_, 1) := by decide +kernel
theorem dX3_numberVariables_0 : decode cX3_numberVariables 0 = .ok (.aload_n 0, 1) := by decide +kernel
theorem dX3_numberVariables_1 : decode cX3_numberVariables 1 = .ok (.getfield 9, 3) := by decide +kernel
theorem dX3_numberVariables_4 : decode cX3_numberVariables 4 = .ok (.iload_n 1, 1) := by decide +kernel
theorem dX3_numberVariables_5 : decode cX3_numberVariables 5 = .ok (.iaload, 1) := by decide +kernel
theorem dX3_numberVariables_6 : decode cX3_numberVariables 6 = .ok (.tableswitch 127 0 5 #[38, 127, 107, 70, 127, 107], 38) := by decide +kernel
theorem dX3_numberVariables_44 : decode cX3_numberVariables 44 = .ok (.aload_n 0, 1) := by decide +kernel
theorem dX3_numberVariables_45 : decode cX3_numberVariables 45 = .ok (.getfield 15, 3) := by decide +kernel
theorem dX3_numberVariables_48 : decode cX3_numberVariables 48 = .ok (.iload_n 1, 1) := by decide +kernel
theorem dX3_numberVariables_49 : decode cX3_numberVariables 49 = .ok (.aload_n 0, 1) := by decide +kernel
theorem dX3_numberVariables_50 : decode cX3_numberVariables 50 = .ok (.getfield 56, 3) := by decide +kernel
theorem dX3_numberVariables_53 : decode cX3_numberVariables 53 = .ok (.aload_n 0, 1) := by decide +kernel
theorem dX3_numberVariables_54 : decode cX3_numberVariables 54 = .ok (.getfield 15, 3) := by decide +kernel
theorem dX3_numberVariables_57 : decode cX3_numberVariables 57 = .ok (.iload_n 1, 1) := by decide +kernel
theorem dX3_numberVariables_58 : decode cX3_numberVariables 58 = .ok (.iaload, 1) := by decide +kernel
theorem dX3_numberVariables_59 : decode cX3_numberVariables 59 = .ok (.invokestatic 100, 3) := by decide +kernel
theorem dX3_numberVariables_62 : decode cX3_numberVariables 62 = .ok (.iastore, 1) := by decide +kernel
theorem dX3_numberVariables_63 : decode cX3_numberVariables 63 = .ok (.aload_n 0, 1) := by decide +kernel
theorem dX3_numberVariables_64 : decode cX3_numberVariables 64 = .ok (.aload_n 0, 1) := by decide +kernel
theorem dX3_numberVariables_65 : decode cX3_numberVariables 65 = .ok (.getfield 15, 3) := by decide +kernel
theorem dX3_numberVariables_68 : decode cX3_numberVariables 68 = .ok (.iload_n 1, 1) := by decide +kernel
theorem dX3_numberVariables_69 : decode cX3_numberVariables 69 = .ok (.iaload, 1) := by decide +kernel
theorem dX3_numberVariables_70 : decode cX3_numberVariables 70 = .ok (.invokevirtual 104, 3) := by decide +kernel
theorem dX3_numberVariables_73 : decode cX3_numberVariables 73 = .ok (.goto 60, 3) := by decide +kernel
theorem dX3_numberVariables_76 : decode cX3_numberVariables 76 = .ok (.aload_n 0, 1) := by decide +kernel
theorem dX3_numberVariables_77 : decode cX3_numberVariables 77 = .ok (.getfield 18, 3) := by decide +kernel
