theorem dX3_numberVariables_80 : decode cX3_numberVariables 80 = .ok (.iload_n 1, 1) := by decide +kernel
theorem dX3_numberVariables_81 : decode cX3_numberVariables 81 = .ok (.aload_n 0, 1) := by decide +kernel
theorem dX3_numberVariables_82 : decode cX3_numberVariables 82 = .ok (.aload_n 0, 1) := by decide +kernel
theorem dX3_numberVariables_83 : decode cX3_numberVariables 83 = .ok (.getfield 18, 3) := by decide +kernel
theorem dX3_numberVariables_86 : decode cX3_numberVariables 86 = .ok (.iload_n 1, 1) := by decide +kernel
theorem dX3_numberVariables_87 : decode cX3_numberVariables 87 = .ok (.iaload, 1) := by decide +kernel
theorem dX3_numberVariables_88 : decode cX3_numberVariables 88 = .ok (.iload_n 1, 1) := by decide +kernel
theorem dX3_numberVariables_89 : decode cX3_numberVariables 89 = .ok (.invokevirtual 107, 3) := by decide +kernel
theorem dX3_numberVariables_92 : decode cX3_numberVariables 92 = .ok (.iastore, 1) := by decide +kernel
theorem dX3_numberVariables_93 : decode cX3_numberVariables 93 = .ok (.aload_n 0, 1) := by decide +kernel
theorem dX3_numberVariables_94 : decode cX3_numberVariables 94 = .ok (.getfield 15, 3) := by decide +kernel
theorem dX3_numberVariables_97 : decode cX3_numberVariables 97 = .ok (.iload_n 1, 1) := by decide +kernel
theorem dX3_numberVariables_98 : decode cX3_numberVariables 98 = .ok (.aload_n 0, 1) := by decide +kernel
theorem dX3_numberVariables_99 : decode cX3_numberVariables 99 = .ok (.aload_n 0, 1) := by decide +kernel
theorem dX3_numberVariables_100 : decode cX3_numberVariables 100 = .ok (.getfield 15, 3) := by decide +kernel
theorem dX3_numberVariables_103 : decode cX3_numberVariables 103 = .ok (.iload_n 1, 1) := by decide +kernel
theorem dX3_numberVariables_104 : decode cX3_numberVariables 104 = .ok (.iaload, 1) := by decide +kernel
theorem dX3_numberVariables_105 : decode cX3_numberVariables 105 = .ok (.iload_n 1, 1) := by decide +kernel
theorem dX3_numberVariables_106 : decode cX3_numberVariables 106 = .ok (.invokevirtual 107, 3) := by decide +kernel
theorem dX3_numberVariables_109 : decode cX3_numberVariables 109 = .ok (.iastore, 1) := by decide +kernel
theorem dX3_numberVariables_110 : decode cX3_numberVariables 110 = .ok (.goto 23, 3) := by decide +kernel
theorem dX3_numberVariables_113 : decode cX3_numberVariables 113 = .ok (.aload_n 0, 1) := by decide +kernel
theorem dX3_numberVariables_114 : decode cX3_numberVariables 114 = .ok (.getfield 15, 3) := by decide +kernel
theorem dX3_numberVariables_117 : decode cX3_numberVariables 117 = .ok (.iload_n 1, 1) := by decide +kernel
theorem dX3_numberVariables_118 : decode cX3_numberVariables 118 = .ok (.aload_n 0, 1) := by decide +kernel
theorem dX3_numberVariables_119 : decode cX3_numberVariables 119 = .ok (.aload_n 0, 1) := by decide +kernel
theorem dX3_numberVariables_120 : decode cX3_numberVariables 120 = .ok (.getfield 15, 3) := by decide +kernel
theorem dX3_numberVariables_123 : decode cX3_numberVariables 123 = .ok (.iload_n 1, 1) := by decide +kernel
theorem dX3_numberVariables_124 : decode cX3_numberVariables 124 = .ok (.iaload, 1) := by decide +kernel
theorem dX3_numberVariables_125 : decode cX3_numberVariables 125 = .ok (.iload_n 1, 1) := by decide +kernel
theorem dX3_numberVariables_126 : decode cX3_numberVariables 126 = .ok (.invokevirtual 107, 3) := by decide +kernel
theorem dX3_numberVariables_129 : decode cX3_numberVariables 129 = .ok (.iastore, 1) := by decide +kernel
theorem dX3_numberVariables_130 : decode cX3_numberVariables 130 = .ok (.goto 3, 3) := by decide +kernel
theorem dX3_numberVariables_133 : decode cX3_numberVariables 133 = .ok (.return_, 1) := by decide +kernel
theorem dX3_newVariable_0 : decode cX3_newVariable 0 = .ok (.aload_n 0, 1) := by decide +kernel
theorem dX3_newVariable_1 : decode cX3_newVariable 1 = .ok (.getfield 80, 3) := by decide +kernel
theorem dX3_newVariable_4 : decode cX3_newVariable 4 = .ok (.bipush 100, 2) := by decide +kernel
theorem dX3_newVariable_6 : decode cX3_newVariable 6 = .ok (.if_icmp .ge 16, 3) := by decide +kernel
theorem dX3_newVariable_9 : decode cX3_newVariable 9 = .ok (.iload_n 1, 1) := by decide +kernel
theorem dX3_newVariable_10 : decode cX3_newVariable 10 = .ok (.ifCond .lt 12, 3) := by decide +kernel
theorem dX3_newVariable_13 : decode cX3_newVariable 13 = .ok (.iload_n 1, 1) := by decide +kernel
theorem dX3_newVariable_14 : decode cX3_newVariable 14 = .ok (.aload_n 0, 1) := by decide +kernel
theorem dX3_newVariable_15 : decode cX3_newVariable 15 = .ok (.getfield 56, 3) := by decide +kernel
theorem dX3_newVariable_18 : decode cX3_newVariable 18 = .ok (.arraylength, 1) := by decide +kernel
theorem dX3_newVariable_19 : decode cX3_newVariable 19 = .ok (.if_icmp .lt 5, 3) := by decide +kernel
theorem dX3_newVariable_22 : decode cX3_newVariable 22 = .ok (.iconst (-1), 1) := by decide +kernel
theorem dX3_newVariable_23 : decode cX3_newVariable 23 = .ok (.ireturn, 1) := by decide +kernel
theorem dX3_newVariable_24 : decode cX3_newVariable 24 = .ok (.aload_n 0, 1) := by decide +kernel
theorem dX3_newVariable_25 : decode cX3_newVariable 25 = .ok (.getfield 56, 3) := by decide +kernel
theorem dX3_newVariable_28 : decode cX3_newVariable 28 = .ok (.iload_n 1, 1) := by decide +kernel
theorem dX3_newVariable_29 : decode cX3_newVariable 29 = .ok (.aload_n 0, 1) := by decide +kernel
theorem dX3_newVariable_30 : decode cX3_newVariable 30 = .ok (.getfield 80, 3) := by decide +kernel
theorem dX3_newVariable_33 : decode cX3_newVariable 33 = .ok (.iastore, 1) := by decide +kernel
theorem dX3_newVariable_34 : decode cX3_newVariable 34 = .ok (.aload_n 0, 1) := by decide +kernel
theorem dX3_newVariable_35 : decode cX3_newVariable 35 = .ok (.getfield 33, 3) := by decide +kernel
theorem dX3_newVariable_38 : decode cX3_newVariable 38 = .ok (.aload_n 0, 1) := by decide +kernel
theorem dX3_newVariable_39 : decode cX3_newVariable 39 = .ok (.getfield 80, 3) := by decide +kernel
theorem dX3_newVariable_42 : decode cX3_newVariable 42 = .ok (.iload_n 2, 1) := by decide +kernel
theorem dX3_newVariable_43 : decode cX3_newVariable 43 = .ok (.iastore, 1) := by decide +kernel
theorem dX3_newVariable_44 : decode cX3_newVariable 44 = .ok (.aload_n 0, 1) := by decide +kernel
theorem dX3_newVariable_45 : decode cX3_newVariable 45 = .ok (.getfield 36, 3) := by decide +kernel
theorem dX3_newVariable_48 : decode cX3_newVariable 48 = .ok (.aload_n 0, 1) := by decide +kernel
theorem dX3_newVariable_49 : decode cX3_newVariable 49 = .ok (.getfield 80, 3) := by decide +kernel
theorem dX3_newVariable_52 : decode cX3_newVariable 52 = .ok (.iconst 0, 1) := by decide +kernel
theorem dX3_newVariable_53 : decode cX3_newVariable 53 = .ok (.iastore, 1) := by decide +kernel
theorem dX3_newVariable_54 : decode cX3_newVariable 54 = .ok (.aload_n 0, 1) := by decide +kernel
theorem dX3_newVariable_55 : decode cX3_newVariable 55 = .ok (.getfield 42, 3) := by decide +kernel
theorem dX3_newVariable_58 : decode cX3_newVariable 58 = .ok (.aload_n 0, 1) := by decide +kernel
theorem dX3_newVariable_59 : decode cX3_newVariable 59 = .ok (.getfield 80, 3) := by decide +kernel
theorem dX3_newVariable_62 : decode cX3_newVariable 62 = .ok (.iconst (-1), 1) := by decide +kernel
theorem dX3_newVariable_63 : decode cX3_newVariable 63 = .ok (.iastore, 1) := by decide +kernel
theorem dX3_newVariable_64 : decode cX3_newVariable 64 = .ok (.aload_n 0, 1) := by decide +kernel
theorem dX3_newVariable_65 : decode cX3_newVariable 65 = .ok (.dup, 1) := by decide +kernel
theorem dX3_newVariable_66 : decode cX3_newVariable 66 = .ok (.getfield 80, 3) := by decide +kernel
theorem dX3_newVariable_69 : decode cX3_newVariable 69 = .ok (.iconst 1, 1) := by decide +kernel
theorem dX3_newVariable_70 : decode cX3_newVariable 70 = .ok (.iadd, 1) := by decide +kernel
theorem dX3_newVariable_71 : decode cX3_newVariable 71 = .ok (.putfield 80, 3) := by decide +kernel
theorem dX3_newVariable_74 : decode cX3_newVariable 74 = .ok (.aload_n 0, 1) := by decide +kernel
theorem dX3_newVariable_75 : decode cX3_newVariable 75 = .ok (.getfield 80, 3) := by decide +kernel
theorem dX3_newVariable_78 : decode cX3_newVariable 78 = .ok (.iconst 1, 1) := by decide +kernel
theorem dX3_newVariable_79 : decode cX3_newVariable 79 = .ok (.isub, 1) := by decide +kernel
theorem dX3_newVariable_80 : decode cX3_newVariable 80 = .ok (.ireturn, 1) := by decide +kernel
theorem dX3_countMeeting_0 : decode cX3_countMeeting 0 = .ok (.iload_n 1, 1) := by decide +kernel
theorem dX3_countMeeting_1 : decode cX3_countMeeting 1 = .ok (.ifCond .lt 19, 3) := by decide +kernel
theorem dX3_countMeeting_4 : decode cX3_countMeeting 4 = .ok (.iload_n 1, 1) := by decide +kernel
theorem dX3_countMeeting_5 : decode cX3_countMeeting 5 = .ok (.bipush 100, 2) := by decide +kernel
theorem dX3_countMeeting_7 : decode cX3_countMeeting 7 = .ok (.if_icmp .ge 13, 3) := by decide +kernel
theorem dX3_countMeeting_10 : decode cX3_countMeeting 10 = .ok (.aload_n 0, 1) := by decide +kernel
theorem dX3_countMeeting_11 : decode cX3_countMeeting 11 = .ok (.getfield 36, 3) := by decide +kernel
theorem dX3_countMeeting_14 : decode cX3_countMeeting 14 = .ok (.iload_n 1, 1) := by decide +kernel
theorem dX3_countMeeting_15 : decode cX3_countMeeting 15 = .ok (.dup2, 1) := by decide +kernel
theorem dX3_countMeeting_16 : decode cX3_countMeeting 16 = .ok (.iaload, 1) := by decide +kernel
theorem dX3_countMeeting_17 : decode cX3_countMeeting 17 = .ok (.iconst 1, 1) := by decide +kernel
theorem dX3_countMeeting_18 : decode cX3_countMeeting 18 = .ok (.iadd, 1) := by decide +kernel
theorem dX3_countMeeting_19 : decode cX3_countMeeting 19 = .ok (.iastore, 1) := by decide +kernel
theorem dX3_countMeeting_20 : decode cX3_countMeeting 20 = .ok (.return_, 1) := by decide +kernel
theorem dX3_countFree_0 : decode cX3_countFree 0 = .ok (.aload_n 0, 1) := by decide +kernel
theorem dX3_countFree_1 : decode cX3_countFree 1 = .ok (.getfield 30, 3) := by decide +kernel
theorem dX3_countFree_4 : decode cX3_countFree 4 = .ok (.iload_n 1, 1) := by decide +kernel
theorem dX3_countFree_5 : decode cX3_countFree 5 = .ok (.invokestatic 100, 3) := by decide +kernel
theorem dX3_countFree_8 : decode cX3_countFree 8 = .ok (.istore_n 2, 1) := by decide +kernel
theorem dX3_countFree_9 : decode cX3_countFree 9 = .ok (.iconst 0, 1) := by decide +kernel
theorem dX3_countFree_10 : decode cX3_countFree 10 = .ok (.istore_n 3, 1) := by decide +kernel
theorem dX3_countFree_11 : decode cX3_countFree 11 = .ok (.iload_n 2, 1) := by decide +kernel
theorem dX3_countFree_12 : decode cX3_countFree 12 = .ok (.iconst 0, 1) := by decide +kernel
theorem dX3_countFree_13 : decode cX3_countFree 13 = .ok (.invokestatic 63, 3) := by decide +kernel
theorem dX3_countFree_16 : decode cX3_countFree 16 = .ok (.istore 4, 2) := by decide +kernel
theorem dX3_countFree_18 : decode cX3_countFree 18 = .ok (.iload 4, 2) := by decide +kernel
theorem dX3_countFree_20 : decode cX3_countFree 20 = .ok (.aload_n 0, 1) := by decide +kernel
theorem dX3_countFree_21 : decode cX3_countFree 21 = .ok (.iload_n 2, 1) := by decide +kernel
theorem dX3_countFree_22 : decode cX3_countFree 22 = .ok (.invokevirtual 110, 3) := by decide +kernel
theorem dX3_countFree_25 : decode cX3_countFree 25 = .ok (.if_icmp .ge 100, 3) := by decide +kernel
theorem dX3_countFree_28 : decode cX3_countFree 28 = .ok (.iload 4, 2) := by decide +kernel
theorem dX3_countFree_30 : decode cX3_countFree 30 = .ok (.aload_n 0, 1) := by decide +kernel
theorem dX3_countFree_31 : decode cX3_countFree 31 = .ok (.getfield 59, 3) := by decide +kernel
theorem dX3_countFree_34 : decode cX3_countFree 34 = .ok (.if_icmp .ge 91, 3) := by decide +kernel
theorem dX3_countFree_37 : decode cX3_countFree 37 = .ok (.aload_n 0, 1) := by decide +kernel
theorem dX3_countFree_38 : decode cX3_countFree 38 = .ok (.getfield 9, 3) := by decide +kernel
theorem dX3_countFree_41 : decode cX3_countFree 41 = .ok (.iload 4, 2) := by decide +kernel
theorem dX3_countFree_43 : decode cX3_countFree 43 = .ok (.iaload, 1) := by decide +kernel
theorem dX3_countFree_44 : decode cX3_countFree 44 = .ok (.ifCond .ne 13, 3) := by decide +kernel
theorem dX3_countFree_47 : decode cX3_countFree 47 = .ok (.aload_n 0, 1) := by decide +kernel
theorem dX3_countFree_48 : decode cX3_countFree 48 = .ok (.getfield 15, 3) := by decide +kernel
theorem dX3_countFree_51 : decode cX3_countFree 51 = .ok (.iload 4, 2) := by decide +kernel
theorem dX3_countFree_53 : decode cX3_countFree 53 = .ok (.iaload, 1) := by decide +kernel
theorem dX3_countFree_54 : decode cX3_countFree 54 = .ok (.goto 4, 3) := by decide +kernel
theorem dX3_countFree_57 : decode cX3_countFree 57 = .ok (.iconst (-1), 1) := by decide +kernel
theorem dX3_countFree_58 : decode cX3_countFree 58 = .ok (.istore 5, 2) := by decide +kernel
theorem dX3_countFree_60 : decode cX3_countFree 60 = .ok (.iload 5, 2) := by decide +kernel
theorem dX3_countFree_62 : decode cX3_countFree 62 = .ok (.ifCond .lt 27, 3) := by decide +kernel
theorem dX3_countFree_65 : decode cX3_countFree 65 = .ok (.iload 5, 2) := by decide +kernel
theorem dX3_countFree_67 : decode cX3_countFree 67 = .ok (.aload_n 0, 1) := by decide +kernel
theorem dX3_countFree_68 : decode cX3_countFree 68 = .ok (.getfield 80, 3) := by decide +kernel
theorem dX3_countFree_71 : decode cX3_countFree 71 = .ok (.if_icmp .ge 18, 3) := by decide +kernel
theorem dX3_countFree_74 : decode cX3_countFree 74 = .ok (.aload_n 0, 1) := by decide +kernel
theorem dX3_countFree_75 : decode cX3_countFree 75 = .ok (.getfield 33, 3) := by decide +kernel
theorem dX3_countFree_78 : decode cX3_countFree 78 = .ok (.iload 5, 2) := by decide +kernel
theorem dX3_countFree_80 : decode cX3_countFree 80 = .ok (.iaload, 1) := by decide +kernel
theorem dX3_countFree_81 : decode cX3_countFree 81 = .ok (.iload_n 2, 1) := by decide +kernel
theorem dX3_countFree_82 : decode cX3_countFree 82 = .ok (.if_icmp .ge 7, 3) := by decide +kernel
theorem dX3_countFree_85 : decode cX3_countFree 85 = .ok (.iconst 1, 1) := by decide +kernel
theorem dX3_countFree_86 : decode cX3_countFree 86 = .ok (.goto 4, 3) := by decide +kernel
theorem dX3_countFree_89 : decode cX3_countFree 89 = .ok (.iconst 0, 1) := by decide +kernel
theorem dX3_countFree_90 : decode cX3_countFree 90 = .ok (.istore 6, 2) := by decide +kernel
theorem dX3_countFree_92 : decode cX3_countFree 92 = .ok (.iload 6, 2) := by decide +kernel
theorem dX3_countFree_94 : decode cX3_countFree 94 = .ok (.ifCond .eq 25, 3) := by decide +kernel
theorem dX3_countFree_97 : decode cX3_countFree 97 = .ok (.aload_n 0, 1) := by decide +kernel
theorem dX3_countFree_98 : decode cX3_countFree 98 = .ok (.getfield 42, 3) := by decide +kernel
theorem dX3_countFree_101 : decode cX3_countFree 101 = .ok (.iload 5, 2) := by decide +kernel
theorem dX3_countFree_103 : decode cX3_countFree 103 = .ok (.iaload, 1) := by decide +kernel
theorem dX3_countFree_104 : decode cX3_countFree 104 = .ok (.iload_n 1, 1) := by decide +kernel
theorem dX3_countFree_105 : decode cX3_countFree 105 = .ok (.if_icmp .eq 14, 3) := by decide +kernel
theorem dX3_countFree_108 : decode cX3_countFree 108 = .ok (.aload_n 0, 1) := by decide +kernel
theorem dX3_countFree_109 : decode cX3_countFree 109 = .ok (.getfield 42, 3) := by decide +kernel
theorem dX3_countFree_112 : decode cX3_countFree 112 = .ok (.iload 5, 2) := by decide +kernel
theorem dX3_countFree_114 : decode cX3_countFree 114 = .ok (.iload_n 1, 1) := by decide +kernel
theorem dX3_countFree_115 : decode cX3_countFree 115 = .ok (.iastore, 1) := by decide +kernel
theorem dX3_countFree_116 : decode cX3_countFree 116 = .ok (.iinc 3 1, 3) := by decide +kernel
theorem dX3_countFree_119 : decode cX3_countFree 119 = .ok (.iinc 4 1, 3) := by decide +kernel
theorem dX3_countFree_122 : decode cX3_countFree 122 = .ok (.goto (-104), 3) := by decide +kernel
theorem dX3_countFree_125 : decode cX3_countFree 125 = .ok (.iload_n 3, 1) := by decide +kernel
theorem dX3_countFree_126 : decode cX3_countFree 126 = .ok (.ireturn, 1) := by decide +kernel
theorem dX3_numberFunction_0 : decode cX3_numberFunction 0 = .ok (.aload_n 0, 1) := by decide +kernel
theorem dX3_numberFunction_1 : decode cX3_numberFunction 1 = .ok (.getfield 77, 3) := by decide +kernel
theorem dX3_numberFunction_4 : decode cX3_numberFunction 4 = .ok (.bipush 50, 2) := by decide +kernel
theorem dX3_numberFunction_6 : decode cX3_numberFunction 6 = .ok (.if_icmp .ge 33, 3) := by decide +kernel
theorem dX3_numberFunction_9 : decode cX3_numberFunction 9 = .ok (.aload_n 0, 1) := by decide +kernel
theorem dX3_numberFunction_10 : decode cX3_numberFunction 10 = .ok (.getfield 24, 3) := by decide +kernel
theorem dX3_numberFunction_13 : decode cX3_numberFunction 13 = .ok (.iload_n 1, 1) := by decide +kernel
theorem dX3_numberFunction_14 : decode cX3_numberFunction 14 = .ok (.aload_n 0, 1) := by decide +kernel
theorem dX3_numberFunction_15 : decode cX3_numberFunction 15 = .ok (.getfield 77, 3) := by decide +kernel
theorem dX3_numberFunction_18 : decode cX3_numberFunction 18 = .ok (.iastore, 1) := by decide +kernel
theorem dX3_numberFunction_19 : decode cX3_numberFunction 19 = .ok (.aload_n 0, 1) := by decide +kernel
theorem dX3_numberFunction_20 : decode cX3_numberFunction 20 = .ok (.getfield 30, 3) := by decide +kernel
theorem dX3_numberFunction_23 : decode cX3_numberFunction 23 = .ok (.aload_n 0, 1) := by decide +kernel
theorem dX3_numberFunction_24 : decode cX3_numberFunction 24 = .ok (.getfield 77, 3) := by decide +kernel
theorem dX3_numberFunction_27 : decode cX3_numberFunction 27 = .ok (.iload_n 1, 1) := by decide +kernel
theorem dX3_numberFunction_28 : decode cX3_numberFunction 28 = .ok (.iastore, 1) := by decide +kernel
theorem dX3_numberFunction_29 : decode cX3_numberFunction 29 = .ok (.aload_n 0, 1) := by decide +kernel
theorem dX3_numberFunction_30 : decode cX3_numberFunction 30 = .ok (.dup, 1) := by decide +kernel
theorem dX3_numberFunction_31 : decode cX3_numberFunction 31 = .ok (.getfield 77, 3) := by decide +kernel
theorem dX3_numberFunction_34 : decode cX3_numberFunction 34 = .ok (.iconst 1, 1) := by decide +kernel
theorem dX3_numberFunction_35 : decode cX3_numberFunction 35 = .ok (.iadd, 1) := by decide +kernel
theorem dX3_numberFunction_36 : decode cX3_numberFunction 36 = .ok (.putfield 77, 3) := by decide +kernel
theorem dX3_numberFunction_39 : decode cX3_numberFunction 39 = .ok (.return_, 1) := by decide +kernel
theorem dX3_join_0 : decode cX3_join 0 = .ok (.aload_n 0, 1) := by decide +kernel
theorem dX3_join_1 : decode cX3_join 1 = .ok (.getfield 21, 3) := by decide +kernel
theorem dX3_join_4 : decode cX3_join 4 = .ok (.iload_n 1, 1) := by decide +kernel
theorem dX3_join_5 : decode cX3_join 5 = .ok (.iload_n 2, 1) := by decide +kernel
theorem dX3_join_6 : decode cX3_join 6 = .ok (.iastore, 1) := by decide +kernel
theorem dX3_join_7 : decode cX3_join 7 = .ok (.aload_n 0, 1) := by decide +kernel
theorem dX3_join_8 : decode cX3_join 8 = .ok (.getfield 27, 3) := by decide +kernel
theorem dX3_join_11 : decode cX3_join 11 = .ok (.iload_n 1, 1) := by decide +kernel
theorem dX3_join_12 : decode cX3_join 12 = .ok (.iconst (-1), 1) := by decide +kernel
theorem dX3_join_13 : decode cX3_join 13 = .ok (.iastore, 1) := by decide +kernel
theorem dX3_join_14 : decode cX3_join 14 = .ok (.aload_n 0, 1) := by decide +kernel
theorem dX3_join_15 : decode cX3_join 15 = .ok (.getfield 50, 3) := by decide +kernel
theorem dX3_join_18 : decode cX3_join 18 = .ok (.iload_n 1, 1) := by decide +kernel
theorem dX3_join_19 : decode cX3_join 19 = .ok (.iconst 0, 1) := by decide +kernel
theorem dX3_join_20 : decode cX3_join 20 = .ok (.iastore, 1) := by decide +kernel
theorem dX3_join_21 : decode cX3_join 21 = .ok (.iconst 0, 1) := by decide +kernel
theorem dX3_join_22 : decode cX3_join 22 = .ok (.istore_n 3, 1) := by decide +kernel
theorem dX3_join_23 : decode cX3_join 23 = .ok (.iload_n 3, 1) := by decide +kernel
theorem dX3_join_24 : decode cX3_join 24 = .ok (.iconst 3, 1) := by decide +kernel
theorem dX3_join_25 : decode cX3_join 25 = .ok (.if_icmp .ge 18, 3) := by decide +kernel
theorem dX3_join_28 : decode cX3_join 28 = .ok (.aload_n 0, 1) := by decide +kernel
theorem dX3_join_29 : decode cX3_join 29 = .ok (.getfield 47, 3) := by decide +kernel
theorem dX3_join_32 : decode cX3_join 32 = .ok (.iload_n 3, 1) := by decide +kernel
theorem dX3_join_33 : decode cX3_join 33 = .ok (.aaload, 1) := by decide +kernel
theorem dX3_join_34 : decode cX3_join 34 = .ok (.iload_n 1, 1) := by decide +kernel
theorem dX3_join_35 : decode cX3_join 35 = .ok (.iconst (-1), 1) := by decide +kernel
theorem dX3_join_36 : decode cX3_join 36 = .ok (.iastore, 1) := by decide +kernel
theorem dX3_join_37 : decode cX3_join 37 = .ok (.iinc 3 1, 3) := by decide +kernel
theorem dX3_join_40 : decode cX3_join 40 = .ok (.goto (-17), 3) := by decide +kernel
theorem dX3_join_43 : decode cX3_join 43 = .ok (.iload_n 2, 1) := by decide +kernel
theorem dX3_join_44 : decode cX3_join 44 = .ok (.iconst (-1), 1) := by decide +kernel
theorem dX3_join_45 : decode cX3_join 45 = .ok (.if_icmp .ne 4, 3) := by decide +kernel
theorem dX3_join_48 : decode cX3_join 48 = .ok (.return_, 1) := by decide +kernel
theorem dX3_join_49 : decode cX3_join 49 = .ok (.aload_n 0, 1) := by decide +kernel
theorem dX3_join_50 : decode cX3_join 50 = .ok (.getfield 27, 3) := by decide +kernel
theorem dX3_join_53 : decode cX3_join 53 = .ok (.iload_n 1, 1) := by decide +kernel
theorem dX3_join_54 : decode cX3_join 54 = .ok (.aload_n 0, 1) := by decide +kernel
theorem dX3_join_55 : decode cX3_join 55 = .ok (.getfield 24, 3) := by decide +kernel
theorem dX3_join_58 : decode cX3_join 58 = .ok (.iload_n 2, 1) := by decide +kernel
theorem dX3_join_59 : decode cX3_join 59 = .ok (.iaload, 1) := by decide +kernel
theorem dX3_join_60 : decode cX3_join 60 = .ok (.iconst (-1), 1) := by decide +kernel
theorem dX3_join_61 : decode cX3_join 61 = .ok (.if_icmp .ne 12, 3) := by decide +kernel
theorem dX3_join_64 : decode cX3_join 64 = .ok (.aload_n 0, 1) := by decide +kernel
theorem dX3_join_65 : decode cX3_join 65 = .ok (.getfield 27, 3) := by decide +kernel
theorem dX3_join_68 : decode cX3_join 68 = .ok (.iload_n 2, 1) := by decide +kernel
theorem dX3_join_69 : decode cX3_join 69 = .ok (.iaload, 1) := by decide +kernel
theorem dX3_join_70 : decode cX3_join 70 = .ok (.goto 9, 3) := by decide +kernel
theorem dX3_join_73 : decode cX3_join 73 = .ok (.aload_n 0, 1) := by decide +kernel
theorem dX3_join_74 : decode cX3_join 74 = .ok (.getfield 24, 3) := by decide +kernel
theorem dX3_join_77 : decode cX3_join 77 = .ok (.iload_n 2, 1) := by decide +kernel
theorem dX3_join_78 : decode cX3_join 78 = .ok (.iaload, 1) := by decide +kernel
theorem dX3_join_79 : decode cX3_join 79 = .ok (.iastore, 1) := by decide +kernel
theorem dX3_join_80 : decode cX3_join 80 = .ok (.aload_n 0, 1) := by decide +kernel
theorem dX3_join_81 : decode cX3_join 81 = .ok (.getfield 50, 3) := by decide +kernel
theorem dX3_join_84 : decode cX3_join 84 = .ok (.iload_n 2, 1) := by decide +kernel
theorem dX3_join_85 : decode cX3_join 85 = .ok (.iaload, 1) := by decide +kernel
theorem dX3_join_86 : decode cX3_join 86 = .ok (.iconst 3, 1) := by decide +kernel
theorem dX3_join_87 : decode cX3_join 87 = .ok (.if_icmp .ge 27, 3) := by decide +kernel
theorem dX3_join_90 : decode cX3_join 90 = .ok (.aload_n 0, 1) := by decide +kernel
theorem dX3_join_91 : decode cX3_join 91 = .ok (.getfield 47, 3) := by decide +kernel
theorem dX3_join_94 : decode cX3_join 94 = .ok (.aload_n 0, 1) := by decide +kernel
theorem dX3_join_95 : decode cX3_join 95 = .ok (.getfield 50, 3) := by decide +kernel
theorem dX3_join_98 : decode cX3_join 98 = .ok (.iload_n 2, 1) := by decide +kernel
theorem dX3_join_99 : decode cX3_join 99 = .ok (.iaload, 1) := by decide +kernel
theorem dX3_join_100 : decode cX3_join 100 = .ok (.aaload, 1) := by decide +kernel
theorem dX3_join_101 : decode cX3_join 101 = .ok (.iload_n 2, 1) := by decide +kernel
theorem dX3_join_102 : decode cX3_join 102 = .ok (.iload_n 1, 1) := by decide +kernel
theorem dX3_join_103 : decode cX3_join 103 = .ok (.iastore, 1) := by decide +kernel
theorem dX3_join_104 : decode cX3_join 104 = .ok (.aload_n 0, 1) := by decide +kernel
theorem dX3_join_105 : decode cX3_join 105 = .ok (.getfield 50, 3) := by decide +kernel
theorem dX3_join_108 : decode cX3_join 108 = .ok (.iload_n 2, 1) := by decide +kernel
theorem dX3_join_109 : decode cX3_join 109 = .ok (.dup2, 1) := by decide +kernel
theorem dX3_join_110 : decode cX3_join 110 = .ok (.iaload, 1) := by decide +kernel
theorem dX3_join_111 : decode cX3_join 111 = .ok (.iconst 1, 1) := by decide +kernel
theorem dX3_join_112 : decode cX3_join 112 = .ok (.iadd, 1) := by decide +kernel
theorem dX3_join_113 : decode cX3_join 113 = .ok (.iastore, 1) := by decide +kernel
theorem dX3_join_114 : decode cX3_join 114 = .ok (.return_, 1) := by decide +kernel
theorem dX3_openBehind_0 : decode cX3_openBehind 0 = .ok (.iload_n 1, 1) := by decide +kernel
theorem dX3_openBehind_1 : decode cX3_openBehind 1 = .ok (.istore_n 2, 1) := by decide +kernel
theorem dX3_openBehind_2 : decode cX3_openBehind 2 = .ok (.iconst 0, 1) := by decide +kernel
theorem dX3_openBehind_3 : decode cX3_openBehind 3 = .ok (.istore_n 3, 1) := by decide +kernel
theorem dX3_openBehind_4 : decode cX3_openBehind 4 = .ok (.iload_n 3, 1) := by decide +kernel
theorem dX3_openBehind_5 : decode cX3_openBehind 5 = .ok (.iload_n 1, 1) := by decide +kernel
theorem dX3_openBehind_6 : decode cX3_openBehind 6 = .ok (.if_icmp .gt 53, 3) := by decide +kernel
theorem dX3_openBehind_9 : decode cX3_openBehind 9 = .ok (.iload_n 2, 1) := by decide +kernel
theorem dX3_openBehind_10 : decode cX3_openBehind 10 = .ok (.iconst (-1), 1) := by decide +kernel
theorem dX3_openBehind_11 : decode cX3_openBehind 11 = .ok (.if_icmp .eq 48, 3) := by decide +kernel
theorem dX3_openBehind_14 : decode cX3_openBehind 14 = .ok (.aload_n 0, 1) := by decide +kernel
theorem dX3_openBehind_15 : decode cX3_openBehind 15 = .ok (.getfield 50, 3) := by decide +kernel
theorem dX3_openBehind_18 : decode cX3_openBehind 18 = .ok (.iload_n 2, 1) := by decide +kernel
theorem dX3_openBehind_19 : decode cX3_openBehind 19 = .ok (.iaload, 1) := by decide +kernel
theorem dX3_openBehind_20 : decode cX3_openBehind 20 = .ok (.getstatic 113, 3) := by decide +kernel
theorem dX3_openBehind_23 : decode cX3_openBehind 23 = .ok (.aload_n 0, 1) := by decide +kernel
theorem dX3_openBehind_24 : decode cX3_openBehind 24 = .ok (.getfield 9, 3) := by decide +kernel
theorem dX3_openBehind_27 : decode cX3_openBehind 27 = .ok (.iload_n 2, 1) := by decide +kernel
theorem dX3_openBehind_28 : decode cX3_openBehind 28 = .ok (.iaload, 1) := by decide +kernel
theorem dX3_openBehind_29 : decode cX3_openBehind 29 = .ok (.invokestatic 100, 3) := by decide +kernel
theorem dX3_openBehind_32 : decode cX3_openBehind 32 = .ok (.if_icmp .ge 5, 3) := by decide +kernel
theorem dX3_openBehind_35 : decode cX3_openBehind 35 = .ok (.iload_n 2, 1) := by decide +kernel
theorem dX3_openBehind_36 : decode cX3_openBehind 36 = .ok (.ireturn, 1) := by decide +kernel
theorem dX3_openBehind_37 : decode cX3_openBehind 37 = .ok (.aload_n 0, 1) := by decide +kernel
theorem dX3_openBehind_38 : decode cX3_openBehind 38 = .ok (.getfield 53, 3) := by decide +kernel
theorem dX3_openBehind_41 : decode cX3_openBehind 41 = .ok (.iload_n 2, 1) := by decide +kernel
theorem dX3_openBehind_42 : decode cX3_openBehind 42 = .ok (.iload_n 1, 1) := by decide +kernel
theorem dX3_openBehind_43 : decode cX3_openBehind 43 = .ok (.iconst 1, 1) := by decide +kernel
theorem dX3_openBehind_44 : decode cX3_openBehind 44 = .ok (.iadd, 1) := by decide +kernel
theorem dX3_openBehind_45 : decode cX3_openBehind 45 = .ok (.iastore, 1) := by decide +kernel
theorem dX3_openBehind_46 : decode cX3_openBehind 46 = .ok (.aload_n 0, 1) := by decide +kernel
theorem dX3_openBehind_47 : decode cX3_openBehind 47 = .ok (.getfield 21, 3) := by decide +kernel
theorem dX3_openBehind_50 : decode cX3_openBehind 50 = .ok (.iload_n 2, 1) := by decide +kernel
theorem dX3_openBehind_51 : decode cX3_openBehind 51 = .ok (.iaload, 1) := by decide +kernel
theorem dX3_openBehind_52 : decode cX3_openBehind 52 = .ok (.istore_n 2, 1) := by decide +kernel
theorem dX3_openBehind_53 : decode cX3_openBehind 53 = .ok (.iinc 3 1, 3) := by decide +kernel
theorem dX3_openBehind_56 : decode cX3_openBehind 56 = .ok (.goto (-52), 3) := by decide +kernel
theorem dX3_openBehind_59 : decode cX3_openBehind 59 = .ok (.iload_n 2, 1) := by decide +kernel
theorem dX3_openBehind_60 : decode cX3_openBehind 60 = .ok (.ireturn, 1) := by decide +kernel
theorem dX3_part_0 : decode cX3_part 0 = .ok (.iload_n 2, 1) := by decide +kernel
theorem dX3_part_1 : decode cX3_part 1 = .ok (.ifCond .lt 23, 3) := by decide +kernel
theorem dX3_part_4 : decode cX3_part 4 = .ok (.iload_n 2, 1) := by decide +kernel
theorem dX3_part_5 : decode cX3_part 5 = .ok (.iconst 3, 1) := by decide +kernel
theorem dX3_part_6 : decode cX3_part 6 = .ok (.if_icmp .ge 18, 3) := by decide +kernel
theorem dX3_part_9 : decode cX3_part 9 = .ok (.iload_n 1, 1) := by decide +kernel
theorem dX3_part_10 : decode cX3_part 10 = .ok (.ifCond .lt 14, 3) := by decide +kernel
theorem dX3_part_13 : decode cX3_part 13 = .ok (.iload_n 1, 1) := by decide +kernel
theorem dX3_part_14 : decode cX3_part 14 = .ok (.sipush 200, 3) := by decide +kernel
theorem dX3_part_17 : decode cX3_part 17 = .ok (.if_icmp .ge 7, 3) := by decide +kernel
theorem dX3_part_20 : decode cX3_part 20 = .ok (.iconst 1, 1) := by decide +kernel
theorem dX3_part_21 : decode cX3_part 21 = .ok (.goto 4, 3) := by decide +kernel
theorem dX3_part_24 : decode cX3_part 24 = .ok (.iconst 0, 1) := by decide +kernel
theorem dX3_part_25 : decode cX3_part 25 = .ok (.istore_n 3, 1) := by decide +kernel
theorem dX3_part_26 : decode cX3_part 26 = .ok (.iload_n 3, 1) := by decide +kernel
theorem dX3_part_27 : decode cX3_part 27 = .ok (.ifCond .eq 14, 3) := by decide +kernel
theorem dX3_part_30 : decode cX3_part 30 = .ok (.aload_n 0, 1) := by decide +kernel
theorem dX3_part_31 : decode cX3_part 31 = .ok (.getfield 47, 3) := by decide +kernel
theorem dX3_part_34 : decode cX3_part 34 = .ok (.iload_n 2, 1) := by decide +kernel
theorem dX3_part_35 : decode cX3_part 35 = .ok (.aaload, 1) := by decide +kernel
theorem dX3_part_36 : decode cX3_part 36 = .ok (.iload_n 1, 1) := by decide +kernel
theorem dX3_part_37 : decode cX3_part 37 = .ok (.iaload, 1) := by decide +kernel
theorem dX3_part_38 : decode cX3_part 38 = .ok (.goto 4, 3) := by decide +kernel
theorem dX3_part_41 : decode cX3_part 41 = .ok (.iconst (-1), 1) := by decide +kernel
theorem dX3_part_42 : decode cX3_part 42 = .ok (.ireturn, 1) := by decide +kernel
theorem dX3_endOf_0 : decode cX3_endOf 0 = .ok (.aload_n 0, 1) := by decide +kernel
theorem dX3_endOf_1 : decode cX3_endOf 1 = .ok (.getfield 53, 3) := by decide +kernel
theorem dX3_endOf_4 : decode cX3_endOf 4 = .ok (.iload_n 1, 1) := by decide +kernel
theorem dX3_endOf_5 : decode cX3_endOf 5 = .ok (.invokestatic 100, 3) := by decide +kernel
theorem dX3_endOf_8 : decode cX3_endOf 8 = .ok (.ireturn, 1) := by decide +kernel
theorem dX3_functionsIn_0 : decode cX3_functionsIn 0 = .ok (.iconst 0, 1) := by decide +kernel
theorem dX3_functionsIn_1 : decode cX3_functionsIn 1 = .ok (.istore_n 3, 1) := by decide +kernel
theorem dX3_functionsIn_2 : decode cX3_functionsIn 2 = .ok (.iload_n 1, 1) := by decide +kernel
theorem dX3_functionsIn_3 : decode cX3_functionsIn 3 = .ok (.iconst 0, 1) := by decide +kernel
theorem dX3_functionsIn_4 : decode cX3_functionsIn 4 = .ok (.invokestatic 63, 3) := by decide +kernel
theorem dX3_functionsIn_7 : decode cX3_functionsIn 7 = .ok (.istore 4, 2) := by decide +kernel
theorem dX3_functionsIn_9 : decode cX3_functionsIn 9 = .ok (.iload 4, 2) := by decide +kernel
theorem dX3_functionsIn_11 : decode cX3_functionsIn 11 = .ok (.iload_n 2, 1) := by decide +kernel
theorem dX3_functionsIn_12 : decode cX3_functionsIn 12 = .ok (.if_icmp .ge 37, 3) := by decide +kernel
theorem dX3_functionsIn_15 : decode cX3_functionsIn 15 = .ok (.iload 4, 2) := by decide +kernel
theorem dX3_functionsIn_17 : decode cX3_functionsIn 17 = .ok (.aload_n 0, 1) := by decide +kernel
theorem dX3_functionsIn_18 : decode cX3_functionsIn 18 = .ok (.getfield 59, 3) := by decide +kernel
theorem dX3_functionsIn_21 : decode cX3_functionsIn 21 = .ok (.if_icmp .ge 28, 3) := by decide +kernel
theorem dX3_functionsIn_24 : decode cX3_functionsIn 24 = .ok (.iload_n 3, 1) := by decide +kernel
theorem dX3_functionsIn_25 : decode cX3_functionsIn 25 = .ok (.aload_n 0, 1) := by decide +kernel
theorem dX3_functionsIn_26 : decode cX3_functionsIn 26 = .ok (.getfield 24, 3) := by decide +kernel
theorem dX3_functionsIn_29 : decode cX3_functionsIn 29 = .ok (.iload 4, 2) := by decide +kernel
theorem dX3_functionsIn_31 : decode cX3_functionsIn 31 = .ok (.iaload, 1) := by decide +kernel
theorem dX3_functionsIn_32 : decode cX3_functionsIn 32 = .ok (.iconst (-1), 1) := by decide +kernel
theorem dX3_functionsIn_33 : decode cX3_functionsIn 33 = .ok (.if_icmp .ne 7, 3) := by decide +kernel
theorem dX3_functionsIn_36 : decode cX3_functionsIn 36 = .ok (.iconst 0, 1) := by decide +kernel
theorem dX3_functionsIn_37 : decode cX3_functionsIn 37 = .ok (.goto 4, 3) := by decide +kernel
theorem dX3_functionsIn_40 : decode cX3_functionsIn 40 = .ok (.iconst 1, 1) := by decide +kernel
theorem dX3_functionsIn_41 : decode cX3_functionsIn 41 = .ok (.iadd, 1) := by decide +kernel
theorem dX3_functionsIn_42 : decode cX3_functionsIn 42 = .ok (.istore_n 3, 1) := by decide +kernel
theorem dX3_functionsIn_43 : decode cX3_functionsIn 43 = .ok (.iinc 4 1, 3) := by decide +kernel
theorem dX3_functionsIn_46 : decode cX3_functionsIn 46 = .ok (.goto (-37), 3) := by decide +kernel
theorem dX3_functionsIn_49 : decode cX3_functionsIn 49 = .ok (.iload_n 3, 1) := by decide +kernel
theorem dX3_functionsIn_50 : decode cX3_functionsIn 50 = .ok (.ireturn, 1) := by decide +kernel
theorem dX3_variablesIn_0 : decode cX3_variablesIn 0 = .ok (.iconst 0, 1) := by decide +kernel
theorem dX3_variablesIn_1 : decode cX3_variablesIn 1 = .ok (.istore_n 3, 1) := by decide +kernel
theorem dX3_variablesIn_2 : decode cX3_variablesIn 2 = .ok (.iload_n 1, 1) := by decide +kernel
theorem dX3_variablesIn_3 : decode cX3_variablesIn 3 = .ok (.iconst 0, 1) := by decide +kernel
theorem dX3_variablesIn_4 : decode cX3_variablesIn 4 = .ok (.invokestatic 63, 3) := by decide +kernel
theorem dX3_variablesIn_7 : decode cX3_variablesIn 7 = .ok (.istore 4, 2) := by decide +kernel
theorem dX3_variablesIn_9 : decode cX3_variablesIn 9 = .ok (.iload 4, 2) := by decide +kernel
theorem dX3_variablesIn_11 : decode cX3_variablesIn 11 = .ok (.iload_n 2, 1) := by decide +kernel
theorem dX3_variablesIn_12 : decode cX3_variablesIn 12 = .ok (.if_icmp .ge 27, 3) := by decide +kernel
theorem dX3_variablesIn_15 : decode cX3_variablesIn 15 = .ok (.iload 4, 2) := by decide +kernel
theorem dX3_variablesIn_17 : decode cX3_variablesIn 17 = .ok (.aload_n 0, 1) := by decide +kernel
theorem dX3_variablesIn_18 : decode cX3_variablesIn 18 = .ok (.getfield 59, 3) := by decide +kernel
theorem dX3_variablesIn_21 : decode cX3_variablesIn 21 = .ok (.if_icmp .ge 18, 3) := by decide +kernel
theorem dX3_variablesIn_24 : decode cX3_variablesIn 24 = .ok (.iload_n 3, 1) := by decide +kernel
theorem dX3_variablesIn_25 : decode cX3_variablesIn 25 = .ok (.aload_n 0, 1) := by decide +kernel
theorem dX3_variablesIn_26 : decode cX3_variablesIn 26 = .ok (.iload 4, 2) := by decide +kernel
theorem dX3_variablesIn_28 : decode cX3_variablesIn 28 = .ok (.invokevirtual 69, 3) := by decide +kernel
theorem dX3_variablesIn_31 : decode cX3_variablesIn 31 = .ok (.iadd, 1) := by decide +kernel
theorem dX3_variablesIn_32 : decode cX3_variablesIn 32 = .ok (.istore_n 3, 1) := by decide +kernel
theorem dX3_variablesIn_33 : decode cX3_variablesIn 33 = .ok (.iinc 4 1, 3) := by decide +kernel
theorem dX3_variablesIn_36 : decode cX3_variablesIn 36 = .ok (.goto (-27), 3) := by decide +kernel
theorem dX3_variablesIn_39 : decode cX3_variablesIn 39 = .ok (.iload_n 3, 1) := by decide +kernel
theorem dX3_variablesIn_40 : decode cX3_variablesIn 40 = .ok (.ireturn, 1) := by decide +kernel
theorem dX3_variablesOf_0 : decode cX3_variablesOf 0 = .ok (.aload_n 0, 1) := by decide +kernel
theorem dX3_variablesOf_1 : decode cX3_variablesOf 1 = .ok (.getfield 9, 3) := by decide +kernel
theorem dX3_variablesOf_4 : decode cX3_variablesOf 4 = .ok (.iload_n 1, 1) := by decide +kernel
theorem dX3_variablesOf_5 : decode cX3_variablesOf 5 = .ok (.invokestatic 100, 3) := by decide +kernel
theorem dX3_variablesOf_8 : decode cX3_variablesOf 8 = .ok (.tableswitch 38 2 5 #[34, 32, 38, 36], 32) := by decide +kernel
theorem dX3_variablesOf_40 : decode cX3_variablesOf 40 = .ok (.iconst 2, 1) := by decide +kernel
theorem dX3_variablesOf_41 : decode cX3_variablesOf 41 = .ok (.ireturn, 1) := by decide +kernel
theorem dX3_variablesOf_42 : decode cX3_variablesOf 42 = .ok (.iconst 1, 1) := by decide +kernel
theorem dX3_variablesOf_43 : decode cX3_variablesOf 43 = .ok (.ireturn, 1) := by decide +kernel
theorem dX3_variablesOf_44 : decode cX3_variablesOf 44 = .ok (.iconst 1, 1) := by decide +kernel
theorem dX3_variablesOf_45 : decode cX3_variablesOf 45 = .ok (.ireturn, 1) := by decide +kernel
theorem dX3_variablesOf_46 : decode cX3_variablesOf 46 = .ok (.iconst 0, 1) := by decide +kernel
theorem dX3_variablesOf_47 : decode cX3_variablesOf 47 = .ok (.ireturn, 1) := by decide +kernel
theorem dX4_init_0 : decode cX4_init 0 = .ok (.aload_n 0, 1) := by decide +kernel
theorem dX4_init_1 : decode cX4_init 1 = .ok (.invokespecial 3, 3) := by decide +kernel
theorem dX4_init_4 : decode cX4_init 4 = .ok (.aload_n 0, 1) := by decide +kernel
theorem dX4_init_5 : decode cX4_init 5 = .ok (.bipush 100, 2) := by decide +kernel
theorem dX4_init_7 : decode cX4_init 7 = .ok (.newarray .int, 2) := by decide +kernel
theorem dX4_init_9 : decode cX4_init 9 = .ok (.putfield 9, 3) := by decide +kernel
theorem dX4_init_12 : decode cX4_init 12 = .ok (.aload_n 0, 1) := by decide +kernel
theorem dX4_init_13 : decode cX4_init 13 = .ok (.bipush 100, 2) := by decide +kernel
theorem dX4_init_15 : decode cX4_init 15 = .ok (.newarray .int, 2) := by decide +kernel
theorem dX4_init_17 : decode cX4_init 17 = .ok (.putfield 15, 3) := by decide +kernel
theorem dX4_init_20 : decode cX4_init 20 = .ok (.aload_n 0, 1) := by decide +kernel
theorem dX4_init_21 : decode cX4_init 21 = .ok (.bipush 40, 2) := by decide +kernel
theorem dX4_init_23 : decode cX4_init 23 = .ok (.newarray .int, 2) := by decide +kernel
theorem dX4_init_25 : decode cX4_init 25 = .ok (.putfield 18, 3) := by decide +kernel
theorem dX4_init_28 : decode cX4_init 28 = .ok (.aload_n 0, 1) := by decide +kernel
theorem dX4_init_29 : decode cX4_init 29 = .ok (.bipush 40, 2) := by decide +kernel
theorem dX4_init_31 : decode cX4_init 31 = .ok (.newarray .int, 2) := by decide +kernel
theorem dX4_init_33 : decode cX4_init 33 = .ok (.putfield 21, 3) := by decide +kernel
theorem dX4_init_36 : decode cX4_init 36 = .ok (.aload_n 0, 1) := by decide +kernel
theorem dX4_init_37 : decode cX4_init 37 = .ok (.bipush 40, 2) := by decide +kernel
theorem dX4_init_39 : decode cX4_init 39 = .ok (.newarray .int, 2) := by decide +kernel
theorem dX4_init_41 : decode cX4_init 41 = .ok (.putfield 24, 3) := by decide +kernel
theorem dX4_init_44 : decode cX4_init 44 = .ok (.aload_n 0, 1) := by decide +kernel
theorem dX4_init_45 : decode cX4_init 45 = .ok (.bipush 40, 2) := by decide +kernel
theorem dX4_init_47 : decode cX4_init 47 = .ok (.newarray .int, 2) := by decide +kernel
theorem dX4_init_49 : decode cX4_init 49 = .ok (.putfield 27, 3) := by decide +kernel
theorem dX4_init_52 : decode cX4_init 52 = .ok (.return_, 1) := by decide +kernel
theorem dX4_load_0 : decode cX4_load 0 = .ok (.aload_n 0, 1) := by decide +kernel
theorem dX4_load_1 : decode cX4_load 1 = .ok (.aload_n 1, 1) := by decide +kernel
theorem dX4_load_2 : decode cX4_load 2 = .ok (.putfield 30, 3) := by decide +kernel
theorem dX4_load_5 : decode cX4_load 5 = .ok (.aload_n 0, 1) := by decide +kernel
theorem dX4_load_6 : decode cX4_load 6 = .ok (.iload_n 2, 1) := by decide +kernel
theorem dX4_load_7 : decode cX4_load 7 = .ok (.aload_n 1, 1) := by decide +kernel
theorem dX4_load_8 : decode cX4_load 8 = .ok (.arraylength, 1) := by decide +kernel
theorem dX4_load_9 : decode cX4_load 9 = .ok (.invokestatic 34, 3) := by decide +kernel
theorem dX4_load_12 : decode cX4_load 12 = .ok (.putfield 40, 3) := by decide +kernel
theorem dX4_load_15 : decode cX4_load 15 = .ok (.aload_n 0, 1) := by decide +kernel
theorem dX4_load_16 : decode cX4_load 16 = .ok (.iconst 0, 1) := by decide +kernel
theorem dX4_load_17 : decode cX4_load 17 = .ok (.putfield 44, 3) := by decide +kernel
theorem dX4_load_20 : decode cX4_load 20 = .ok (.aload_n 0, 1) := by decide +kernel
theorem dX4_load_21 : decode cX4_load 21 = .ok (.iconst (-1), 1) := by decide +kernel
theorem dX4_load_22 : decode cX4_load 22 = .ok (.putfield 47, 3) := by decide +kernel
theorem dX4_load_25 : decode cX4_load 25 = .ok (.aload_n 0, 1) := by decide +kernel
theorem dX4_load_26 : decode cX4_load 26 = .ok (.aload_n 3, 1) := by decide +kernel
theorem dX4_load_27 : decode cX4_load 27 = .ok (.putfield 50, 3) := by decide +kernel
theorem dX4_load_30 : decode cX4_load 30 = .ok (.aload_n 0, 1) := by decide +kernel
theorem dX4_load_31 : decode cX4_load 31 = .ok (.getfield 50, 3) := by decide +kernel
theorem dX4_load_34 : decode cX4_load 34 = .ok (.iconst 0, 1) := by decide +kernel
theorem dX4_load_35 : decode cX4_load 35 = .ok (.putfield 54, 3) := by decide +kernel
theorem dX4_load_38 : decode cX4_load 38 = .ok (.aload_n 0, 1) := by decide +kernel
theorem dX4_load_39 : decode cX4_load 39 = .ok (.iconst 0, 1) := by decide +kernel
theorem dX4_load_40 : decode cX4_load 40 = .ok (.putfield 59, 3) := by decide +kernel
theorem dX4_load_43 : decode cX4_load 43 = .ok (.aload_n 0, 1) := by decide +kernel
theorem dX4_load_44 : decode cX4_load 44 = .ok (.iconst 0, 1) := by decide +kernel
theorem dX4_load_45 : decode cX4_load 45 = .ok (.putfield 62, 3) := by decide +kernel
theorem dX4_load_48 : decode cX4_load 48 = .ok (.aload_n 0, 1) := by decide +kernel
theorem dX4_load_49 : decode cX4_load 49 = .ok (.iconst 0, 1) := by decide +kernel
theorem dX4_load_50 : decode cX4_load 50 = .ok (.putfield 65, 3) := by decide +kernel
theorem dX4_load_53 : decode cX4_load 53 = .ok (.aload_n 0, 1) := by decide +kernel
theorem dX4_load_54 : decode cX4_load 54 = .ok (.iconst 0, 1) := by decide +kernel
theorem dX4_load_55 : decode cX4_load 55 = .ok (.putfield 68, 3) := by decide +kernel
theorem dX4_load_58 : decode cX4_load 58 = .ok (.iconst 1, 1) := by decide +kernel
theorem dX4_load_59 : decode cX4_load 59 = .ok (.istore 4, 2) := by decide +kernel
theorem dX4_load_61 : decode cX4_load 61 = .ok (.iconst 0, 1) := by decide +kernel
theorem dX4_load_62 : decode cX4_load 62 = .ok (.istore 5, 2) := by decide +kernel
theorem dX4_load_64 : decode cX4_load 64 = .ok (.iload 5, 2) := by decide +kernel
theorem dX4_load_66 : decode cX4_load 66 = .ok (.sipush 200, 3) := by decide +kernel
theorem dX4_load_69 : decode cX4_load 69 = .ok (.if_icmp .gt 47, 3) := by decide +kernel
theorem dX4_load_72 : decode cX4_load 72 = .ok (.iload 4, 2) := by decide +kernel
theorem dX4_load_74 : decode cX4_load 74 = .ok (.ifCond .eq 42, 3) := by decide +kernel
theorem dX4_load_77 : decode cX4_load 77 = .ok (.aload_n 0, 1) := by decide +kernel
theorem dX4_load_78 : decode cX4_load 78 = .ok (.invokevirtual 71, 3) := by decide +kernel
theorem dX4_load_81 : decode cX4_load 81 = .ok (.ifCond .eq 7, 3) := by decide +kernel
theorem dX4_load_84 : decode cX4_load 84 = .ok (.aload_n 0, 1) := by decide +kernel
theorem dX4_load_85 : decode cX4_load 85 = .ok (.invokevirtual 75, 3) := by decide +kernel
theorem dX4_load_88 : decode cX4_load 88 = .ok (.aload_n 0, 1) := by decide +kernel
theorem dX4_load_89 : decode cX4_load 89 = .ok (.getfield 68, 3) := by decide +kernel
theorem dX4_load_92 : decode cX4_load 92 = .ok (.ifCond .le 15, 3) := by decide +kernel
theorem dX4_load_95 : decode cX4_load 95 = .ok (.aload_n 0, 1) := by decide +kernel
theorem dX4_load_96 : decode cX4_load 96 = .ok (.getfield 47, 3) := by decide +kernel
theorem dX4_load_99 : decode cX4_load 99 = .ok (.iconst (-1), 1) := by decide +kernel
theorem dX4_load_100 : decode cX4_load 100 = .ok (.if_icmp .ne 7, 3) := by decide +kernel
theorem dX4_load_103 : decode cX4_load 103 = .ok (.iconst 1, 1) := by decide +kernel
theorem dX4_load_104 : decode cX4_load 104 = .ok (.goto 4, 3) := by decide +kernel
theorem dX4_load_107 : decode cX4_load 107 = .ok (.iconst 0, 1) := by decide +kernel
theorem dX4_load_108 : decode cX4_load 108 = .ok (.istore 4, 2) := by decide +kernel
theorem dX4_load_110 : decode cX4_load 110 = .ok (.iinc 5 1, 3) := by decide +kernel
theorem dX4_load_113 : decode cX4_load 113 = .ok (.goto (-49), 3) := by decide +kernel
theorem dX4_load_116 : decode cX4_load 116 = .ok (.aload_n 0, 1) := by decide +kernel
theorem dX4_load_117 : decode cX4_load 117 = .ok (.invokevirtual 78, 3) := by decide +kernel
theorem dX4_load_120 : decode cX4_load 120 = .ok (.iconst (-1), 1) := by decide +kernel
theorem dX4_load_121 : decode cX4_load 121 = .ok (.if_icmp .eq 11, 3) := by decide +kernel
theorem dX4_load_124 : decode cX4_load 124 = .ok (.aload_n 0, 1) := by decide +kernel
theorem dX4_load_125 : decode cX4_load 125 = .ok (.aload_n 0, 1) := by decide +kernel
theorem dX4_load_126 : decode cX4_load 126 = .ok (.getfield 44, 3) := by decide +kernel
theorem dX4_load_129 : decode cX4_load 129 = .ok (.invokevirtual 82, 3) := by decide +kernel
theorem dX4_load_132 : decode cX4_load 132 = .ok (.aload_n 0, 1) := by decide +kernel
theorem dX4_load_133 : decode cX4_load 133 = .ok (.getfield 47, 3) := by decide +kernel
theorem dX4_load_136 : decode cX4_load 136 = .ok (.ireturn, 1) := by decide +kernel
theorem dX4_fail_0 : decode cX4_fail 0 = .ok (.aload_n 0, 1) := by decide +kernel
theorem dX4_fail_1 : decode cX4_fail 1 = .ok (.getfield 47, 3) := by decide +kernel
theorem dX4_fail_4 : decode cX4_fail 4 = .ok (.iconst (-1), 1) := by decide +kernel
theorem dX4_fail_5 : decode cX4_fail 5 = .ok (.if_icmp .ne 8, 3) := by decide +kernel
theorem dX4_fail_8 : decode cX4_fail 8 = .ok (.aload_n 0, 1) := by decide +kernel
theorem dX4_fail_9 : decode cX4_fail 9 = .ok (.iload_n 1, 1) := by decide +kernel
theorem dX4_fail_10 : decode cX4_fail 10 = .ok (.putfield 47, 3) := by decide +kernel
theorem dX4_fail_13 : decode cX4_fail 13 = .ok (.return_, 1) := by decide +kernel
theorem dX4_byteAt_0 : decode cX4_byteAt 0 = .ok (.iload_n 1, 1) := by decide +kernel
theorem dX4_byteAt_1 : decode cX4_byteAt 1 = .ok (.ifCond .lt 33, 3) := by decide +kernel
theorem dX4_byteAt_4 : decode cX4_byteAt 4 = .ok (.iload_n 1, 1) := by decide +kernel
theorem dX4_byteAt_5 : decode cX4_byteAt 5 = .ok (.aload_n 0, 1) := by decide +kernel
theorem dX4_byteAt_6 : decode cX4_byteAt 6 = .ok (.getfield 40, 3) := by decide +kernel
theorem dX4_byteAt_9 : decode cX4_byteAt 9 = .ok (.if_icmp .ge 25, 3) := by decide +kernel
theorem dX4_byteAt_12 : decode cX4_byteAt 12 = .ok (.iload_n 1, 1) := by decide +kernel
theorem dX4_byteAt_13 : decode cX4_byteAt 13 = .ok (.aload_n 0, 1) := by decide +kernel
theorem dX4_byteAt_14 : decode cX4_byteAt 14 = .ok (.getfield 30, 3) := by decide +kernel
theorem dX4_byteAt_17 : decode cX4_byteAt 17 = .ok (.arraylength, 1) := by decide +kernel
theorem dX4_byteAt_18 : decode cX4_byteAt 18 = .ok (.if_icmp .ge 16, 3) := by decide +kernel
theorem dX4_byteAt_21 : decode cX4_byteAt 21 = .ok (.aload_n 0, 1) := by decide +kernel
theorem dX4_byteAt_22 : decode cX4_byteAt 22 = .ok (.getfield 30, 3) := by decide +kernel
theorem dX4_byteAt_25 : decode cX4_byteAt 25 = .ok (.iload_n 1, 1) := by decide +kernel
theorem dX4_byteAt_26 : decode cX4_byteAt 26 = .ok (.baload, 1) := by decide +kernel
theorem dX4_byteAt_27 : decode cX4_byteAt 27 = .ok (.sipush 255, 3) := by decide +kernel
theorem dX4_byteAt_30 : decode cX4_byteAt 30 = .ok (.iand, 1) := by decide +kernel
theorem dX4_byteAt_31 : decode cX4_byteAt 31 = .ok (.goto 4, 3) := by decide +kernel
theorem dX4_byteAt_34 : decode cX4_byteAt 34 = .ok (.iconst (-1), 1) := by decide +kernel
theorem dX4_byteAt_35 : decode cX4_byteAt 35 = .ok (.ireturn, 1) := by decide +kernel
theorem dX4_look_0 : decode cX4_look 0 = .ok (.aload_n 0, 1) := by decide +kernel
theorem dX4_look_1 : decode cX4_look 1 = .ok (.getfield 44, 3) := by decide +kernel
theorem dX4_look_4 : decode cX4_look 4 = .ok (.aload_n 0, 1) := by decide +kernel
theorem dX4_look_5 : decode cX4_look 5 = .ok (.getfield 40, 3) := by decide +kernel
theorem dX4_look_8 : decode cX4_look 8 = .ok (.if_icmp .ge 42, 3) := by decide +kernel
theorem dX4_look_11 : decode cX4_look 11 = .ok (.aload_n 0, 1) := by decide +kernel
theorem dX4_look_12 : decode cX4_look 12 = .ok (.aload_n 0, 1) := by decide +kernel
theorem dX4_look_13 : decode cX4_look 13 = .ok (.getfield 44, 3) := by decide +kernel
theorem dX4_look_16 : decode cX4_look 16 = .ok (.invokevirtual 86, 3) := by decide +kernel
theorem dX4_look_19 : decode cX4_look 19 = .ok (.bipush 32, 2) := by decide +kernel
theorem dX4_look_21 : decode cX4_look 21 = .ok (.if_icmp .eq 16, 3) := by decide +kernel
theorem dX4_look_24 : decode cX4_look 24 = .ok (.aload_n 0, 1) := by decide +kernel
theorem dX4_look_25 : decode cX4_look 25 = .ok (.aload_n 0, 1) := by decide +kernel
theorem dX4_look_26 : decode cX4_look 26 = .ok (.getfield 44, 3) := by decide +kernel
theorem dX4_look_29 : decode cX4_look 29 = .ok (.invokevirtual 86, 3) := by decide +kernel
theorem dX4_look_32 : decode cX4_look 32 = .ok (.bipush 10, 2) := by decide +kernel
theorem dX4_look_34 : decode cX4_look 34 = .ok (.if_icmp .ne 16, 3) := by decide +kernel
theorem dX4_look_37 : decode cX4_look 37 = .ok (.aload_n 0, 1) := by decide +kernel
theorem dX4_look_38 : decode cX4_look 38 = .ok (.dup, 1) := by decide +kernel
theorem dX4_look_39 : decode cX4_look 39 = .ok (.getfield 44, 3) := by decide +kernel
theorem dX4_look_42 : decode cX4_look 42 = .ok (.iconst 1, 1) := by decide +kernel
theorem dX4_look_43 : decode cX4_look 43 = .ok (.iadd, 1) := by decide +kernel
theorem dX4_look_44 : decode cX4_look 44 = .ok (.putfield 44, 3) := by decide +kernel
theorem dX4_look_47 : decode cX4_look 47 = .ok (.goto (-47), 3) := by decide +kernel
theorem dX4_look_50 : decode cX4_look 50 = .ok (.aload_n 0, 1) := by decide +kernel
theorem dX4_look_51 : decode cX4_look 51 = .ok (.aload_n 0, 1) := by decide +kernel
theorem dX4_look_52 : decode cX4_look 52 = .ok (.getfield 44, 3) := by decide +kernel
theorem dX4_look_55 : decode cX4_look 55 = .ok (.invokevirtual 86, 3) := by decide +kernel
theorem dX4_look_58 : decode cX4_look 58 = .ok (.ireturn, 1) := by decide +kernel
theorem dX4_isLetter_0 : decode cX4_isLetter 0 = .ok (.iload_n 0, 1) := by decide +kernel
theorem dX4_isLetter_1 : decode cX4_isLetter 1 = .ok (.bipush 97, 2) := by decide +kernel
theorem dX4_isLetter_3 : decode cX4_isLetter 3 = .ok (.if_icmp .lt 13, 3) := by decide +kernel
theorem dX4_isLetter_6 : decode cX4_isLetter 6 = .ok (.iload_n 0, 1) := by decide +kernel
theorem dX4_isLetter_7 : decode cX4_isLetter 7 = .ok (.bipush 122, 2) := by decide +kernel
theorem dX4_isLetter_9 : decode cX4_isLetter 9 = .ok (.if_icmp .gt 7, 3) := by decide +kernel
theorem dX4_isLetter_12 : decode cX4_isLetter 12 = .ok (.iconst 1, 1) := by decide +kernel
theorem dX4_isLetter_13 : decode cX4_isLetter 13 = .ok (.goto 4, 3) := by decide +kernel
theorem dX4_isLetter_16 : decode cX4_isLetter 16 = .ok (.iconst 0, 1) := by decide +kernel
theorem dX4_isLetter_17 : decode cX4_isLetter 17 = .ok (.ireturn, 1) := by decide +kernel
theorem dX4_isDigit_0 : decode cX4_isDigit 0 = .ok (.iload_n 0, 1) := by decide +kernel
theorem dX4_isDigit_1 : decode cX4_isDigit 1 = .ok (.bipush 48, 2) := by decide +kernel
theorem dX4_isDigit_3 : decode cX4_isDigit 3 = .ok (.if_icmp .lt 13, 3) := by decide +kernel
theorem dX4_isDigit_6 : decode cX4_isDigit 6 = .ok (.iload_n 0, 1) := by decide +kernel
theorem dX4_isDigit_7 : decode cX4_isDigit 7 = .ok (.bipush 57, 2) := by decide +kernel
theorem dX4_isDigit_9 : decode cX4_isDigit 9 = .ok (.if_icmp .gt 7, 3) := by decide +kernel
theorem dX4_isDigit_12 : decode cX4_isDigit 12 = .ok (.iconst 1, 1) := by decide +kernel
theorem dX4_isDigit_13 : decode cX4_isDigit 13 = .ok (.goto 4, 3) := by decide +kernel
theorem dX4_isDigit_16 : decode cX4_isDigit 16 = .ok (.iconst 0, 1) := by decide +kernel
theorem dX4_isDigit_17 : decode cX4_isDigit 17 = .ok (.ireturn, 1) := by decide +kernel
theorem dX4_takeExpr_0 : decode cX4_takeExpr 0 = .ok (.aload_n 0, 1) := by decide +kernel
theorem dX4_takeExpr_1 : decode cX4_takeExpr 1 = .ok (.invokevirtual 78, 3) := by decide +kernel
theorem dX4_takeExpr_4 : decode cX4_takeExpr 4 = .ok (.istore_n 1, 1) := by decide +kernel
theorem dX4_takeExpr_5 : decode cX4_takeExpr 5 = .ok (.aload_n 0, 1) := by decide +kernel
theorem dX4_takeExpr_6 : decode cX4_takeExpr 6 = .ok (.getfield 50, 3) := by decide +kernel
theorem dX4_takeExpr_9 : decode cX4_takeExpr 9 = .ok (.getfield 54, 3) := by decide +kernel
theorem dX4_takeExpr_12 : decode cX4_takeExpr 12 = .ok (.sipush 200, 3) := by decide +kernel
theorem dX4_takeExpr_15 : decode cX4_takeExpr 15 = .ok (.if_icmp .lt 14, 3) := by decide +kernel
theorem dX4_takeExpr_18 : decode cX4_takeExpr 18 = .ok (.aload_n 0, 1) := by decide +kernel
theorem dX4_takeExpr_19 : decode cX4_takeExpr 19 = .ok (.aload_n 0, 1) := by decide +kernel
theorem dX4_takeExpr_20 : decode cX4_takeExpr 20 = .ok (.getfield 44, 3) := by decide +kernel
theorem dX4_takeExpr_23 : decode cX4_takeExpr 23 = .ok (.invokevirtual 82, 3) := by decide +kernel
theorem dX4_takeExpr_26 : decode cX4_takeExpr 26 = .ok (.goto 67, 3) := by decide +kernel
theorem dX4_takeExpr_29 : decode cX4_takeExpr 29 = .ok (.iload_n 1, 1) := by decide +kernel
theorem dX4_takeExpr_30 : decode cX4_takeExpr 30 = .ok (.invokestatic 90, 3) := by decide +kernel
theorem dX4_takeExpr_33 : decode cX4_takeExpr 33 = .ok (.ifCond .eq 8, 3) := by decide +kernel
theorem dX4_takeExpr_36 : decode cX4_takeExpr 36 = .ok (.aload_n 0, 1) := by decide +kernel
theorem dX4_takeExpr_37 : decode cX4_takeExpr 37 = .ok (.invokevirtual 94, 3) := by decide +kernel
theorem dX4_takeExpr_40 : decode cX4_takeExpr 40 = .ok (.ireturn, 1) := by decide +kernel
theorem dX4_takeExpr_41 : decode cX4_takeExpr 41 = .ok (.iload_n 1, 1) := by decide +kernel
theorem dX4_takeExpr_42 : decode cX4_takeExpr 42 = .ok (.invokestatic 97, 3) := by decide +kernel
theorem dX4_takeExpr_45 : decode cX4_takeExpr 45 = .ok (.ifCond .ne 9, 3) := by decide +kernel
theorem dX4_takeExpr_48 : decode cX4_takeExpr 48 = .ok (.iload_n 1, 1) := by decide +kernel
theorem dX4_takeExpr_49 : decode cX4_takeExpr 49 = .ok (.bipush 45, 2) := by decide +kernel
theorem dX4_takeExpr_51 : decode cX4_takeExpr 51 = .ok (.if_icmp .ne 8, 3) := by decide +kernel
theorem dX4_takeExpr_54 : decode cX4_takeExpr 54 = .ok (.aload_n 0, 1) := by decide +kernel
theorem dX4_takeExpr_55 : decode cX4_takeExpr 55 = .ok (.invokevirtual 100, 3) := by decide +kernel
theorem dX4_takeExpr_58 : decode cX4_takeExpr 58 = .ok (.ireturn, 1) := by decide +kernel
theorem dX4_takeExpr_59 : decode cX4_takeExpr 59 = .ok (.iload_n 1, 1) := by decide +kernel
theorem dX4_takeExpr_60 : decode cX4_takeExpr 60 = .ok (.bipush 92, 2) := by decide +kernel
theorem dX4_takeExpr_62 : decode cX4_takeExpr 62 = .ok (.if_icmp .ne 10, 3) := by decide +kernel
theorem dX4_takeExpr_65 : decode cX4_takeExpr 65 = .ok (.aload_n 0, 1) := by decide +kernel
theorem dX4_takeExpr_66 : decode cX4_takeExpr 66 = .ok (.invokevirtual 103, 3) := by decide +kernel
theorem dX4_takeExpr_69 : decode cX4_takeExpr 69 = .ok (.goto 24, 3) := by decide +kernel
theorem dX4_takeExpr_72 : decode cX4_takeExpr 72 = .ok (.iload_n 1, 1) := by decide +kernel
theorem dX4_takeExpr_73 : decode cX4_takeExpr 73 = .ok (.bipush 40, 2) := by decide +kernel
theorem dX4_takeExpr_75 : decode cX4_takeExpr 75 = .ok (.if_icmp .ne 10, 3) := by decide +kernel
theorem dX4_takeExpr_78 : decode cX4_takeExpr 78 = .ok (.aload_n 0, 1) := by decide +kernel
theorem dX4_takeExpr_79 : decode cX4_takeExpr 79 = .ok (.invokevirtual 106, 3) := by decide +kernel
theorem dX4_takeExpr_82 : decode cX4_takeExpr 82 = .ok (.goto 11, 3) := by decide +kernel
theorem dX4_takeExpr_85 : decode cX4_takeExpr 85 = .ok (.aload_n 0, 1) := by decide +kernel
theorem dX4_takeExpr_86 : decode cX4_takeExpr 86 = .ok (.aload_n 0, 1) := by decide +kernel
theorem dX4_takeExpr_87 : decode cX4_takeExpr 87 = .ok (.getfield 44, 3) := by decide +kernel
theorem dX4_takeExpr_90 : decode cX4_takeExpr 90 = .ok (.invokevirtual 82, 3) := by decide +kernel
theorem dX4_takeExpr_93 : decode cX4_takeExpr 93 = .ok (.iconst 0, 1) := by decide +kernel
theorem dX4_takeExpr_94 : decode cX4_takeExpr 94 = .ok (.ireturn, 1) := by decide +kernel
theorem dX4_takeMeaning_0 : decode cX4_takeMeaning 0 = .ok (.aload_n 0, 1) := by decide +kernel
theorem dX4_takeMeaning_1 : decode cX4_takeMeaning 1 = .ok (.getfield 44, 3) := by decide +kernel
theorem dX4_takeMeaning_4 : decode cX4_takeMeaning 4 = .ok (.istore_n 1, 1) := by decide +kernel
theorem dX4_takeMeaning_5 : decode cX4_takeMeaning 5 = .ok (.aload_n 0, 1) := by decide +kernel
theorem dX4_takeMeaning_6 : decode cX4_takeMeaning 6 = .ok (.aload_n 0, 1) := by decide +kernel
theorem dX4_takeMeaning_7 : decode cX4_takeMeaning 7 = .ok (.invokevirtual 109, 3) := by decide +kernel
theorem dX4_takeMeaning_10 : decode cX4_takeMeaning 10 = .ok (.invokevirtual 112, 3) := by decide +kernel
theorem dX4_takeMeaning_13 : decode cX4_takeMeaning 13 = .ok (.istore_n 2, 1) := by decide +kernel
theorem dX4_takeMeaning_14 : decode cX4_takeMeaning 14 = .ok (.iload_n 2, 1) := by decide +kernel
theorem dX4_takeMeaning_15 : decode cX4_takeMeaning 15 = .ok (.iconst (-1), 1) := by decide +kernel
theorem dX4_takeMeaning_16 : decode cX4_takeMeaning 16 = .ok (.if_icmp .ne 10, 3) := by decide +kernel
theorem dX4_takeMeaning_19 : decode cX4_takeMeaning 19 = .ok (.aload_n 0, 1) := by decide +kernel
theorem dX4_takeMeaning_20 : decode cX4_takeMeaning 20 = .ok (.iload_n 1, 1) := by decide +kernel
theorem dX4_takeMeaning_21 : decode cX4_takeMeaning 21 = .ok (.invokevirtual 82, 3) := by decide +kernel
theorem dX4_takeMeaning_24 : decode cX4_takeMeaning 24 = .ok (.iconst 0, 1) := by decide +kernel
theorem dX4_takeMeaning_25 : decode cX4_takeMeaning 25 = .ok (.ireturn, 1) := by decide +kernel
theorem dX4_takeMeaning_26 : decode cX4_takeMeaning 26 = .ok (.aload_n 0, 1) := by decide +kernel
theorem dX4_takeMeaning_27 : decode cX4_takeMeaning 27 = .ok (.getfield 50, 3) := by decide +kernel
theorem dX4_takeMeaning_30 : decode cX4_takeMeaning 30 = .ok (.iconst 0, 1) := by decide +kernel
theorem dX4_takeMeaning_31 : decode cX4_takeMeaning 31 = .ok (.iload_n 2, 1) := by decide +kernel
theorem dX4_takeMeaning_32 : decode cX4_takeMeaning 32 = .ok (.iconst (-1), 1) := by decide +kernel
theorem dX4_takeMeaning_33 : decode cX4_takeMeaning 33 = .ok (.invokevirtual 115, 3) := by decide +kernel
theorem dX4_takeMeaning_36 : decode cX4_takeMeaning 36 = .ok (.pop, 1) := by decide +kernel
theorem dX4_takeMeaning_37 : decode cX4_takeMeaning 37 = .ok (.iconst 1, 1) := by decide +kernel
theorem dX4_takeMeaning_38 : decode cX4_takeMeaning 38 = .ok (.ireturn, 1) := by decide +kernel
theorem dX4_meaningOf_0 : decode cX4_meaningOf 0 = .ok (.aload_n 0, 1) := by decide +kernel
theorem dX4_meaningOf_1 : decode cX4_meaningOf 1 = .ok (.getfield 65, 3) := by decide +kernel
theorem dX4_meaningOf_4 : decode cX4_meaningOf 4 = .ok (.iconst 1, 1) := by decide +kernel
theorem dX4_meaningOf_5 : decode cX4_meaningOf 5 = .ok (.isub, 1) := by decide +kernel
theorem dX4_meaningOf_6 : decode cX4_meaningOf 6 = .ok (.istore_n 2, 1) := by decide +kernel
theorem dX4_meaningOf_7 : decode cX4_meaningOf 7 = .ok (.iload_n 2, 1) := by decide +kernel
theorem dX4_meaningOf_8 : decode cX4_meaningOf 8 = .ok (.ifCond .lt 26, 3) := by decide +kernel
theorem dX4_meaningOf_11 : decode cX4_meaningOf 11 = .ok (.aload_n 0, 1) := by decide +kernel
theorem dX4_meaningOf_12 : decode cX4_meaningOf 12 = .ok (.getfield 9, 3) := by decide +kernel
theorem dX4_meaningOf_15 : decode cX4_meaningOf 15 = .ok (.iload_n 2, 1) := by decide +kernel
theorem dX4_meaningOf_16 : decode cX4_meaningOf 16 = .ok (.iaload, 1) := by decide +kernel
theorem dX4_meaningOf_17 : decode cX4_meaningOf 17 = .ok (.iload_n 1, 1) := by decide +kernel
theorem dX4_meaningOf_18 : decode cX4_meaningOf 18 = .ok (.if_icmp .ne 10, 3) := by decide +kernel
theorem dX4_meaningOf_21 : decode cX4_meaningOf 21 = .ok (.aload_n 0, 1) := by decide +kernel
theorem dX4_meaningOf_22 : decode cX4_meaningOf 22 = .ok (.getfield 15, 3) := by decide +kernel
theorem dX4_meaningOf_25 : decode cX4_meaningOf 25 = .ok (.iload_n 2, 1) := by decide +kernel
theorem dX4_meaningOf_26 : decode cX4_meaningOf 26 = .ok (.iaload, 1) := by decide +kernel
theorem dX4_meaningOf_27 : decode cX4_meaningOf 27 = .ok (.ireturn, 1) := by decide +kernel
theorem dX4_meaningOf_28 : decode cX4_meaningOf 28 = .ok (.iinc 2 (-1), 3) := by decide +kernel
theorem dX4_meaningOf_31 : decode cX4_meaningOf 31 = .ok (.goto (-24), 3) := by decide +kernel
theorem dX4_meaningOf_34 : decode cX4_meaningOf 34 = .ok (.iconst (-1), 1) := by decide +kernel
theorem dX4_meaningOf_35 : decode cX4_meaningOf 35 = .ok (.ireturn, 1) := by decide +kernel
theorem dX4_takeNumber_0 : decode cX4_takeNumber 0 = .ok (.aload_n 0, 1) := by decide +kernel
theorem dX4_takeNumber_1 : decode cX4_takeNumber 1 = .ok (.aload_n 0, 1) := by decide +kernel
theorem dX4_takeNumber_2 : decode cX4_takeNumber 2 = .ok (.getfield 44, 3) := by decide +kernel
theorem dX4_takeNumber_5 : decode cX4_takeNumber 5 = .ok (.invokevirtual 86, 3) := by decide +kernel
theorem dX4_takeNumber_8 : decode cX4_takeNumber 8 = .ok (.bipush 45, 2) := by decide +kernel
theorem dX4_takeNumber_10 : decode cX4_takeNumber 10 = .ok (.if_icmp .ne 7, 3) := by decide +kernel
theorem dX4_takeNumber_13 : decode cX4_takeNumber 13 = .ok (.iconst 1, 1) := by decide +kernel
theorem dX4_takeNumber_14 : decode cX4_takeNumber 14 = .ok (.goto 4, 3) := by decide +kernel
theorem dX4_takeNumber_17 : decode cX4_takeNumber 17 = .ok (.iconst 0, 1) := by decide +kernel
theorem dX4_takeNumber_18 : decode cX4_takeNumber 18 = .ok (.istore_n 1, 1) := by decide +kernel
theorem dX4_takeNumber_19 : decode cX4_takeNumber 19 = .ok (.aload_n 0, 1) := by decide +kernel
theorem dX4_takeNumber_20 : decode cX4_takeNumber 20 = .ok (.dup, 1) := by decide +kernel
theorem dX4_takeNumber_21 : decode cX4_takeNumber 21 = .ok (.getfield 44, 3) := by decide +kernel
theorem dX4_takeNumber_24 : decode cX4_takeNumber 24 = .ok (.iload_n 1, 1) := by decide +kernel
theorem dX4_takeNumber_25 : decode cX4_takeNumber 25 = .ok (.ifCond .eq 7, 3) := by decide +kernel
theorem dX4_takeNumber_28 : decode cX4_takeNumber 28 = .ok (.iconst 1, 1) := by decide +kernel
theorem dX4_takeNumber_29 : decode cX4_takeNumber 29 = .ok (.goto 4, 3) := by decide +kernel
theorem dX4_takeNumber_32 : decode cX4_takeNumber 32 = .ok (.iconst 0, 1) := by decide +kernel
theorem dX4_takeNumber_33 : decode cX4_takeNumber 33 = .ok (.iadd, 1) := by decide +kernel
theorem dX4_takeNumber_34 : decode cX4_takeNumber 34 = .ok (.putfield 44, 3) := by decide +kernel
theorem dX4_takeNumber_37 : decode cX4_takeNumber 37 = .ok (.aload_n 0, 1) := by decide +kernel
theorem dX4_takeNumber_38 : decode cX4_takeNumber 38 = .ok (.getfield 44, 3) := by decide +kernel
theorem dX4_takeNumber_41 : decode cX4_takeNumber 41 = .ok (.istore_n 2, 1) := by decide +kernel
theorem dX4_takeNumber_42 : decode cX4_takeNumber 42 = .ok (.iconst 0, 1) := by decide +kernel
theorem dX4_takeNumber_43 : decode cX4_takeNumber 43 = .ok (.istore_n 3, 1) := by decide +kernel
theorem dX4_takeNumber_44 : decode cX4_takeNumber 44 = .ok (.aload_n 0, 1) := by decide +kernel
theorem dX4_takeNumber_45 : decode cX4_takeNumber 45 = .ok (.getfield 44, 3) := by decide +kernel
theorem dX4_takeNumber_48 : decode cX4_takeNumber 48 = .ok (.iload_n 2, 1) := by decide +kernel
theorem dX4_takeNumber_49 : decode cX4_takeNumber 49 = .ok (.isub, 1) := by decide +kernel
theorem dX4_takeNumber_50 : decode cX4_takeNumber 50 = .ok (.bipush 6, 2) := by decide +kernel
theorem dX4_takeNumber_52 : decode cX4_takeNumber 52 = .ok (.if_icmp .ge 47, 3) := by decide +kernel
theorem dX4_takeNumber_55 : decode cX4_takeNumber 55 = .ok (.aload_n 0, 1) := by decide +kernel
theorem dX4_takeNumber_56 : decode cX4_takeNumber 56 = .ok (.aload_n 0, 1) := by decide +kernel
theorem dX4_takeNumber_57 : decode cX4_takeNumber 57 = .ok (.getfield 44, 3) := by decide +kernel
theorem dX4_takeNumber_60 : decode cX4_takeNumber 60 = .ok (.invokevirtual 86, 3) := by decide +kernel
theorem dX4_takeNumber_63 : decode cX4_takeNumber 63 = .ok (.invokestatic 97, 3) := by decide +kernel
theorem dX4_takeNumber_66 : decode cX4_takeNumber 66 = .ok (.ifCond .eq 33, 3) := by decide +kernel
theorem dX4_takeNumber_69 : decode cX4_takeNumber 69 = .ok (.iload_n 3, 1) := by decide +kernel
theorem dX4_takeNumber_70 : decode cX4_takeNumber 70 = .ok (.bipush 10, 2) := by decide +kernel
theorem dX4_takeNumber_72 : decode cX4_takeNumber 72 = .ok (.imul, 1) := by decide +kernel
theorem dX4_takeNumber_73 : decode cX4_takeNumber 73 = .ok (.aload_n 0, 1) := by decide +kernel
theorem dX4_takeNumber_74 : decode cX4_takeNumber 74 = .ok (.aload_n 0, 1) := by decide +kernel
theorem dX4_takeNumber_75 : decode cX4_takeNumber 75 = .ok (.getfield 44, 3) := by decide +kernel
theorem dX4_takeNumber_78 : decode cX4_takeNumber 78 = .ok (.invokevirtual 86, 3) := by decide +kernel
theorem dX4_takeNumber_81 : decode cX4_takeNumber 81 = .ok (.iadd, 1) := by decide +kernel
theorem dX4_takeNumber_82 : decode cX4_takeNumber 82 = .ok (.bipush 48, 2) := by decide +kernel
theorem dX4_takeNumber_84 : decode cX4_takeNumber 84 = .ok (.isub, 1) := by decide +kernel
theorem dX4_takeNumber_85 : decode cX4_takeNumber 85 = .ok (.istore_n 3, 1) := by decide +kernel
theorem dX4_takeNumber_86 : decode cX4_takeNumber 86 = .ok (.aload_n 0, 1) := by decide +kernel
theorem dX4_takeNumber_87 : decode cX4_takeNumber 87 = .ok (.dup, 1) := by decide +kernel
theorem dX4_takeNumber_88 : decode cX4_takeNumber 88 = .ok (.getfield 44, 3) := by decide +kernel
theorem dX4_takeNumber_91 : decode cX4_takeNumber 91 = .ok (.iconst 1, 1) := by decide +kernel
theorem dX4_takeNumber_92 : decode cX4_takeNumber 92 = .ok (.iadd, 1) := by decide +kernel
theorem dX4_takeNumber_93 : decode cX4_takeNumber 93 = .ok (.putfield 44, 3) := by decide +kernel
theorem dX4_takeNumber_96 : decode cX4_takeNumber 96 = .ok (.goto (-52), 3) := by decide +kernel
theorem dX4_takeNumber_99 : decode cX4_takeNumber 99 = .ok (.aload_n 0, 1) := by decide +kernel
theorem dX4_takeNumber_100 : decode cX4_takeNumber 100 = .ok (.getfield 44, 3) := by decide +kernel
theorem dX4_takeNumber_103 : decode cX4_takeNumber 103 = .ok (.iload_n 2, 1) := by decide +kernel
theorem dX4_takeNumber_104 : decode cX4_takeNumber 104 = .ok (.if_icmp .eq 17, 3) := by decide +kernel
theorem dX4_takeNumber_107 : decode cX4_takeNumber 107 = .ok (.aload_n 0, 1) := by decide +kernel
theorem dX4_takeNumber_108 : decode cX4_takeNumber 108 = .ok (.aload_n 0, 1) := by decide +kernel
theorem dX4_takeNumber_109 : decode cX4_takeNumber 109 = .ok (.getfield 44, 3) := by decide +kernel
theorem dX4_takeNumber_112 : decode cX4_takeNumber 112 = .ok (.invokevirtual 86, 3) := by decide +kernel
theorem dX4_takeNumber_115 : decode cX4_takeNumber 115 = .ok (.invokestatic 97, 3) := by decide +kernel
theorem dX4_takeNumber_118 : decode cX4_takeNumber 118 = .ok (.ifCond .eq 13, 3) := by decide +kernel
theorem dX4_takeNumber_121 : decode cX4_takeNumber 121 = .ok (.aload_n 0, 1) := by decide +kernel
theorem dX4_takeNumber_122 : decode cX4_takeNumber 122 = .ok (.aload_n 0, 1) := by decide +kernel
theorem dX4_takeNumber_123 : decode cX4_takeNumber 123 = .ok (.getfield 44, 3) := by decide +kernel
theorem dX4_takeNumber_126 : decode cX4_takeNumber 126 = .ok (.invokevirtual 82, 3) := by decide +kernel
theorem dX4_takeNumber_129 : decode cX4_takeNumber 129 = .ok (.iconst 0, 1) := by decide +kernel
theorem dX4_takeNumber_130 : decode cX4_takeNumber 130 = .ok (.ireturn, 1) := by decide +kernel
theorem dX4_takeNumber_131 : decode cX4_takeNumber 131 = .ok (.aload_n 0, 1) := by decide +kernel
theorem dX4_takeNumber_132 : decode cX4_takeNumber 132 = .ok (.getfield 50, 3) := by decide +kernel
theorem dX4_takeNumber_135 : decode cX4_takeNumber 135 = .ok (.iconst 1, 1) := by decide +kernel
theorem dX4_takeNumber_136 : decode cX4_takeNumber 136 = .ok (.iload_n 1, 1) := by decide +kernel
theorem dX4_takeNumber_137 : decode cX4_takeNumber 137 = .ok (.ifCond .eq 8, 3) := by decide +kernel
theorem dX4_takeNumber_140 : decode cX4_takeNumber 140 = .ok (.iload_n 3, 1) := by decide +kernel
theorem dX4_takeNumber_141 : decode cX4_takeNumber 141 = .ok (.ineg, 1) := by decide +kernel
theorem dX4_takeNumber_142 : decode cX4_takeNumber 142 = .ok (.goto 4, 3) := by decide +kernel
theorem dX4_takeNumber_145 : decode cX4_takeNumber 145 = .ok (.iload_n 3, 1) := by decide +kernel
theorem dX4_takeNumber_146 : decode cX4_takeNumber 146 = .ok (.iconst (-1), 1) := by decide +kernel
theorem dX4_takeNumber_147 : decode cX4_takeNumber 147 = .ok (.invokevirtual 115, 3) := by decide +kernel
theorem dX4_takeNumber_150 : decode cX4_takeNumber 150 = .ok (.pop, 1) := by decide +kernel
theorem dX4_takeNumber_151 : decode cX4_takeNumber 151 = .ok (.iconst 1, 1) := by decide +kernel
theorem dX4_takeNumber_152 : decode cX4_takeNumber 152 = .ok (.ireturn, 1) := by decide +kernel
theorem dX4_takeLambda_0 : decode cX4_takeLambda 0 = .ok (.aload_n 0, 1) := by decide +kernel
theorem dX4_takeLambda_1 : decode cX4_takeLambda 1 = .ok (.getfield 68, 3) := by decide +kernel
theorem dX4_takeLambda_4 : decode cX4_takeLambda 4 = .ok (.bipush 40, 2) := by decide +kernel
theorem dX4_takeLambda_6 : decode cX4_takeLambda 6 = .ok (.if_icmp .ge 12, 3) := by decide +kernel
theorem dX4_takeLambda_9 : decode cX4_takeLambda 9 = .ok (.aload_n 0, 1) := by decide +kernel
theorem dX4_takeLambda_10 : decode cX4_takeLambda 10 = .ok (.getfield 59, 3) := by decide +kernel
theorem dX4_takeLambda_13 : decode cX4_takeLambda 13 = .ok (.bipush 50, 2) := by decide +kernel
theorem dX4_takeLambda_15 : decode cX4_takeLambda 15 = .ok (.if_icmp .lt 12, 3) := by decide +kernel
theorem dX4_takeLambda_18 : decode cX4_takeLambda 18 = .ok (.aload_n 0, 1) := by decide +kernel
theorem dX4_takeLambda_19 : decode cX4_takeLambda 19 = .ok (.aload_n 0, 1) := by decide +kernel
theorem dX4_takeLambda_20 : decode cX4_takeLambda 20 = .ok (.getfield 44, 3) := by decide +kernel
theorem dX4_takeLambda_23 : decode cX4_takeLambda 23 = .ok (.invokevirtual 82, 3) := by decide +kernel
theorem dX4_takeLambda_26 : decode cX4_takeLambda 26 = .ok (.return_, 1) := by decide +kernel
theorem dX4_takeLambda_27 : decode cX4_takeLambda 27 = .ok (.aload_n 0, 1) := by decide +kernel
theorem dX4_takeLambda_28 : decode cX4_takeLambda 28 = .ok (.dup, 1) := by decide +kernel
theorem dX4_takeLambda_29 : decode cX4_takeLambda 29 = .ok (.getfield 44, 3) := by decide +kernel
theorem dX4_takeLambda_32 : decode cX4_takeLambda 32 = .ok (.iconst 1, 1) := by decide +kernel
theorem dX4_takeLambda_33 : decode cX4_takeLambda 33 = .ok (.iadd, 1) := by decide +kernel
theorem dX4_takeLambda_34 : decode cX4_takeLambda 34 = .ok (.putfield 44, 3) := by decide +kernel
theorem dX4_takeLambda_37 : decode cX4_takeLambda 37 = .ok (.aload_n 0, 1) := by decide +kernel
theorem dX4_takeLambda_38 : decode cX4_takeLambda 38 = .ok (.dup, 1) := by decide +kernel
theorem dX4_takeLambda_39 : decode cX4_takeLambda 39 = .ok (.getfield 59, 3) := by decide +kernel
theorem dX4_takeLambda_42 : decode cX4_takeLambda 42 = .ok (.iconst 1, 1) := by decide +kernel
theorem dX4_takeLambda_43 : decode cX4_takeLambda 43 = .ok (.iadd, 1) := by decide +kernel
theorem dX4_takeLambda_44 : decode cX4_takeLambda 44 = .ok (.putfield 59, 3) := by decide +kernel
theorem dX4_takeLambda_47 : decode cX4_takeLambda 47 = .ok (.aload_n 0, 1) := by decide +kernel
theorem dX4_takeLambda_48 : decode cX4_takeLambda 48 = .ok (.iconst 2, 1) := by decide +kernel
theorem dX4_takeLambda_49 : decode cX4_takeLambda 49 = .ok (.invokevirtual 119, 3) := by decide +kernel
theorem dX4_takeLambda_52 : decode cX4_takeLambda 52 = .ok (.aload_n 0, 1) := by decide +kernel
theorem dX4_takeLambda_53 : decode cX4_takeLambda 53 = .ok (.invokevirtual 122, 3) := by decide +kernel
theorem dX4_takeLambda_56 : decode cX4_takeLambda 56 = .ok (.istore_n 1, 1) := by decide +kernel
theorem dX4_takeLambda_57 : decode cX4_takeLambda 57 = .ok (.aload_n 0, 1) := by decide +kernel
theorem dX4_takeLambda_58 : decode cX4_takeLambda 58 = .ok (.aload_n 0, 1) := by decide +kernel
theorem dX4_takeLambda_59 : decode cX4_takeLambda 59 = .ok (.getfield 62, 3) := by decide +kernel
theorem dX4_takeLambda_62 : decode cX4_takeLambda 62 = .ok (.iconst 1, 1) := by decide +kernel
theorem dX4_takeLambda_63 : decode cX4_takeLambda 63 = .ok (.isub, 1) := by decide +kernel
theorem dX4_takeLambda_64 : decode cX4_takeLambda 64 = .ok (.iconst (-1), 1) := by decide +kernel
theorem dX4_takeLambda_65 : decode cX4_takeLambda 65 = .ok (.invokevirtual 125, 3) := by decide +kernel
theorem dX4_takeLambda_68 : decode cX4_takeLambda 68 = .ok (.aload_n 0, 1) := by decide +kernel
theorem dX4_takeLambda_69 : decode cX4_takeLambda 69 = .ok (.bipush 46, 2) := by decide +kernel
theorem dX4_takeLambda_71 : decode cX4_takeLambda 71 = .ok (.invokevirtual 129, 3) := by decide +kernel
theorem dX4_takeLambda_74 : decode cX4_takeLambda 74 = .ok (.aload_n 0, 1) := by decide +kernel
theorem dX4_takeLambda_75 : decode cX4_takeLambda 75 = .ok (.iload_n 1, 1) := by decide +kernel
theorem dX4_takeLambda_76 : decode cX4_takeLambda 76 = .ok (.aload_n 0, 1) := by decide +kernel
theorem dX4_takeLambda_77 : decode cX4_takeLambda 77 = .ok (.getfield 62, 3) := by decide +kernel
theorem dX4_takeLambda_80 : decode cX4_takeLambda 80 = .ok (.iconst 1, 1) := by decide +kernel
theorem dX4_takeLambda_81 : decode cX4_takeLambda 81 = .ok (.isub, 1) := by decide +kernel
theorem dX4_takeLambda_82 : decode cX4_takeLambda 82 = .ok (.invokevirtual 132, 3) := by decide +kernel
theorem dX4_takeLambda_85 : decode cX4_takeLambda 85 = .ok (.return_, 1) := by decide +kernel
theorem dX4_takeForm_0 : decode cX4_takeForm 0 = .ok (.aload_n 0, 1) := by decide +kernel
theorem dX4_takeForm_1 : decode cX4_takeForm 1 = .ok (.getfield 44, 3) := by decide +kernel
theorem dX4_takeForm_4 : decode cX4_takeForm 4 = .ok (.istore_n 1, 1) := by decide +kernel
theorem dX4_takeForm_5 : decode cX4_takeForm 5 = .ok (.aload_n 0, 1) := by decide +kernel
theorem dX4_takeForm_6 : decode cX4_takeForm 6 = .ok (.getfield 68, 3) := by decide +kernel
theorem dX4_takeForm_9 : decode cX4_takeForm 9 = .ok (.bipush 40, 2) := by decide +kernel
theorem dX4_takeForm_11 : decode cX4_takeForm 11 = .ok (.if_icmp .lt 9, 3) := by decide +kernel
theorem dX4_takeForm_14 : decode cX4_takeForm 14 = .ok (.aload_n 0, 1) := by decide +kernel
theorem dX4_takeForm_15 : decode cX4_takeForm 15 = .ok (.iload_n 1, 1) := by decide +kernel
theorem dX4_takeForm_16 : decode cX4_takeForm 16 = .ok (.invokevirtual 82, 3) := by decide +kernel
theorem dX4_takeForm_19 : decode cX4_takeForm 19 = .ok (.return_, 1) := by decide +kernel
theorem dX4_takeForm_20 : decode cX4_takeForm 20 = .ok (.aload_n 0, 1) := by decide +kernel
theorem dX4_takeForm_21 : decode cX4_takeForm 21 = .ok (.dup, 1) := by decide +kernel
theorem dX4_takeForm_22 : decode cX4_takeForm 22 = .ok (.getfield 44, 3) := by decide +kernel
theorem dX4_takeForm_25 : decode cX4_takeForm 25 = .ok (.iconst 1, 1) := by decide +kernel
theorem dX4_takeForm_26 : decode cX4_takeForm 26 = .ok (.iadd, 1) := by decide +kernel
theorem dX4_takeForm_27 : decode cX4_takeForm 27 = .ok (.putfield 44, 3) := by decide +kernel
theorem dX4_takeForm_30 : decode cX4_takeForm 30 = .ok (.aload_n 0, 1) := by decide +kernel
theorem dX4_takeForm_31 : decode cX4_takeForm 31 = .ok (.invokevirtual 135, 3) := by decide +kernel
theorem dX4_takeForm_34 : decode cX4_takeForm 34 = .ok (.istore_n 2, 1) := by decide +kernel
theorem dX4_takeForm_35 : decode cX4_takeForm 35 = .ok (.iload_n 2, 1) := by decide +kernel
theorem dX4_takeForm_36 : decode cX4_takeForm 36 = .ok (.iconst 3, 1) := by decide +kernel
theorem dX4_takeForm_37 : decode cX4_takeForm 37 = .ok (.if_icmp .ne 18, 3) := by decide +kernel
theorem dX4_takeForm_40 : decode cX4_takeForm 40 = .ok (.aload_n 0, 1) := by decide +kernel
theorem dX4_takeForm_41 : decode cX4_takeForm 41 = .ok (.getfield 59, 3) := by decide +kernel
theorem dX4_takeForm_44 : decode cX4_takeForm 44 = .ok (.bipush 50, 2) := by decide +kernel
theorem dX4_takeForm_46 : decode cX4_takeForm 46 = .ok (.if_icmp .lt 9, 3) := by decide +kernel
theorem dX4_takeForm_49 : decode cX4_takeForm 49 = .ok (.aload_n 0, 1) := by decide +kernel
theorem dX4_takeForm_50 : decode cX4_takeForm 50 = .ok (.iload_n 1, 1) := by decide +kernel
theorem dX4_takeForm_51 : decode cX4_takeForm 51 = .ok (.invokevirtual 82, 3) := by decide +kernel
theorem dX4_takeForm_54 : decode cX4_takeForm 54 = .ok (.return_, 1) := by decide +kernel
theorem dX4_takeForm_55 : decode cX4_takeForm 55 = .ok (.aload_n 0, 1) := by decide +kernel
theorem dX4_takeForm_56 : decode cX4_takeForm 56 = .ok (.iload_n 2, 1) := by decide +kernel
theorem dX4_takeForm_57 : decode cX4_takeForm 57 = .ok (.invokevirtual 119, 3) := by decide +kernel
theorem dX4_takeForm_60 : decode cX4_takeForm 60 = .ok (.iload_n 2, 1) := by decide +kernel
theorem dX4_takeForm_61 : decode cX4_takeForm 61 = .ok (.iconst 3, 1) := by decide +kernel
theorem dX4_takeForm_62 : decode cX4_takeForm 62 = .ok (.if_icmp .ne 66, 3) := by decide +kernel
theorem dX4_takeForm_65 : decode cX4_takeForm 65 = .ok (.aload_n 0, 1) := by decide +kernel
theorem dX4_takeForm_66 : decode cX4_takeForm 66 = .ok (.dup, 1) := by decide +kernel
theorem dX4_takeForm_67 : decode cX4_takeForm 67 = .ok (.getfield 59, 3) := by decide +kernel
theorem dX4_takeForm_70 : decode cX4_takeForm 70 = .ok (.iconst 1, 1) := by decide +kernel
theorem dX4_takeForm_71 : decode cX4_takeForm 71 = .ok (.iadd, 1) := by decide +kernel
theorem dX4_takeForm_72 : decode cX4_takeForm 72 = .ok (.putfield 59, 3) := by decide +kernel
theorem dX4_takeForm_75 : decode cX4_takeForm 75 = .ok (.aload_n 0, 1) := by decide +kernel
theorem dX4_takeForm_76 : decode cX4_takeForm 76 = .ok (.invokevirtual 122, 3) := by decide +kernel
theorem dX4_takeForm_79 : decode cX4_takeForm 79 = .ok (.istore_n 3, 1) := by decide +kernel
theorem dX4_takeForm_80 : decode cX4_takeForm 80 = .ok (.aload_n 0, 1) := by decide +kernel
theorem dX4_takeForm_81 : decode cX4_takeForm 81 = .ok (.invokevirtual 122, 3) := by decide +kernel
theorem dX4_takeForm_84 : decode cX4_takeForm 84 = .ok (.istore 4, 2) := by decide +kernel
theorem dX4_takeForm_86 : decode cX4_takeForm 86 = .ok (.aload_n 0, 1) := by decide +kernel
theorem dX4_takeForm_87 : decode cX4_takeForm 87 = .ok (.aload_n 0, 1) := by decide +kernel
theorem dX4_takeForm_88 : decode cX4_takeForm 88 = .ok (.getfield 62, 3) := by decide +kernel
theorem dX4_takeForm_91 : decode cX4_takeForm 91 = .ok (.iconst 1, 1) := by decide +kernel
theorem dX4_takeForm_92 : decode cX4_takeForm 92 = .ok (.isub, 1) := by decide +kernel
theorem dX4_takeForm_93 : decode cX4_takeForm 93 = .ok (.aload_n 0, 1) := by decide +kernel
theorem dX4_takeForm_94 : decode cX4_takeForm 94 = .ok (.getfield 62, 3) := by decide +kernel
theorem dX4_takeForm_97 : decode cX4_takeForm 97 = .ok (.iconst 2, 1) := by decide +kernel
theorem dX4_takeForm_98 : decode cX4_takeForm 98 = .ok (.isub, 1) := by decide +kernel
theorem dX4_takeForm_99 : decode cX4_takeForm 99 = .ok (.invokevirtual 125, 3) := by decide +kernel
theorem dX4_takeForm_102 : decode cX4_takeForm 102 = .ok (.aload_n 0, 1) := by decide +kernel
theorem dX4_takeForm_103 : decode cX4_takeForm 103 = .ok (.iload_n 3, 1) := by decide +kernel
theorem dX4_takeForm_104 : decode cX4_takeForm 104 = .ok (.aload_n 0, 1) := by decide +kernel
theorem dX4_takeForm_105 : decode cX4_takeForm 105 = .ok (.getfield 62, 3) := by decide +kernel
theorem dX4_takeForm_108 : decode cX4_takeForm 108 = .ok (.iconst 2, 1) := by decide +kernel
theorem dX4_takeForm_109 : decode cX4_takeForm 109 = .ok (.isub, 1) := by decide +kernel
theorem dX4_takeForm_110 : decode cX4_takeForm 110 = .ok (.invokevirtual 132, 3) := by decide +kernel
theorem dX4_takeForm_113 : decode cX4_takeForm 113 = .ok (.aload_n 0, 1) := by decide +kernel
theorem dX4_takeForm_114 : decode cX4_takeForm 114 = .ok (.iload 4, 2) := by decide +kernel
theorem dX4_takeForm_116 : decode cX4_takeForm 116 = .ok (.aload_n 0, 1) := by decide +kernel
theorem dX4_takeForm_117 : decode cX4_takeForm 117 = .ok (.getfield 62, 3) := by decide +kernel
theorem dX4_takeForm_120 : decode cX4_takeForm 120 = .ok (.iconst 1, 1) := by decide +kernel
theorem dX4_takeForm_121 : decode cX4_takeForm 121 = .ok (.isub, 1) := by decide +kernel
theorem dX4_takeForm_122 : decode cX4_takeForm 122 = .ok (.invokevirtual 132, 3) := by decide +kernel
theorem dX4_takeForm_125 : decode cX4_takeForm 125 = .ok (.goto 27, 3) := by decide +kernel
theorem dX4_takeForm_128 : decode cX4_takeForm 128 = .ok (.iload_n 2, 1) := by decide +kernel
theorem dX4_takeForm_129 : decode cX4_takeForm 129 = .ok (.iconst 5, 1) := by decide +kernel
theorem dX4_takeForm_130 : decode cX4_takeForm 130 = .ok (.if_icmp .ne 22, 3) := by decide +kernel
theorem dX4_takeForm_133 : decode cX4_takeForm 133 = .ok (.aload_n 0, 1) := by decide +kernel
theorem dX4_takeForm_134 : decode cX4_takeForm 134 = .ok (.aload_n 0, 1) := by decide +kernel
theorem dX4_takeForm_135 : decode cX4_takeForm 135 = .ok (.invokevirtual 122, 3) := by decide +kernel
theorem dX4_takeForm_138 : decode cX4_takeForm 138 = .ok (.invokevirtual 138, 3) := by decide +kernel
theorem dX4_takeForm_141 : decode cX4_takeForm 141 = .ok (.aload_n 0, 1) := by decide +kernel
theorem dX4_takeForm_142 : decode cX4_takeForm 142 = .ok (.aload_n 0, 1) := by decide +kernel
theorem dX4_takeForm_143 : decode cX4_takeForm 143 = .ok (.getfield 62, 3) := by decide +kernel
theorem dX4_takeForm_146 : decode cX4_takeForm 146 = .ok (.iconst 1, 1) := by decide +kernel
theorem dX4_takeForm_147 : decode cX4_takeForm 147 = .ok (.isub, 1) := by decide +kernel
theorem dX4_takeForm_148 : decode cX4_takeForm 148 = .ok (.iconst (-1), 1) := by decide +kernel
theorem dX4_takeForm_149 : decode cX4_takeForm 149 = .ok (.invokevirtual 125, 3) := by decide +kernel
theorem dX4_takeForm_152 : decode cX4_takeForm 152 = .ok (.return_, 1) := by decide +kernel
theorem dX4_nameLet_0 : decode cX4_nameLet 0 = .ok (.aload_n 0, 1) := by decide +kernel
theorem dX4_nameLet_1 : decode cX4_nameLet 1 = .ok (.getfield 68, 3) := by decide +kernel
theorem dX4_nameLet_4 : decode cX4_nameLet 4 = .ok (.ifCond .le 15, 3) := by decide +kernel
theorem dX4_nameLet_7 : decode cX4_nameLet 7 = .ok (.aload_n 0, 1) := by decide +kernel
theorem dX4_nameLet_8 : decode cX4_nameLet 8 = .ok (.getfield 27, 3) := by decide +kernel
theorem dX4_nameLet_11 : decode cX4_nameLet 11 = .ok (.aload_n 0, 1) := by decide +kernel
theorem dX4_nameLet_12 : decode cX4_nameLet 12 = .ok (.getfield 68, 3) := by decide +kernel
theorem dX4_nameLet_15 : decode cX4_nameLet 15 = .ok (.iconst 1, 1) := by decide +kernel
theorem dX4_nameLet_16 : decode cX4_nameLet 16 = .ok (.isub, 1) := by decide +kernel
theorem dX4_nameLet_17 : decode cX4_nameLet 17 = .ok (.iload_n 1, 1) := by decide +kernel
theorem dX4_nameLet_18 : decode cX4_nameLet 18 = .ok (.iastore, 1) := by decide +kernel
theorem dX4_nameLet_19 : decode cX4_nameLet 19 = .ok (.return_, 1) := by decide +kernel
theorem dX4_takeFormKind_0 : decode cX4_takeFormKind 0 = .ok (.aload_n 0, 1) := by decide +kernel
theorem dX4_takeFormKind_1 : decode cX4_takeFormKind 1 = .ok (.invokevirtual 78, 3) := by decide +kernel
theorem dX4_takeFormKind_4 : decode cX4_takeFormKind 4 = .ok (.istore_n 1, 1) := by decide +kernel
theorem dX4_takeFormKind_5 : decode cX4_takeFormKind 5 = .ok (.iconst 0, 1) := by decide +kernel
theorem dX4_takeFormKind_6 : decode cX4_takeFormKind 6 = .ok (.istore_n 2, 1) := by decide +kernel
theorem dX4_takeFormKind_7 : decode cX4_takeFormKind 7 = .ok (.iload_n 2, 1) := by decide +kernel
theorem dX4_takeFormKind_8 : decode cX4_takeFormKind 8 = .ok (.getstatic 141, 3) := by decide +kernel
theorem dX4_takeFormKind_11 : decode cX4_takeFormKind 11 = .ok (.arraylength, 1) := by decide +kernel
theorem dX4_takeFormKind_12 : decode cX4_takeFormKind 12 = .ok (.if_icmp .ge 65, 3) := by decide +kernel
theorem dX4_takeFormKind_15 : decode cX4_takeFormKind 15 = .ok (.iload_n 1, 1) := by decide +kernel
theorem dX4_takeFormKind_16 : decode cX4_takeFormKind 16 = .ok (.bipush 45, 2) := by decide +kernel
theorem dX4_takeFormKind_18 : decode cX4_takeFormKind 18 = .ok (.if_icmp .ne 23, 3) := by decide +kernel
theorem dX4_takeFormKind_21 : decode cX4_takeFormKind 21 = .ok (.aload_n 0, 1) := by decide +kernel
theorem dX4_takeFormKind_22 : decode cX4_takeFormKind 22 = .ok (.aload_n 0, 1) := by decide +kernel
theorem dX4_takeFormKind_23 : decode cX4_takeFormKind 23 = .ok (.getfield 44, 3) := by decide +kernel
theorem dX4_takeFormKind_26 : decode cX4_takeFormKind 26 = .ok (.iconst 1, 1) := by decide +kernel
theorem dX4_takeFormKind_27 : decode cX4_takeFormKind 27 = .ok (.iadd, 1) := by decide +kernel
theorem dX4_takeFormKind_28 : decode cX4_takeFormKind 28 = .ok (.invokevirtual 86, 3) := by decide +kernel
theorem dX4_takeFormKind_31 : decode cX4_takeFormKind 31 = .ok (.invokestatic 97, 3) := by decide +kernel
theorem dX4_takeFormKind_34 : decode cX4_takeFormKind 34 = .ok (.ifCond .eq 7, 3) := by decide +kernel
theorem dX4_takeFormKind_37 : decode cX4_takeFormKind 37 = .ok (.iconst 1, 1) := by decide +kernel
theorem dX4_takeFormKind_38 : decode cX4_takeFormKind 38 = .ok (.goto 4, 3) := by decide +kernel
theorem dX4_takeFormKind_41 : decode cX4_takeFormKind 41 = .ok (.iconst 0, 1) := by decide +kernel
theorem dX4_takeFormKind_42 : decode cX4_takeFormKind 42 = .ok (.istore_n 3, 1) := by decide +kernel
theorem dX4_takeFormKind_43 : decode cX4_takeFormKind 43 = .ok (.iload_n 1, 1) := by decide +kernel
theorem dX4_takeFormKind_44 : decode cX4_takeFormKind 44 = .ok (.getstatic 141, 3) := by decide +kernel
theorem dX4_takeFormKind_47 : decode cX4_takeFormKind 47 = .ok (.iload_n 2, 1) := by decide +kernel
theorem dX4_takeFormKind_48 : decode cX4_takeFormKind 48 = .ok (.iaload, 1) := by decide +kernel
theorem dX4_takeFormKind_49 : decode cX4_takeFormKind 49 = .ok (.if_icmp .ne 22, 3) := by decide +kernel
theorem dX4_takeFormKind_52 : decode cX4_takeFormKind 52 = .ok (.iload_n 3, 1) := by decide +kernel
theorem dX4_takeFormKind_53 : decode cX4_takeFormKind 53 = .ok (.ifCond .ne 18, 3) := by decide +kernel
theorem dX4_takeFormKind_56 : decode cX4_takeFormKind 56 = .ok (.aload_n 0, 1) := by decide +kernel
theorem dX4_takeFormKind_57 : decode cX4_takeFormKind 57 = .ok (.dup, 1) := by decide +kernel
theorem dX4_takeFormKind_58 : decode cX4_takeFormKind 58 = .ok (.getfield 44, 3) := by decide +kernel
theorem dX4_takeFormKind_61 : decode cX4_takeFormKind 61 = .ok (.iconst 1, 1) := by decide +kernel
theorem dX4_takeFormKind_62 : decode cX4_takeFormKind 62 = .ok (.iadd, 1) := by decide +kernel
theorem dX4_takeFormKind_63 : decode cX4_takeFormKind 63 = .ok (.putfield 44, 3) := by decide +kernel
theorem dX4_takeFormKind_66 : decode cX4_takeFormKind 66 = .ok (.bipush 6, 2) := by decide +kernel
theorem dX4_takeFormKind_68 : decode cX4_takeFormKind 68 = .ok (.iload_n 2, 1) := by decide +kernel
theorem dX4_takeFormKind_69 : decode cX4_takeFormKind 69 = .ok (.iadd, 1) := by decide +kernel
theorem dX4_takeFormKind_70 : decode cX4_takeFormKind 70 = .ok (.ireturn, 1) := by decide +kernel
theorem dX4_takeFormKind_71 : decode cX4_takeFormKind 71 = .ok (.iinc 2 1, 3) := by decide +kernel
theorem dX4_takeFormKind_74 : decode cX4_takeFormKind 74 = .ok (.goto (-67), 3) := by decide +kernel
theorem dX4_takeFormKind_77 : decode cX4_takeFormKind 77 = .ok (.aload_n 0, 1) := by decide +kernel
theorem dX4_takeFormKind_78 : decode cX4_takeFormKind 78 = .ok (.invokevirtual 144, 3) := by decide +kernel
theorem dX4_takeFormKind_81 : decode cX4_takeFormKind 81 = .ok (.istore_n 2, 1) := by decide +kernel
theorem dX4_takeFormKind_82 : decode cX4_takeFormKind 82 = .ok (.aload_n 0, 1) := by decide +kernel
theorem dX4_takeFormKind_83 : decode cX4_takeFormKind 83 = .ok (.iload_n 2, 1) := by decide +kernel
theorem dX4_takeFormKind_84 : decode cX4_takeFormKind 84 = .ok (.ldc 147, 2) := by decide +kernel
theorem dX4_takeFormKind_86 : decode cX4_takeFormKind 86 = .ok (.invokevirtual 149, 3) := by decide +kernel
theorem dX4_takeFormKind_89 : decode cX4_takeFormKind 89 = .ok (.ifCond .eq 7, 3) := by decide +kernel
theorem dX4_takeFormKind_92 : decode cX4_takeFormKind 92 = .ok (.iconst 4, 1) := by decide +kernel
theorem dX4_takeFormKind_93 : decode cX4_takeFormKind 93 = .ok (.goto 33, 3) := by decide +kernel
theorem dX4_takeFormKind_96 : decode cX4_takeFormKind 96 = .ok (.aload_n 0, 1) := by decide +kernel
theorem dX4_takeFormKind_97 : decode cX4_takeFormKind 97 = .ok (.iload_n 2, 1) := by decide +kernel
theorem dX4_takeFormKind_98 : decode cX4_takeFormKind 98 = .ok (.ldc 153, 2) := by decide +kernel
theorem dX4_takeFormKind_100 : decode cX4_takeFormKind 100 = .ok (.invokevirtual 149, 3) := by decide +kernel
theorem dX4_takeFormKind_103 : decode cX4_takeFormKind 103 = .ok (.ifCond .eq 7, 3) := by decide +kernel
theorem dX4_takeFormKind_106 : decode cX4_takeFormKind 106 = .ok (.iconst 5, 1) := by decide +kernel
theorem dX4_takeFormKind_107 : decode cX4_takeFormKind 107 = .ok (.goto 19, 3) := by decide +kernel
theorem dX4_takeFormKind_110 : decode cX4_takeFormKind 110 = .ok (.aload_n 0, 1) := by decide +kernel
theorem dX4_takeFormKind_111 : decode cX4_takeFormKind 111 = .ok (.iload_n 2, 1) := by decide +kernel
theorem dX4_takeFormKind_112 : decode cX4_takeFormKind 112 = .ok (.ldc 155, 2) := by decide +kernel
theorem dX4_takeFormKind_114 : decode cX4_takeFormKind 114 = .ok (.invokevirtual 149, 3) := by decide +kernel
theorem dX4_takeFormKind_117 : decode cX4_takeFormKind 117 = .ok (.ifCond .eq 7, 3) := by decide +kernel
theorem dX4_takeFormKind_120 : decode cX4_takeFormKind 120 = .ok (.iconst 3, 1) := by decide +kernel
theorem dX4_takeFormKind_121 : decode cX4_takeFormKind 121 = .ok (.goto 5, 3) := by decide +kernel
theorem dX4_takeFormKind_124 : decode cX4_takeFormKind 124 = .ok (.bipush 11, 2) := by decide +kernel
theorem dX4_takeFormKind_126 : decode cX4_takeFormKind 126 = .ok (.istore_n 3, 1) := by decide +kernel
theorem dX4_takeFormKind_127 : decode cX4_takeFormKind 127 = .ok (.aload_n 0, 1) := by decide +kernel
theorem dX4_takeFormKind_128 : decode cX4_takeFormKind 128 = .ok (.iload_n 3, 1) := by decide +kernel
theorem dX4_takeFormKind_129 : decode cX4_takeFormKind 129 = .ok (.bipush 11, 2) := by decide +kernel
theorem dX4_takeFormKind_131 : decode cX4_takeFormKind 131 = .ok (.if_icmp .ne 10, 3) := by decide +kernel
theorem dX4_takeFormKind_134 : decode cX4_takeFormKind 134 = .ok (.aload_n 0, 1) := by decide +kernel
theorem dX4_takeFormKind_135 : decode cX4_takeFormKind 135 = .ok (.getfield 44, 3) := by decide +kernel
theorem dX4_takeFormKind_138 : decode cX4_takeFormKind 138 = .ok (.goto 4, 3) := by decide +kernel
theorem dX4_takeFormKind_141 : decode cX4_takeFormKind 141 = .ok (.iload_n 2, 1) := by decide +kernel
theorem dX4_takeFormKind_142 : decode cX4_takeFormKind 142 = .ok (.putfield 44, 3) := by decide +kernel
theorem dX4_takeFormKind_145 : decode cX4_takeFormKind 145 = .ok (.iload_n 3, 1) := by decide +kernel
theorem dX4_takeFormKind_146 : decode cX4_takeFormKind 146 = .ok (.ireturn, 1) := by decide +kernel
theorem dX4_isWord_0 : decode cX4_isWord 0 = .ok (.iload_n 1, 1) := by decide +kernel
theorem dX4_isWord_1 : decode cX4_isWord 1 = .ok (.aload_n 0, 1) := by decide +kernel
theorem dX4_isWord_2 : decode cX4_isWord 2 = .ok (.getfield 44, 3) := by decide +kernel
theorem dX4_isWord_5 : decode cX4_isWord 5 = .ok (.isub, 1) := by decide +kernel
theorem dX4_isWord_6 : decode cX4_isWord 6 = .ok (.aload_n 2, 1) := by decide +kernel
theorem dX4_isWord_7 : decode cX4_isWord 7 = .ok (.invokevirtual 157, 3) := by decide +kernel
theorem dX4_isWord_10 : decode cX4_isWord 10 = .ok (.if_icmp .ne 7, 3) := by decide +kernel
theorem dX4_isWord_13 : decode cX4_isWord 13 = .ok (.iconst 1, 1) := by decide +kernel
theorem dX4_isWord_14 : decode cX4_isWord 14 = .ok (.goto 4, 3) := by decide +kernel
theorem dX4_isWord_17 : decode cX4_isWord 17 = .ok (.iconst 0, 1) := by decide +kernel
theorem dX4_isWord_18 : decode cX4_isWord 18 = .ok (.istore_n 3, 1) := by decide +kernel
theorem dX4_isWord_19 : decode cX4_isWord 19 = .ok (.iconst 0, 1) := by decide +kernel
theorem dX4_isWord_20 : decode cX4_isWord 20 = .ok (.istore 4, 2) := by decide +kernel
theorem dX4_isWord_22 : decode cX4_isWord 22 = .ok (.iload 4, 2) := by decide +kernel
theorem dX4_isWord_24 : decode cX4_isWord 24 = .ok (.aload_n 2, 1) := by decide +kernel
theorem dX4_isWord_25 : decode cX4_isWord 25 = .ok (.invokevirtual 157, 3) := by decide +kernel
theorem dX4_isWord_28 : decode cX4_isWord 28 = .ok (.if_icmp .ge 39, 3) := by decide +kernel
theorem dX4_isWord_31 : decode cX4_isWord 31 = .ok (.iload_n 3, 1) := by decide +kernel
theorem dX4_isWord_32 : decode cX4_isWord 32 = .ok (.ifCond .eq 35, 3) := by decide +kernel
theorem dX4_isWord_35 : decode cX4_isWord 35 = .ok (.aload_n 0, 1) := by decide +kernel
theorem dX4_isWord_36 : decode cX4_isWord 36 = .ok (.aload_n 0, 1) := by decide +kernel
theorem dX4_isWord_37 : decode cX4_isWord 37 = .ok (.getfield 44, 3) := by decide +kernel
theorem dX4_isWord_40 : decode cX4_isWord 40 = .ok (.iload 4, 2) := by decide +kernel
theorem dX4_isWord_42 : decode cX4_isWord 42 = .ok (.iadd, 1) := by decide +kernel
theorem dX4_isWord_43 : decode cX4_isWord 43 = .ok (.invokevirtual 86, 3) := by decide +kernel
theorem dX4_isWord_46 : decode cX4_isWord 46 = .ok (.aload_n 2, 1) := by decide +kernel
theorem dX4_isWord_47 : decode cX4_isWord 47 = .ok (.iload 4, 2) := by decide +kernel
theorem dX4_isWord_49 : decode cX4_isWord 49 = .ok (.invokevirtual 162, 3) := by decide +kernel
theorem dX4_isWord_52 : decode cX4_isWord 52 = .ok (.if_icmp .ne 7, 3) := by decide +kernel
theorem dX4_isWord_55 : decode cX4_isWord 55 = .ok (.iconst 1, 1) := by decide +kernel
theorem dX4_isWord_56 : decode cX4_isWord 56 = .ok (.goto 4, 3) := by decide +kernel
theorem dX4_isWord_59 : decode cX4_isWord 59 = .ok (.iconst 0, 1) := by decide +kernel
theorem dX4_isWord_60 : decode cX4_isWord 60 = .ok (.istore_n 3, 1) := by decide +kernel
theorem dX4_isWord_61 : decode cX4_isWord 61 = .ok (.iinc 4 1, 3) := by decide +kernel
theorem dX4_isWord_64 : decode cX4_isWord 64 = .ok (.goto (-42), 3) := by decide +kernel
theorem dX4_isWord_67 : decode cX4_isWord 67 = .ok (.iload_n 3, 1) := by decide +kernel
theorem dX4_isWord_68 : decode cX4_isWord 68 = .ok (.ireturn, 1) := by decide +kernel
theorem dX4_wordEnd_0 : decode cX4_wordEnd 0 = .ok (.aload_n 0, 1) := by decide +kernel
theorem dX4_wordEnd_1 : decode cX4_wordEnd 1 = .ok (.getfield 44, 3) := by decide +kernel
theorem dX4_wordEnd_4 : decode cX4_wordEnd 4 = .ok (.istore_n 1, 1) := by decide +kernel
theorem dX4_wordEnd_5 : decode cX4_wordEnd 5 = .ok (.iload_n 1, 1) := by decide +kernel
theorem dX4_wordEnd_6 : decode cX4_wordEnd 6 = .ok (.aload_n 0, 1) := by decide +kernel
theorem dX4_wordEnd_7 : decode cX4_wordEnd 7 = .ok (.getfield 40, 3) := by decide +kernel
theorem dX4_wordEnd_10 : decode cX4_wordEnd 10 = .ok (.if_icmp .ge 39, 3) := by decide +kernel
theorem dX4_wordEnd_13 : decode cX4_wordEnd 13 = .ok (.aload_n 0, 1) := by decide +kernel
theorem dX4_wordEnd_14 : decode cX4_wordEnd 14 = .ok (.iload_n 1, 1) := by decide +kernel
theorem dX4_wordEnd_15 : decode cX4_wordEnd 15 = .ok (.invokevirtual 86, 3) := by decide +kernel
theorem dX4_wordEnd_18 : decode cX4_wordEnd 18 = .ok (.invokestatic 90, 3) := by decide +kernel
theorem dX4_wordEnd_21 : decode cX4_wordEnd 21 = .ok (.ifCond .ne 22, 3) := by decide +kernel
theorem dX4_wordEnd_24 : decode cX4_wordEnd 24 = .ok (.iload_n 1, 1) := by decide +kernel
theorem dX4_wordEnd_25 : decode cX4_wordEnd 25 = .ok (.aload_n 0, 1) := by decide +kernel
theorem dX4_wordEnd_26 : decode cX4_wordEnd 26 = .ok (.getfield 44, 3) := by decide +kernel
theorem dX4_wordEnd_29 : decode cX4_wordEnd 29 = .ok (.if_icmp .le 20, 3) := by decide +kernel
theorem dX4_wordEnd_32 : decode cX4_wordEnd 32 = .ok (.aload_n 0, 1) := by decide +kernel
theorem dX4_wordEnd_33 : decode cX4_wordEnd 33 = .ok (.iload_n 1, 1) := by decide +kernel
theorem dX4_wordEnd_34 : decode cX4_wordEnd 34 = .ok (.invokevirtual 86, 3) := by decide +kernel
theorem dX4_wordEnd_37 : decode cX4_wordEnd 37 = .ok (.invokestatic 97, 3) := by decide +kernel
theorem dX4_wordEnd_40 : decode cX4_wordEnd 40 = .ok (.ifCond .eq 9, 3) := by decide +kernel
theorem dX4_wordEnd_43 : decode cX4_wordEnd 43 = .ok (.iinc 1 1, 3) := by decide +kernel
theorem dX4_wordEnd_46 : decode cX4_wordEnd 46 = .ok (.goto (-41), 3) := by decide +kernel
theorem dX4_wordEnd_49 : decode cX4_wordEnd 49 = .ok (.iload_n 1, 1) := by decide +kernel
theorem dX4_wordEnd_50 : decode cX4_wordEnd 50 = .ok (.ireturn, 1) := by decide +kernel
theorem dX4_takeName_0 : decode cX4_takeName 0 = .ok (.aload_n 0, 1) := by decide +kernel
theorem dX4_takeName_1 : decode cX4_takeName 1 = .ok (.invokevirtual 78, 3) := by decide +kernel
theorem dX4_takeName_4 : decode cX4_takeName 4 = .ok (.pop, 1) := by decide +kernel
theorem dX4_takeName_5 : decode cX4_takeName 5 = .ok (.aload_n 0, 1) := by decide +kernel
theorem dX4_takeName_6 : decode cX4_takeName 6 = .ok (.invokevirtual 144, 3) := by decide +kernel
theorem dX4_takeName_9 : decode cX4_takeName 9 = .ok (.istore_n 1, 1) := by decide +kernel
theorem dX4_takeName_10 : decode cX4_takeName 10 = .ok (.iload_n 1, 1) := by decide +kernel
theorem dX4_takeName_11 : decode cX4_takeName 11 = .ok (.aload_n 0, 1) := by decide +kernel
theorem dX4_takeName_12 : decode cX4_takeName 12 = .ok (.getfield 44, 3) := by decide +kernel
theorem dX4_takeName_15 : decode cX4_takeName 15 = .ok (.if_icmp .eq 13, 3) := by decide +kernel
theorem dX4_takeName_18 : decode cX4_takeName 18 = .ok (.iload_n 1, 1) := by decide +kernel
theorem dX4_takeName_19 : decode cX4_takeName 19 = .ok (.aload_n 0, 1) := by decide +kernel
theorem dX4_takeName_20 : decode cX4_takeName 20 = .ok (.getfield 44, 3) := by decide +kernel
theorem dX4_takeName_23 : decode cX4_takeName 23 = .ok (.isub, 1) := by decide +kernel
theorem dX4_takeName_24 : decode cX4_takeName 24 = .ok (.iconst 4, 1) := by decide +kernel
theorem dX4_takeName_25 : decode cX4_takeName 25 = .ok (.if_icmp .le 13, 3) := by decide +kernel
theorem dX4_takeName_28 : decode cX4_takeName 28 = .ok (.aload_n 0, 1) := by decide +kernel
theorem dX4_takeName_29 : decode cX4_takeName 29 = .ok (.aload_n 0, 1) := by decide +kernel
theorem dX4_takeName_30 : decode cX4_takeName 30 = .ok (.getfield 44, 3) := by decide +kernel
theorem dX4_takeName_33 : decode cX4_takeName 33 = .ok (.invokevirtual 82, 3) := by decide +kernel
theorem dX4_takeName_36 : decode cX4_takeName 36 = .ok (.iconst (-1), 1) := by decide +kernel
theorem dX4_takeName_37 : decode cX4_takeName 37 = .ok (.ireturn, 1) := by decide +kernel
theorem dX4_takeName_38 : decode cX4_takeName 38 = .ok (.aload_n 0, 1) := by decide +kernel
theorem dX4_takeName_39 : decode cX4_takeName 39 = .ok (.aload_n 0, 1) := by decide +kernel
theorem dX4_takeName_40 : decode cX4_takeName 40 = .ok (.getfield 44, 3) := by decide +kernel
theorem dX4_takeName_43 : decode cX4_takeName 43 = .ok (.invokevirtual 86, 3) := by decide +kernel
theorem dX4_takeName_46 : decode cX4_takeName 46 = .ok (.istore_n 2, 1) := by decide +kernel
theorem dX4_takeName_47 : decode cX4_takeName 47 = .ok (.aload_n 0, 1) := by decide +kernel
theorem dX4_takeName_48 : decode cX4_takeName 48 = .ok (.getfield 44, 3) := by decide +kernel
theorem dX4_takeName_51 : decode cX4_takeName 51 = .ok (.iconst 1, 1) := by decide +kernel
theorem dX4_takeName_52 : decode cX4_takeName 52 = .ok (.iadd, 1) := by decide +kernel
theorem dX4_takeName_53 : decode cX4_takeName 53 = .ok (.istore_n 3, 1) := by decide +kernel
theorem dX4_takeName_54 : decode cX4_takeName 54 = .ok (.iload_n 3, 1) := by decide +kernel
theorem dX4_takeName_55 : decode cX4_takeName 55 = .ok (.iload_n 1, 1) := by decide +kernel
theorem dX4_takeName_56 : decode cX4_takeName 56 = .ok (.if_icmp .ge 44, 3) := by decide +kernel
theorem dX4_takeName_59 : decode cX4_takeName 59 = .ok (.aload_n 0, 1) := by decide +kernel
theorem dX4_takeName_60 : decode cX4_takeName 60 = .ok (.iload_n 3, 1) := by decide +kernel
theorem dX4_takeName_61 : decode cX4_takeName 61 = .ok (.invokevirtual 86, 3) := by decide +kernel
theorem dX4_takeName_64 : decode cX4_takeName 64 = .ok (.invokestatic 97, 3) := by decide +kernel
theorem dX4_takeName_67 : decode cX4_takeName 67 = .ok (.ifCond .ne 13, 3) := by decide +kernel
theorem dX4_takeName_70 : decode cX4_takeName 70 = .ok (.aload_n 0, 1) := by decide +kernel
theorem dX4_takeName_71 : decode cX4_takeName 71 = .ok (.aload_n 0, 1) := by decide +kernel
theorem dX4_takeName_72 : decode cX4_takeName 72 = .ok (.getfield 44, 3) := by decide +kernel
theorem dX4_takeName_75 : decode cX4_takeName 75 = .ok (.invokevirtual 82, 3) := by decide +kernel
theorem dX4_takeName_78 : decode cX4_takeName 78 = .ok (.iconst (-1), 1) := by decide +kernel
theorem dX4_takeName_79 : decode cX4_takeName 79 = .ok (.ireturn, 1) := by decide +kernel
theorem dX4_takeName_80 : decode cX4_takeName 80 = .ok (.iload_n 2, 1) := by decide +kernel
theorem dX4_takeName_81 : decode cX4_takeName 81 = .ok (.bipush 10, 2) := by decide +kernel
theorem dX4_takeName_83 : decode cX4_takeName 83 = .ok (.imul, 1) := by decide +kernel
theorem dX4_takeName_84 : decode cX4_takeName 84 = .ok (.aload_n 0, 1) := by decide +kernel
theorem dX4_takeName_85 : decode cX4_takeName 85 = .ok (.iload_n 3, 1) := by decide +kernel
theorem dX4_takeName_86 : decode cX4_takeName 86 = .ok (.invokevirtual 86, 3) := by decide +kernel
theorem dX4_takeName_89 : decode cX4_takeName 89 = .ok (.iadd, 1) := by decide +kernel
theorem dX4_takeName_90 : decode cX4_takeName 90 = .ok (.bipush 48, 2) := by decide +kernel
theorem dX4_takeName_92 : decode cX4_takeName 92 = .ok (.isub, 1) := by decide +kernel
theorem dX4_takeName_93 : decode cX4_takeName 93 = .ok (.istore_n 2, 1) := by decide +kernel
theorem dX4_takeName_94 : decode cX4_takeName 94 = .ok (.iinc 3 1, 3) := by decide +kernel
theorem dX4_takeName_97 : decode cX4_takeName 97 = .ok (.goto (-43), 3) := by decide +kernel
theorem dX4_takeName_100 : decode cX4_takeName 100 = .ok (.aload_n 0, 1) := by decide +kernel
theorem dX4_takeName_101 : decode cX4_takeName 101 = .ok (.iload_n 1, 1) := by decide +kernel
theorem dX4_takeName_102 : decode cX4_takeName 102 = .ok (.putfield 44, 3) := by decide +kernel
theorem dX4_takeName_105 : decode cX4_takeName 105 = .ok (.iload_n 2, 1) := by decide +kernel
theorem dX4_takeName_106 : decode cX4_takeName 106 = .ok (.ireturn, 1) := by decide +kernel
theorem dX4_takeBinding_0 : decode cX4_takeBinding 0 = .ok (.aload_n 0, 1) := by decide +kernel
theorem dX4_takeBinding_1 : decode cX4_takeBinding 1 = .ok (.invokevirtual 78, 3) := by decide +kernel
theorem dX4_takeBinding_4 : decode cX4_takeBinding 4 = .ok (.pop, 1) := by decide +kernel
theorem dX4_takeBinding_5 : decode cX4_takeBinding 5 = .ok (.aload_n 0, 1) := by decide +kernel
theorem dX4_takeBinding_6 : decode cX4_takeBinding 6 = .ok (.getfield 62, 3) := by decide +kernel
theorem dX4_takeBinding_9 : decode cX4_takeBinding 9 = .ok (.bipush 100, 2) := by decide +kernel
theorem dX4_takeBinding_11 : decode cX4_takeBinding 11 = .ok (.if_icmp .lt 13, 3) := by decide +kernel
theorem dX4_takeBinding_14 : decode cX4_takeBinding 14 = .ok (.aload_n 0, 1) := by decide +kernel
theorem dX4_takeBinding_15 : decode cX4_takeBinding 15 = .ok (.aload_n 0, 1) := by decide +kernel
theorem dX4_takeBinding_16 : decode cX4_takeBinding 16 = .ok (.getfield 44, 3) := by decide +kernel
theorem dX4_takeBinding_19 : decode cX4_takeBinding 19 = .ok (.invokevirtual 82, 3) := by decide +kernel
theorem dX4_takeBinding_22 : decode cX4_takeBinding 22 = .ok (.iconst (-1), 1) := by decide +kernel
theorem dX4_takeBinding_23 : decode cX4_takeBinding 23 = .ok (.ireturn, 1) := by decide +kernel
theorem dX4_takeBinding_24 : decode cX4_takeBinding 24 = .ok (.aload_n 0, 1) := by decide +kernel
theorem dX4_takeBinding_25 : decode cX4_takeBinding 25 = .ok (.dup, 1) := by decide +kernel
theorem dX4_takeBinding_26 : decode cX4_takeBinding 26 = .ok (.getfield 62, 3) := by decide +kernel
theorem dX4_takeBinding_29 : decode cX4_takeBinding 29 = .ok (.iconst 1, 1) := by decide +kernel
theorem dX4_takeBinding_30 : decode cX4_takeBinding 30 = .ok (.iadd, 1) := by decide +kernel
theorem dX4_takeBinding_31 : decode cX4_takeBinding 31 = .ok (.putfield 62, 3) := by decide +kernel
theorem dX4_takeBinding_34 : decode cX4_takeBinding 34 = .ok (.aload_n 0, 1) := by decide +kernel
theorem dX4_takeBinding_35 : decode cX4_takeBinding 35 = .ok (.invokevirtual 109, 3) := by decide +kernel
theorem dX4_takeBinding_38 : decode cX4_takeBinding 38 = .ok (.ireturn, 1) := by decide +kernel
theorem dX4_expect_0 : decode cX4_expect 0 = .ok (.aload_n 0, 1) := by decide +kernel
theorem dX4_expect_1 : decode cX4_expect 1 = .ok (.invokevirtual 78, 3) := by decide +kernel
theorem dX4_expect_4 : decode cX4_expect 4 = .ok (.iload_n 1, 1) := by decide +kernel
theorem dX4_expect_5 : decode cX4_expect 5 = .ok (.if_icmp .ne 16, 3) := by decide +kernel
theorem dX4_expect_8 : decode cX4_expect 8 = .ok (.aload_n 0, 1) := by decide +kernel
theorem dX4_expect_9 : decode cX4_expect 9 = .ok (.dup, 1) := by decide +kernel
theorem dX4_expect_10 : decode cX4_expect 10 = .ok (.getfield 44, 3) := by decide +kernel
theorem dX4_expect_13 : decode cX4_expect 13 = .ok (.iconst 1, 1) := by decide +kernel
theorem dX4_expect_14 : decode cX4_expect 14 = .ok (.iadd, 1) := by decide +kernel
theorem dX4_expect_15 : decode cX4_expect 15 = .ok (.putfield 44, 3) := by decide +kernel
theorem dX4_expect_18 : decode cX4_expect 18 = .ok (.goto 11, 3) := by decide +kernel
theorem dX4_expect_21 : decode cX4_expect 21 = .ok (.aload_n 0, 1) := by decide +kernel
theorem dX4_expect_22 : decode cX4_expect 22 = .ok (.aload_n 0, 1) := by decide +kernel
theorem dX4_expect_23 : decode cX4_expect 23 = .ok (.getfield 44, 3) := by decide +kernel
theorem dX4_expect_26 : decode cX4_expect 26 = .ok (.invokevirtual 82, 3) := by decide +kernel
theorem dX4_expect_29 : decode cX4_expect 29 = .ok (.return_, 1) := by decide +kernel
theorem dX4_open_0 : decode cX4_open 0 = .ok (.aload_n 0, 1) := by decide +kernel
theorem dX4_open_1 : decode cX4_open 1 = .ok (.getfield 50, 3) := by decide +kernel
theorem dX4_open_4 : decode cX4_open 4 = .ok (.iload_n 1, 1) := by decide +kernel
theorem dX4_open_5 : decode cX4_open 5 = .ok (.iconst (-1), 1) := by decide +kernel
theorem dX4_open_6 : decode cX4_open 6 = .ok (.iconst (-1), 1) := by decide +kernel
theorem dX4_open_7 : decode cX4_open 7 = .ok (.invokevirtual 115, 3) := by decide +kernel
theorem dX4_open_10 : decode cX4_open 10 = .ok (.istore_n 2, 1) := by decide +kernel
theorem dX4_open_11 : decode cX4_open 11 = .ok (.iload_n 2, 1) := by decide +kernel
theorem dX4_open_12 : decode cX4_open 12 = .ok (.iconst (-1), 1) := by decide +kernel
theorem dX4_open_13 : decode cX4_open 13 = .ok (.if_icmp .eq 12, 3) := by decide +kernel
theorem dX4_open_16 : decode cX4_open 16 = .ok (.aload_n 0, 1) := by decide +kernel
theorem dX4_open_17 : decode cX4_open 17 = .ok (.getfield 68, 3) := by decide +kernel
theorem dX4_open_20 : decode cX4_open 20 = .ok (.bipush 40, 2) := by decide +kernel
theorem dX4_open_22 : decode cX4_open 22 = .ok (.if_icmp .lt 4, 3) := by decide +kernel
theorem dX4_open_25 : decode cX4_open 25 = .ok (.return_, 1) := by decide +kernel
theorem dX4_open_26 : decode cX4_open 26 = .ok (.aload_n 0, 1) := by decide +kernel
theorem dX4_open_27 : decode cX4_open 27 = .ok (.getfield 18, 3) := by decide +kernel
theorem dX4_open_30 : decode cX4_open 30 = .ok (.aload_n 0, 1) := by decide +kernel
theorem dX4_open_31 : decode cX4_open 31 = .ok (.getfield 68, 3) := by decide +kernel
theorem dX4_open_34 : decode cX4_open 34 = .ok (.iload_n 2, 1) := by decide +kernel
theorem dX4_open_35 : decode cX4_open 35 = .ok (.iastore, 1) := by decide +kernel
theorem dX4_open_36 : decode cX4_open 36 = .ok (.aload_n 0, 1) := by decide +kernel
theorem dX4_open_37 : decode cX4_open 37 = .ok (.getfield 21, 3) := by decide +kernel
theorem dX4_open_40 : decode cX4_open 40 = .ok (.aload_n 0, 1) := by decide +kernel
theorem dX4_open_41 : decode cX4_open 41 = .ok (.getfield 68, 3) := by decide +kernel
theorem dX4_open_44 : decode cX4_open 44 = .ok (.getstatic 166, 3) := by decide +kernel
theorem dX4_open_47 : decode cX4_open 47 = .ok (.iload_n 1, 1) := by decide +kernel
theorem dX4_open_48 : decode cX4_open 48 = .ok (.invokestatic 169, 3) := by decide +kernel
theorem dX4_open_51 : decode cX4_open 51 = .ok (.iastore, 1) := by decide +kernel
theorem dX4_open_52 : decode cX4_open 52 = .ok (.aload_n 0, 1) := by decide +kernel
theorem dX4_open_53 : decode cX4_open 53 = .ok (.getfield 24, 3) := by decide +kernel
theorem dX4_open_56 : decode cX4_open 56 = .ok (.aload_n 0, 1) := by decide +kernel
theorem dX4_open_57 : decode cX4_open 57 = .ok (.getfield 68, 3) := by decide +kernel
theorem dX4_open_60 : decode cX4_open 60 = .ok (.aload_n 0, 1) := by decide +kernel
theorem dX4_open_61 : decode cX4_open 61 = .ok (.getfield 65, 3) := by decide +kernel
theorem dX4_open_64 : decode cX4_open 64 = .ok (.iastore, 1) := by decide +kernel
theorem dX4_open_65 : decode cX4_open 65 = .ok (.aload_n 0, 1) := by decide +kernel
theorem dX4_open_66 : decode cX4_open 66 = .ok (.dup, 1) := by decide +kernel
theorem dX4_open_67 : decode cX4_open 67 = .ok (.getfield 68, 3) := by decide +kernel
theorem dX4_open_70 : decode cX4_open 70 = .ok (.iconst 1, 1) := by decide +kernel
theorem dX4_open_71 : decode cX4_open 71 = .ok (.iadd, 1) := by decide +kernel
theorem dX4_open_72 : decode cX4_open 72 = .ok (.putfield 68, 3) := by decide +kernel
theorem dX4_open_75 : decode cX4_open 75 = .ok (.return_, 1) := by decide +kernel
theorem dX4_setVariable_0 : decode cX4_setVariable 0 = .ok (.aload_n 0, 1) := by decide +kernel
theorem dX4_setVariable_1 : decode cX4_setVariable 1 = .ok (.getfield 50, 3) := by decide +kernel
theorem dX4_setVariable_4 : decode cX4_setVariable 4 = .ok (.getfield 54, 3) := by decide +kernel
theorem dX4_setVariable_7 : decode cX4_setVariable 7 = .ok (.ifCond .le 39, 3) := by decide +kernel
theorem dX4_setVariable_10 : decode cX4_setVariable 10 = .ok (.aload_n 0, 1) := by decide +kernel
theorem dX4_setVariable_11 : decode cX4_setVariable 11 = .ok (.getfield 50, 3) := by decide +kernel
theorem dX4_setVariable_14 : decode cX4_setVariable 14 = .ok (.getfield 173, 3) := by decide +kernel
theorem dX4_setVariable_17 : decode cX4_setVariable 17 = .ok (.aload_n 0, 1) := by decide +kernel
theorem dX4_setVariable_18 : decode cX4_setVariable 18 = .ok (.getfield 50, 3) := by decide +kernel
theorem dX4_setVariable_21 : decode cX4_setVariable 21 = .ok (.getfield 54, 3) := by decide +kernel
theorem dX4_setVariable_24 : decode cX4_setVariable 24 = .ok (.iconst 1, 1) := by decide +kernel
theorem dX4_setVariable_25 : decode cX4_setVariable 25 = .ok (.isub, 1) := by decide +kernel
theorem dX4_setVariable_26 : decode cX4_setVariable 26 = .ok (.iload_n 1, 1) := by decide +kernel
theorem dX4_setVariable_27 : decode cX4_setVariable 27 = .ok (.iastore, 1) := by decide +kernel
theorem dX4_setVariable_28 : decode cX4_setVariable 28 = .ok (.aload_n 0, 1) := by decide +kernel
theorem dX4_setVariable_29 : decode cX4_setVariable 29 = .ok (.getfield 50, 3) := by decide +kernel
theorem dX4_setVariable_32 : decode cX4_setVariable 32 = .ok (.getfield 176, 3) := by decide +kernel
theorem dX4_setVariable_35 : decode cX4_setVariable 35 = .ok (.aload_n 0, 1) := by decide +kernel
theorem dX4_setVariable_36 : decode cX4_setVariable 36 = .ok (.getfield 50, 3) := by decide +kernel
theorem dX4_setVariable_39 : decode cX4_setVariable 39 = .ok (.getfield 54, 3) := by decide +kernel
theorem dX4_setVariable_42 : decode cX4_setVariable 42 = .ok (.iconst 1, 1) := by decide +kernel
theorem dX4_setVariable_43 : decode cX4_setVariable 43 = .ok (.isub, 1) := by decide +kernel
theorem dX4_setVariable_44 : decode cX4_setVariable 44 = .ok (.iload_n 2, 1) := by decide +kernel
theorem dX4_setVariable_45 : decode cX4_setVariable 45 = .ok (.iastore, 1) := by decide +kernel
theorem dX4_setVariable_46 : decode cX4_setVariable 46 = .ok (.return_, 1) := by decide +kernel
theorem dX4_bind_0 : decode cX4_bind 0 = .ok (.aload_n 0, 1) := by decide +kernel
theorem dX4_bind_1 : decode cX4_bind 1 = .ok (.getfield 65, 3) := by decide +kernel
theorem dX4_bind_4 : decode cX4_bind 4 = .ok (.bipush 100, 2) := by decide +kernel
theorem dX4_bind_6 : decode cX4_bind 6 = .ok (.if_icmp .ge 33, 3) := by decide +kernel
theorem dX4_bind_9 : decode cX4_bind 9 = .ok (.aload_n 0, 1) := by decide +kernel
theorem dX4_bind_10 : decode cX4_bind 10 = .ok (.getfield 9, 3) := by decide +kernel
theorem dX4_bind_13 : decode cX4_bind 13 = .ok (.aload_n 0, 1) := by decide +kernel
theorem dX4_bind_14 : decode cX4_bind 14 = .ok (.getfield 65, 3) := by decide +kernel
theorem dX4_bind_17 : decode cX4_bind 17 = .ok (.iload_n 1, 1) := by decide +kernel
theorem dX4_bind_18 : decode cX4_bind 18 = .ok (.iastore, 1) := by decide +kernel
theorem dX4_bind_19 : decode cX4_bind 19 = .ok (.aload_n 0, 1) := by decide +kernel
theorem dX4_bind_20 : decode cX4_bind 20 = .ok (.getfield 15, 3) := by decide +kernel
theorem dX4_bind_23 : decode cX4_bind 23 = .ok (.aload_n 0, 1) := by decide +kernel
theorem dX4_bind_24 : decode cX4_bind 24 = .ok (.getfield 65, 3) := by decide +kernel
theorem dX4_bind_27 : decode cX4_bind 27 = .ok (.iload_n 2, 1) := by decide +kernel
theorem dX4_bind_28 : decode cX4_bind 28 = .ok (.iastore, 1) := by decide +kernel
theorem dX4_bind_29 : decode cX4_bind 29 = .ok (.aload_n 0, 1) := by decide +kernel
theorem dX4_bind_30 : decode cX4_bind 30 = .ok (.dup, 1) := by decide +kernel
theorem dX4_bind_31 : decode cX4_bind 31 = .ok (.getfield 65, 3) := by decide +kernel
theorem dX4_bind_34 : decode cX4_bind 34 = .ok (.iconst 1, 1) := by decide +kernel
theorem dX4_bind_35 : decode cX4_bind 35 = .ok (.iadd, 1) := by decide +kernel
theorem dX4_bind_36 : decode cX4_bind 36 = .ok (.putfield 65, 3) := by decide +kernel
theorem dX4_bind_39 : decode cX4_bind 39 = .ok (.return_, 1) := by decide +kernel
theorem dX4_endExpr_0 : decode cX4_endExpr 0 = .ok (.aload_n 0, 1) := by decide +kernel
theorem dX4_endExpr_1 : decode cX4_endExpr 1 = .ok (.getfield 68, 3) := by decide +kernel
theorem dX4_endExpr_4 : decode cX4_endExpr 4 = .ok (.iconst 1, 1) := by decide +kernel
theorem dX4_endExpr_5 : decode cX4_endExpr 5 = .ok (.isub, 1) := by decide +kernel
theorem dX4_endExpr_6 : decode cX4_endExpr 6 = .ok (.istore_n 1, 1) := by decide +kernel
theorem dX4_endExpr_7 : decode cX4_endExpr 7 = .ok (.iload_n 1, 1) := by decide +kernel
theorem dX4_endExpr_8 : decode cX4_endExpr 8 = .ok (.ifCond .lt 86, 3) := by decide +kernel
theorem dX4_endExpr_11 : decode cX4_endExpr 11 = .ok (.aload_n 0, 1) := by decide +kernel
theorem dX4_endExpr_12 : decode cX4_endExpr 12 = .ok (.getfield 47, 3) := by decide +kernel
theorem dX4_endExpr_15 : decode cX4_endExpr 15 = .ok (.iconst (-1), 1) := by decide +kernel
theorem dX4_endExpr_16 : decode cX4_endExpr 16 = .ok (.if_icmp .ne 78, 3) := by decide +kernel
theorem dX4_endExpr_19 : decode cX4_endExpr 19 = .ok (.aload_n 0, 1) := by decide +kernel
theorem dX4_endExpr_20 : decode cX4_endExpr 20 = .ok (.getfield 18, 3) := by decide +kernel
theorem dX4_endExpr_23 : decode cX4_endExpr 23 = .ok (.iload_n 1, 1) := by decide +kernel
theorem dX4_endExpr_24 : decode cX4_endExpr 24 = .ok (.iaload, 1) := by decide +kernel
theorem dX4_endExpr_25 : decode cX4_endExpr 25 = .ok (.istore_n 2, 1) := by decide +kernel
theorem dX4_endExpr_26 : decode cX4_endExpr 26 = .ok (.aload_n 0, 1) := by decide +kernel
theorem dX4_endExpr_27 : decode cX4_endExpr 27 = .ok (.getfield 21, 3) := by decide +kernel
theorem dX4_endExpr_30 : decode cX4_endExpr 30 = .ok (.iload_n 1, 1) := by decide +kernel
theorem dX4_endExpr_31 : decode cX4_endExpr 31 = .ok (.dup2, 1) := by decide +kernel
theorem dX4_endExpr_32 : decode cX4_endExpr 32 = .ok (.iaload, 1) := by decide +kernel
theorem dX4_endExpr_33 : decode cX4_endExpr 33 = .ok (.iconst 1, 1) := by decide +kernel
theorem dX4_endExpr_34 : decode cX4_endExpr 34 = .ok (.isub, 1) := by decide +kernel
theorem dX4_endExpr_35 : decode cX4_endExpr 35 = .ok (.iastore, 1) := by decide +kernel
theorem dX4_endExpr_36 : decode cX4_endExpr 36 = .ok (.aload_n 0, 1) := by decide +kernel
theorem dX4_endExpr_37 : decode cX4_endExpr 37 = .ok (.getfield 21, 3) := by decide +kernel
theorem dX4_endExpr_40 : decode cX4_endExpr 40 = .ok (.iload_n 1, 1) := by decide +kernel
theorem dX4_endExpr_41 : decode cX4_endExpr 41 = .ok (.iaload, 1) := by decide +kernel
theorem dX4_endExpr_42 : decode cX4_endExpr 42 = .ok (.ifCond .le 10, 3) := by decide +kernel
theorem dX4_endExpr_45 : decode cX4_endExpr 45 = .ok (.aload_n 0, 1) := by decide +kernel
theorem dX4_endExpr_46 : decode cX4_endExpr 46 = .ok (.iload_n 1, 1) := by decide +kernel
theorem dX4_endExpr_47 : decode cX4_endExpr 47 = .ok (.iload_n 2, 1) := by decide +kernel
theorem dX4_endExpr_48 : decode cX4_endExpr 48 = .ok (.invokevirtual 179, 3) := by decide +kernel
theorem dX4_endExpr_51 : decode cX4_endExpr 51 = .ok (.return_, 1) := by decide +kernel
theorem dX4_endExpr_52 : decode cX4_endExpr 52 = .ok (.aload_n 0, 1) := by decide +kernel
theorem dX4_endExpr_53 : decode cX4_endExpr 53 = .ok (.getfield 50, 3) := by decide +kernel
theorem dX4_endExpr_56 : decode cX4_endExpr 56 = .ok (.getfield 182, 3) := by decide +kernel
theorem dX4_endExpr_59 : decode cX4_endExpr 59 = .ok (.iload_n 2, 1) := by decide +kernel
theorem dX4_endExpr_60 : decode cX4_endExpr 60 = .ok (.invokestatic 169, 3) := by decide +kernel
theorem dX4_endExpr_63 : decode cX4_endExpr 63 = .ok (.iconst 2, 1) := by decide +kernel
theorem dX4_endExpr_64 : decode cX4_endExpr 64 = .ok (.if_icmp .eq 9, 3) := by decide +kernel
theorem dX4_endExpr_67 : decode cX4_endExpr 67 = .ok (.aload_n 0, 1) := by decide +kernel
theorem dX4_endExpr_68 : decode cX4_endExpr 68 = .ok (.bipush 41, 2) := by decide +kernel
theorem dX4_endExpr_70 : decode cX4_endExpr 70 = .ok (.invokevirtual 129, 3) := by decide +kernel
theorem dX4_endExpr_73 : decode cX4_endExpr 73 = .ok (.aload_n 0, 1) := by decide +kernel
theorem dX4_endExpr_74 : decode cX4_endExpr 74 = .ok (.aload_n 0, 1) := by decide +kernel
theorem dX4_endExpr_75 : decode cX4_endExpr 75 = .ok (.getfield 24, 3) := by decide +kernel
theorem dX4_endExpr_78 : decode cX4_endExpr 78 = .ok (.iload_n 1, 1) := by decide +kernel
theorem dX4_endExpr_79 : decode cX4_endExpr 79 = .ok (.iaload, 1) := by decide +kernel
theorem dX4_endExpr_80 : decode cX4_endExpr 80 = .ok (.putfield 65, 3) := by decide +kernel
theorem dX4_endExpr_83 : decode cX4_endExpr 83 = .ok (.aload_n 0, 1) := by decide +kernel
theorem dX4_endExpr_84 : decode cX4_endExpr 84 = .ok (.iload_n 1, 1) := by decide +kernel
theorem dX4_endExpr_85 : decode cX4_endExpr 85 = .ok (.putfield 68, 3) := by decide +kernel
theorem dX4_endExpr_88 : decode cX4_endExpr 88 = .ok (.iinc 1 (-1), 3) := by decide +kernel
theorem dX4_endExpr_91 : decode cX4_endExpr 91 = .ok (.goto (-84), 3) := by decide +kernel
theorem dX4_endExpr_94 : decode cX4_endExpr 94 = .ok (.return_, 1) := by decide +kernel
theorem dX4_bindLet_0 : decode cX4_bindLet 0 = .ok (.aload_n 0, 1) := by decide +kernel
theorem dX4_bindLet_1 : decode cX4_bindLet 1 = .ok (.getfield 50, 3) := by decide +kernel
theorem dX4_bindLet_4 : decode cX4_bindLet 4 = .ok (.getfield 182, 3) := by decide +kernel
theorem dX4_bindLet_7 : decode cX4_bindLet 7 = .ok (.iload_n 2, 1) := by decide +kernel
theorem dX4_bindLet_8 : decode cX4_bindLet 8 = .ok (.invokestatic 169, 3) := by decide +kernel
theorem dX4_bindLet_11 : decode cX4_bindLet 11 = .ok (.iconst 5, 1) := by decide +kernel
theorem dX4_bindLet_12 : decode cX4_bindLet 12 = .ok (.if_icmp .ne 26, 3) := by decide +kernel
theorem dX4_bindLet_15 : decode cX4_bindLet 15 = .ok (.aload_n 0, 1) := by decide +kernel
theorem dX4_bindLet_16 : decode cX4_bindLet 16 = .ok (.aload_n 0, 1) := by decide +kernel
theorem dX4_bindLet_17 : decode cX4_bindLet 17 = .ok (.getfield 27, 3) := by decide +kernel
