theorem dX4_bindLet_20 : decode cX4_bindLet 20 = .ok (.iload_n 1, 1) := by decide +kernel
theorem dX4_bindLet_21 : decode cX4_bindLet 21 = .ok (.invokestatic 169, 3) := by decide +kernel
theorem dX4_bindLet_24 : decode cX4_bindLet 24 = .ok (.aload_n 0, 1) := by decide +kernel
theorem dX4_bindLet_25 : decode cX4_bindLet 25 = .ok (.getfield 50, 3) := by decide +kernel
theorem dX4_bindLet_28 : decode cX4_bindLet 28 = .ok (.getfield 173, 3) := by decide +kernel
theorem dX4_bindLet_31 : decode cX4_bindLet 31 = .ok (.iload_n 2, 1) := by decide +kernel
theorem dX4_bindLet_32 : decode cX4_bindLet 32 = .ok (.invokestatic 169, 3) := by decide +kernel
theorem dX4_bindLet_35 : decode cX4_bindLet 35 = .ok (.invokevirtual 132, 3) := by decide +kernel
theorem dX4_bindLet_38 : decode cX4_bindLet 38 = .ok (.return_, 1) := by decide +kernel
theorem dX5_init_0 : decode cX5_init 0 = .ok (.aload_n 0, 1) := by decide +kernel
theorem dX5_init_1 : decode cX5_init 1 = .ok (.invokespecial 3, 3) := by decide +kernel
theorem dX5_init_4 : decode cX5_init 4 = .ok (.aload_n 0, 1) := by decide +kernel
theorem dX5_init_5 : decode cX5_init 5 = .ok (.sipush 400, 3) := by decide +kernel
theorem dX5_init_8 : decode cX5_init 8 = .ok (.newarray .byte, 2) := by decide +kernel
theorem dX5_init_10 : decode cX5_init 10 = .ok (.putfield 9, 3) := by decide +kernel
theorem dX5_init_13 : decode cX5_init 13 = .ok (.return_, 1) := by decide +kernel
theorem dX5_put_0 : decode cX5_put 0 = .ok (.aload_n 0, 1) := by decide +kernel
theorem dX5_put_1 : decode cX5_put 1 = .ok (.iconst 0, 1) := by decide +kernel
theorem dX5_put_2 : decode cX5_put 2 = .ok (.putfield 15, 3) := by decide +kernel
theorem dX5_put_5 : decode cX5_put 5 = .ok (.iconst 0, 1) := by decide +kernel
theorem dX5_put_6 : decode cX5_put 6 = .ok (.istore_n 2, 1) := by decide +kernel
theorem dX5_put_7 : decode cX5_put 7 = .ok (.iload_n 2, 1) := by decide +kernel
theorem dX5_put_8 : decode cX5_put 8 = .ok (.aload_n 1, 1) := by decide +kernel
theorem dX5_put_9 : decode cX5_put 9 = .ok (.getfield 19, 3) := by decide +kernel
theorem dX5_put_12 : decode cX5_put 12 = .ok (.if_icmp .ge 27, 3) := by decide +kernel
theorem dX5_put_15 : decode cX5_put 15 = .ok (.aload_n 0, 1) := by decide +kernel
theorem dX5_put_16 : decode cX5_put 16 = .ok (.aload_n 1, 1) := by decide +kernel
theorem dX5_put_17 : decode cX5_put 17 = .ok (.iload_n 2, 1) := by decide +kernel
theorem dX5_put_18 : decode cX5_put 18 = .ok (.invokevirtual 24, 3) := by decide +kernel
theorem dX5_put_21 : decode cX5_put 21 = .ok (.aload_n 0, 1) := by decide +kernel
theorem dX5_put_22 : decode cX5_put 22 = .ok (.aload_n 1, 1) := by decide +kernel
theorem dX5_put_23 : decode cX5_put 23 = .ok (.iload_n 2, 1) := by decide +kernel
theorem dX5_put_24 : decode cX5_put 24 = .ok (.invokevirtual 28, 3) := by decide +kernel
theorem dX5_put_27 : decode cX5_put 27 = .ok (.aload_n 0, 1) := by decide +kernel
theorem dX5_put_28 : decode cX5_put 28 = .ok (.aload_n 1, 1) := by decide +kernel
theorem dX5_put_29 : decode cX5_put 29 = .ok (.iload_n 2, 1) := by decide +kernel
theorem dX5_put_30 : decode cX5_put 30 = .ok (.invokevirtual 31, 3) := by decide +kernel
theorem dX5_put_33 : decode cX5_put 33 = .ok (.iinc 2 1, 3) := by decide +kernel
theorem dX5_put_36 : decode cX5_put 36 = .ok (.goto (-29), 3) := by decide +kernel
theorem dX5_put_39 : decode cX5_put 39 = .ok (.return_, 1) := by decide +kernel
theorem dX5_putByte_0 : decode cX5_putByte 0 = .ok (.aload_n 0, 1) := by decide +kernel
theorem dX5_putByte_1 : decode cX5_putByte 1 = .ok (.getfield 15, 3) := by decide +kernel
theorem dX5_putByte_4 : decode cX5_putByte 4 = .ok (.sipush 400, 3) := by decide +kernel
theorem dX5_putByte_7 : decode cX5_putByte 7 = .ok (.if_icmp .ge 14, 3) := by decide +kernel
theorem dX5_putByte_10 : decode cX5_putByte 10 = .ok (.aload_n 0, 1) := by decide +kernel
theorem dX5_putByte_11 : decode cX5_putByte 11 = .ok (.getfield 9, 3) := by decide +kernel
theorem dX5_putByte_14 : decode cX5_putByte 14 = .ok (.aload_n 0, 1) := by decide +kernel
theorem dX5_putByte_15 : decode cX5_putByte 15 = .ok (.getfield 15, 3) := by decide +kernel
theorem dX5_putByte_18 : decode cX5_putByte 18 = .ok (.iload_n 1, 1) := by decide +kernel
theorem dX5_putByte_19 : decode cX5_putByte 19 = .ok (.i2b, 1) := by decide +kernel
theorem dX5_putByte_20 : decode cX5_putByte 20 = .ok (.bastore, 1) := by decide +kernel
theorem dX5_putByte_21 : decode cX5_putByte 21 = .ok (.aload_n 0, 1) := by decide +kernel
theorem dX5_putByte_22 : decode cX5_putByte 22 = .ok (.dup, 1) := by decide +kernel
theorem dX5_putByte_23 : decode cX5_putByte 23 = .ok (.getfield 15, 3) := by decide +kernel
theorem dX5_putByte_26 : decode cX5_putByte 26 = .ok (.iconst 1, 1) := by decide +kernel
theorem dX5_putByte_27 : decode cX5_putByte 27 = .ok (.iadd, 1) := by decide +kernel
theorem dX5_putByte_28 : decode cX5_putByte 28 = .ok (.putfield 15, 3) := by decide +kernel
theorem dX5_putByte_31 : decode cX5_putByte 31 = .ok (.return_, 1) := by decide +kernel
theorem dX5_putText_0 : decode cX5_putText 0 = .ok (.iconst 0, 1) := by decide +kernel
theorem dX5_putText_1 : decode cX5_putText 1 = .ok (.istore_n 2, 1) := by decide +kernel
theorem dX5_putText_2 : decode cX5_putText 2 = .ok (.iload_n 2, 1) := by decide +kernel
theorem dX5_putText_3 : decode cX5_putText 3 = .ok (.aload_n 1, 1) := by decide +kernel
theorem dX5_putText_4 : decode cX5_putText 4 = .ok (.invokevirtual 34, 3) := by decide +kernel
theorem dX5_putText_7 : decode cX5_putText 7 = .ok (.if_icmp .ge 18, 3) := by decide +kernel
theorem dX5_putText_10 : decode cX5_putText 10 = .ok (.aload_n 0, 1) := by decide +kernel
theorem dX5_putText_11 : decode cX5_putText 11 = .ok (.aload_n 1, 1) := by decide +kernel
theorem dX5_putText_12 : decode cX5_putText 12 = .ok (.iload_n 2, 1) := by decide +kernel
theorem dX5_putText_13 : decode cX5_putText 13 = .ok (.invokevirtual 39, 3) := by decide +kernel
theorem dX5_putText_16 : decode cX5_putText 16 = .ok (.invokevirtual 43, 3) := by decide +kernel
theorem dX5_putText_19 : decode cX5_putText 19 = .ok (.iinc 2 1, 3) := by decide +kernel
theorem dX5_putText_22 : decode cX5_putText 22 = .ok (.goto (-20), 3) := by decide +kernel
theorem dX5_putText_25 : decode cX5_putText 25 = .ok (.return_, 1) := by decide +kernel
theorem dX5_putNumber_0 : decode cX5_putNumber 0 = .ok (.iload_n 1, 1) := by decide +kernel
theorem dX5_putNumber_1 : decode cX5_putNumber 1 = .ok (.ifCond .ge 9, 3) := by decide +kernel
theorem dX5_putNumber_4 : decode cX5_putNumber 4 = .ok (.aload_n 0, 1) := by decide +kernel
theorem dX5_putNumber_5 : decode cX5_putNumber 5 = .ok (.bipush 45, 2) := by decide +kernel
theorem dX5_putNumber_7 : decode cX5_putNumber 7 = .ok (.invokevirtual 43, 3) := by decide +kernel
theorem dX5_putNumber_10 : decode cX5_putNumber 10 = .ok (.iload_n 1, 1) := by decide +kernel
theorem dX5_putNumber_11 : decode cX5_putNumber 11 = .ok (.invokestatic 47, 3) := by decide +kernel
theorem dX5_putNumber_14 : decode cX5_putNumber 14 = .ok (.istore_n 2, 1) := by decide +kernel
theorem dX5_putNumber_15 : decode cX5_putNumber 15 = .ok (.ldc 53, 2) := by decide +kernel
theorem dX5_putNumber_17 : decode cX5_putNumber 17 = .ok (.istore_n 3, 1) := by decide +kernel
theorem dX5_putNumber_18 : decode cX5_putNumber 18 = .ok (.iload_n 3, 1) := by decide +kernel
theorem dX5_putNumber_19 : decode cX5_putNumber 19 = .ok (.ifCond .le 34, 3) := by decide +kernel
theorem dX5_putNumber_22 : decode cX5_putNumber 22 = .ok (.iload_n 3, 1) := by decide +kernel
theorem dX5_putNumber_23 : decode cX5_putNumber 23 = .ok (.iconst 1, 1) := by decide +kernel
theorem dX5_putNumber_24 : decode cX5_putNumber 24 = .ok (.if_icmp .eq 8, 3) := by decide +kernel
theorem dX5_putNumber_27 : decode cX5_putNumber 27 = .ok (.iload_n 2, 1) := by decide +kernel
theorem dX5_putNumber_28 : decode cX5_putNumber 28 = .ok (.iload_n 3, 1) := by decide +kernel
theorem dX5_putNumber_29 : decode cX5_putNumber 29 = .ok (.if_icmp .lt 16, 3) := by decide +kernel
theorem dX5_putNumber_32 : decode cX5_putNumber 32 = .ok (.aload_n 0, 1) := by decide +kernel
theorem dX5_putNumber_33 : decode cX5_putNumber 33 = .ok (.bipush 48, 2) := by decide +kernel
theorem dX5_putNumber_35 : decode cX5_putNumber 35 = .ok (.iload_n 2, 1) := by decide +kernel
theorem dX5_putNumber_36 : decode cX5_putNumber 36 = .ok (.iload_n 3, 1) := by decide +kernel
theorem dX5_putNumber_37 : decode cX5_putNumber 37 = .ok (.idiv, 1) := by decide +kernel
theorem dX5_putNumber_38 : decode cX5_putNumber 38 = .ok (.bipush 10, 2) := by decide +kernel
theorem dX5_putNumber_40 : decode cX5_putNumber 40 = .ok (.irem, 1) := by decide +kernel
theorem dX5_putNumber_41 : decode cX5_putNumber 41 = .ok (.iadd, 1) := by decide +kernel
theorem dX5_putNumber_42 : decode cX5_putNumber 42 = .ok (.invokevirtual 43, 3) := by decide +kernel
theorem dX5_putNumber_45 : decode cX5_putNumber 45 = .ok (.iload_n 3, 1) := by decide +kernel
theorem dX5_putNumber_46 : decode cX5_putNumber 46 = .ok (.bipush 10, 2) := by decide +kernel
theorem dX5_putNumber_48 : decode cX5_putNumber 48 = .ok (.idiv, 1) := by decide +kernel
theorem dX5_putNumber_49 : decode cX5_putNumber 49 = .ok (.istore_n 3, 1) := by decide +kernel
theorem dX5_putNumber_50 : decode cX5_putNumber 50 = .ok (.goto (-32), 3) := by decide +kernel
theorem dX5_putNumber_53 : decode cX5_putNumber 53 = .ok (.return_, 1) := by decide +kernel
theorem dX5_putVariable_0 : decode cX5_putVariable 0 = .ok (.aload_n 0, 1) := by decide +kernel
theorem dX5_putVariable_1 : decode cX5_putVariable 1 = .ok (.bipush 118, 2) := by decide +kernel
theorem dX5_putVariable_3 : decode cX5_putVariable 3 = .ok (.invokevirtual 43, 3) := by decide +kernel
theorem dX5_putVariable_6 : decode cX5_putVariable 6 = .ok (.aload_n 0, 1) := by decide +kernel
theorem dX5_putVariable_7 : decode cX5_putVariable 7 = .ok (.iload_n 1, 1) := by decide +kernel
theorem dX5_putVariable_8 : decode cX5_putVariable 8 = .ok (.invokevirtual 54, 3) := by decide +kernel
theorem dX5_putVariable_11 : decode cX5_putVariable 11 = .ok (.return_, 1) := by decide +kernel
theorem dX5_putBlank_0 : decode cX5_putBlank 0 = .ok (.aload_n 1, 1) := by decide +kernel
theorem dX5_putBlank_1 : decode cX5_putBlank 1 = .ok (.getfield 57, 3) := by decide +kernel
theorem dX5_putBlank_4 : decode cX5_putBlank 4 = .ok (.iload_n 2, 1) := by decide +kernel
theorem dX5_putBlank_5 : decode cX5_putBlank 5 = .ok (.invokestatic 61, 3) := by decide +kernel
theorem dX5_putBlank_8 : decode cX5_putBlank 8 = .ok (.istore_n 3, 1) := by decide +kernel
theorem dX5_putBlank_9 : decode cX5_putBlank 9 = .ok (.aload_n 1, 1) := by decide +kernel
theorem dX5_putBlank_10 : decode cX5_putBlank 10 = .ok (.getfield 65, 3) := by decide +kernel
theorem dX5_putBlank_13 : decode cX5_putBlank 13 = .ok (.iload_n 3, 1) := by decide +kernel
theorem dX5_putBlank_14 : decode cX5_putBlank 14 = .ok (.invokestatic 61, 3) := by decide +kernel
theorem dX5_putBlank_17 : decode cX5_putBlank 17 = .ok (.istore 4, 2) := by decide +kernel
theorem dX5_putBlank_19 : decode cX5_putBlank 19 = .ok (.iload 4, 2) := by decide +kernel
theorem dX5_putBlank_21 : decode cX5_putBlank 21 = .ok (.iconst 2, 1) := by decide +kernel
theorem dX5_putBlank_22 : decode cX5_putBlank 22 = .ok (.if_icmp .eq 20, 3) := by decide +kernel
theorem dX5_putBlank_25 : decode cX5_putBlank 25 = .ok (.iload 4, 2) := by decide +kernel
theorem dX5_putBlank_27 : decode cX5_putBlank 27 = .ok (.bipush 11, 2) := by decide +kernel
theorem dX5_putBlank_29 : decode cX5_putBlank 29 = .ok (.if_icmp .ne 17, 3) := by decide +kernel
theorem dX5_putBlank_32 : decode cX5_putBlank 32 = .ok (.aload_n 1, 1) := by decide +kernel
theorem dX5_putBlank_33 : decode cX5_putBlank 33 = .ok (.iload_n 3, 1) := by decide +kernel
theorem dX5_putBlank_34 : decode cX5_putBlank 34 = .ok (.iconst 0, 1) := by decide +kernel
theorem dX5_putBlank_35 : decode cX5_putBlank 35 = .ok (.invokevirtual 68, 3) := by decide +kernel
theorem dX5_putBlank_38 : decode cX5_putBlank 38 = .ok (.iload_n 2, 1) := by decide +kernel
theorem dX5_putBlank_39 : decode cX5_putBlank 39 = .ok (.if_icmp .ne 7, 3) := by decide +kernel
theorem dX5_putBlank_42 : decode cX5_putBlank 42 = .ok (.iconst 1, 1) := by decide +kernel
theorem dX5_putBlank_43 : decode cX5_putBlank 43 = .ok (.goto 4, 3) := by decide +kernel
theorem dX5_putBlank_46 : decode cX5_putBlank 46 = .ok (.iconst 0, 1) := by decide +kernel
theorem dX5_putBlank_47 : decode cX5_putBlank 47 = .ok (.istore 5, 2) := by decide +kernel
theorem dX5_putBlank_49 : decode cX5_putBlank 49 = .ok (.iload_n 3, 1) := by decide +kernel
theorem dX5_putBlank_50 : decode cX5_putBlank 50 = .ok (.iconst (-1), 1) := by decide +kernel
theorem dX5_putBlank_51 : decode cX5_putBlank 51 = .ok (.if_icmp .eq 14, 3) := by decide +kernel
theorem dX5_putBlank_54 : decode cX5_putBlank 54 = .ok (.iload 5, 2) := by decide +kernel
theorem dX5_putBlank_56 : decode cX5_putBlank 56 = .ok (.ifCond .ne 9, 3) := by decide +kernel
theorem dX5_putBlank_59 : decode cX5_putBlank 59 = .ok (.aload_n 0, 1) := by decide +kernel
theorem dX5_putBlank_60 : decode cX5_putBlank 60 = .ok (.bipush 32, 2) := by decide +kernel
theorem dX5_putBlank_62 : decode cX5_putBlank 62 = .ok (.invokevirtual 43, 3) := by decide +kernel
theorem dX5_putBlank_65 : decode cX5_putBlank 65 = .ok (.return_, 1) := by decide +kernel
theorem dX5_putHead_0 : decode cX5_putHead 0 = .ok (.aload_n 1, 1) := by decide +kernel
theorem dX5_putHead_1 : decode cX5_putHead 1 = .ok (.getfield 65, 3) := by decide +kernel
theorem dX5_putHead_4 : decode cX5_putHead 4 = .ok (.iload_n 2, 1) := by decide +kernel
theorem dX5_putHead_5 : decode cX5_putHead 5 = .ok (.invokestatic 61, 3) := by decide +kernel
theorem dX5_putHead_8 : decode cX5_putHead 8 = .ok (.istore_n 3, 1) := by decide +kernel
theorem dX5_putHead_9 : decode cX5_putHead 9 = .ok (.aload_n 1, 1) := by decide +kernel
theorem dX5_putHead_10 : decode cX5_putHead 10 = .ok (.getfield 72, 3) := by decide +kernel
theorem dX5_putHead_13 : decode cX5_putHead 13 = .ok (.iload_n 2, 1) := by decide +kernel
theorem dX5_putHead_14 : decode cX5_putHead 14 = .ok (.invokestatic 61, 3) := by decide +kernel
theorem dX5_putHead_17 : decode cX5_putHead 17 = .ok (.istore 4, 2) := by decide +kernel
theorem dX5_putHead_19 : decode cX5_putHead 19 = .ok (.iload_n 3, 1) := by decide +kernel
theorem dX5_putHead_20 : decode cX5_putHead 20 = .ok (.tableswitch 169 0 11 #[64, 73, 82, 103, 136, 145, 169, 169, 169, 169, 169, 160], 64) := by decide +kernel
theorem dX5_putHead_84 : decode cX5_putHead 84 = .ok (.aload_n 0, 1) := by decide +kernel
theorem dX5_putHead_85 : decode cX5_putHead 85 = .ok (.iload 4, 2) := by decide +kernel
theorem dX5_putHead_87 : decode cX5_putHead 87 = .ok (.invokevirtual 75, 3) := by decide +kernel
theorem dX5_putHead_90 : decode cX5_putHead 90 = .ok (.goto 119, 3) := by decide +kernel
theorem dX5_putHead_93 : decode cX5_putHead 93 = .ok (.aload_n 0, 1) := by decide +kernel
theorem dX5_putHead_94 : decode cX5_putHead 94 = .ok (.iload 4, 2) := by decide +kernel
theorem dX5_putHead_96 : decode cX5_putHead 96 = .ok (.invokevirtual 54, 3) := by decide +kernel
theorem dX5_putHead_99 : decode cX5_putHead 99 = .ok (.goto 110, 3) := by decide +kernel
theorem dX5_putHead_102 : decode cX5_putHead 102 = .ok (.aload_n 0, 1) := by decide +kernel
theorem dX5_putHead_103 : decode cX5_putHead 103 = .ok (.bipush 92, 2) := by decide +kernel
theorem dX5_putHead_105 : decode cX5_putHead 105 = .ok (.invokevirtual 43, 3) := by decide +kernel
theorem dX5_putHead_108 : decode cX5_putHead 108 = .ok (.aload_n 0, 1) := by decide +kernel
theorem dX5_putHead_109 : decode cX5_putHead 109 = .ok (.iload 4, 2) := by decide +kernel
theorem dX5_putHead_111 : decode cX5_putHead 111 = .ok (.invokevirtual 75, 3) := by decide +kernel
theorem dX5_putHead_114 : decode cX5_putHead 114 = .ok (.aload_n 0, 1) := by decide +kernel
theorem dX5_putHead_115 : decode cX5_putHead 115 = .ok (.bipush 46, 2) := by decide +kernel
theorem dX5_putHead_117 : decode cX5_putHead 117 = .ok (.invokevirtual 43, 3) := by decide +kernel
theorem dX5_putHead_120 : decode cX5_putHead 120 = .ok (.goto 89, 3) := by decide +kernel
theorem dX5_putHead_123 : decode cX5_putHead 123 = .ok (.aload_n 0, 1) := by decide +kernel
theorem dX5_putHead_124 : decode cX5_putHead 124 = .ok (.ldc 78, 2) := by decide +kernel
theorem dX5_putHead_126 : decode cX5_putHead 126 = .ok (.invokevirtual 80, 3) := by decide +kernel
theorem dX5_putHead_129 : decode cX5_putHead 129 = .ok (.aload_n 0, 1) := by decide +kernel
theorem dX5_putHead_130 : decode cX5_putHead 130 = .ok (.aload_n 1, 1) := by decide +kernel
theorem dX5_putHead_131 : decode cX5_putHead 131 = .ok (.getfield 84, 3) := by decide +kernel
theorem dX5_putHead_134 : decode cX5_putHead 134 = .ok (.iload_n 2, 1) := by decide +kernel
theorem dX5_putHead_135 : decode cX5_putHead 135 = .ok (.invokestatic 61, 3) := by decide +kernel
theorem dX5_putHead_138 : decode cX5_putHead 138 = .ok (.invokevirtual 75, 3) := by decide +kernel
theorem dX5_putHead_141 : decode cX5_putHead 141 = .ok (.aload_n 0, 1) := by decide +kernel
theorem dX5_putHead_142 : decode cX5_putHead 142 = .ok (.bipush 32, 2) := by decide +kernel
theorem dX5_putHead_144 : decode cX5_putHead 144 = .ok (.invokevirtual 43, 3) := by decide +kernel
theorem dX5_putHead_147 : decode cX5_putHead 147 = .ok (.aload_n 0, 1) := by decide +kernel
theorem dX5_putHead_148 : decode cX5_putHead 148 = .ok (.iload 4, 2) := by decide +kernel
theorem dX5_putHead_150 : decode cX5_putHead 150 = .ok (.invokevirtual 75, 3) := by decide +kernel
theorem dX5_putHead_153 : decode cX5_putHead 153 = .ok (.goto 56, 3) := by decide +kernel
theorem dX5_putHead_156 : decode cX5_putHead 156 = .ok (.aload_n 0, 1) := by decide +kernel
theorem dX5_putHead_157 : decode cX5_putHead 157 = .ok (.ldc 87, 2) := by decide +kernel
theorem dX5_putHead_159 : decode cX5_putHead 159 = .ok (.invokevirtual 80, 3) := by decide +kernel
theorem dX5_putHead_162 : decode cX5_putHead 162 = .ok (.goto 47, 3) := by decide +kernel
theorem dX5_putHead_165 : decode cX5_putHead 165 = .ok (.aload_n 0, 1) := by decide +kernel
theorem dX5_putHead_166 : decode cX5_putHead 166 = .ok (.ldc 89, 2) := by decide +kernel
theorem dX5_putHead_168 : decode cX5_putHead 168 = .ok (.invokevirtual 80, 3) := by decide +kernel
theorem dX5_putHead_171 : decode cX5_putHead 171 = .ok (.aload_n 0, 1) := by decide +kernel
theorem dX5_putHead_172 : decode cX5_putHead 172 = .ok (.iload 4, 2) := by decide +kernel
theorem dX5_putHead_174 : decode cX5_putHead 174 = .ok (.invokevirtual 75, 3) := by decide +kernel
theorem dX5_putHead_177 : decode cX5_putHead 177 = .ok (.goto 32, 3) := by decide +kernel
theorem dX5_putHead_180 : decode cX5_putHead 180 = .ok (.aload_n 0, 1) := by decide +kernel
theorem dX5_putHead_181 : decode cX5_putHead 181 = .ok (.bipush 40, 2) := by decide +kernel
theorem dX5_putHead_183 : decode cX5_putHead 183 = .ok (.invokevirtual 43, 3) := by decide +kernel
theorem dX5_putHead_186 : decode cX5_putHead 186 = .ok (.goto 23, 3) := by decide +kernel
theorem dX5_putHead_189 : decode cX5_putHead 189 = .ok (.aload_n 0, 1) := by decide +kernel
theorem dX5_putHead_190 : decode cX5_putHead 190 = .ok (.bipush 40, 2) := by decide +kernel
theorem dX5_putHead_192 : decode cX5_putHead 192 = .ok (.invokevirtual 43, 3) := by decide +kernel
theorem dX5_putHead_195 : decode cX5_putHead 195 = .ok (.aload_n 0, 1) := by decide +kernel
theorem dX5_putHead_196 : decode cX5_putHead 196 = .ok (.getstatic 91, 3) := by decide +kernel
theorem dX5_putHead_199 : decode cX5_putHead 199 = .ok (.iload_n 3, 1) := by decide +kernel
theorem dX5_putHead_200 : decode cX5_putHead 200 = .ok (.bipush 6, 2) := by decide +kernel
theorem dX5_putHead_202 : decode cX5_putHead 202 = .ok (.isub, 1) := by decide +kernel
theorem dX5_putHead_203 : decode cX5_putHead 203 = .ok (.invokestatic 61, 3) := by decide +kernel
theorem dX5_putHead_206 : decode cX5_putHead 206 = .ok (.invokevirtual 43, 3) := by decide +kernel
theorem dX5_putHead_209 : decode cX5_putHead 209 = .ok (.return_, 1) := by decide +kernel
theorem dX5_putEnds_0 : decode cX5_putEnds 0 = .ok (.iload_n 2, 1) := by decide +kernel
theorem dX5_putEnds_1 : decode cX5_putEnds 1 = .ok (.istore_n 3, 1) := by decide +kernel
theorem dX5_putEnds_2 : decode cX5_putEnds 2 = .ok (.iconst 0, 1) := by decide +kernel
theorem dX5_putEnds_3 : decode cX5_putEnds 3 = .ok (.istore 4, 2) := by decide +kernel
theorem dX5_putEnds_5 : decode cX5_putEnds 5 = .ok (.iload 4, 2) := by decide +kernel
theorem dX5_putEnds_7 : decode cX5_putEnds 7 = .ok (.iload_n 2, 1) := by decide +kernel
theorem dX5_putEnds_8 : decode cX5_putEnds 8 = .ok (.if_icmp .gt 47, 3) := by decide +kernel
theorem dX5_putEnds_11 : decode cX5_putEnds 11 = .ok (.aload_n 1, 1) := by decide +kernel
theorem dX5_putEnds_12 : decode cX5_putEnds 12 = .ok (.iload_n 3, 1) := by decide +kernel
theorem dX5_putEnds_13 : decode cX5_putEnds 13 = .ok (.invokevirtual 94, 3) := by decide +kernel
theorem dX5_putEnds_16 : decode cX5_putEnds 16 = .ok (.iload_n 2, 1) := by decide +kernel
theorem dX5_putEnds_17 : decode cX5_putEnds 17 = .ok (.iconst 1, 1) := by decide +kernel
theorem dX5_putEnds_18 : decode cX5_putEnds 18 = .ok (.iadd, 1) := by decide +kernel
theorem dX5_putEnds_19 : decode cX5_putEnds 19 = .ok (.if_icmp .ne 36, 3) := by decide +kernel
theorem dX5_putEnds_22 : decode cX5_putEnds 22 = .ok (.aload_n 1, 1) := by decide +kernel
theorem dX5_putEnds_23 : decode cX5_putEnds 23 = .ok (.getfield 65, 3) := by decide +kernel
theorem dX5_putEnds_26 : decode cX5_putEnds 26 = .ok (.iload_n 3, 1) := by decide +kernel
theorem dX5_putEnds_27 : decode cX5_putEnds 27 = .ok (.invokestatic 61, 3) := by decide +kernel
theorem dX5_putEnds_30 : decode cX5_putEnds 30 = .ok (.iconst 3, 1) := by decide +kernel
theorem dX5_putEnds_31 : decode cX5_putEnds 31 = .ok (.if_icmp .lt 9, 3) := by decide +kernel
theorem dX5_putEnds_34 : decode cX5_putEnds 34 = .ok (.aload_n 0, 1) := by decide +kernel
theorem dX5_putEnds_35 : decode cX5_putEnds 35 = .ok (.bipush 41, 2) := by decide +kernel
theorem dX5_putEnds_37 : decode cX5_putEnds 37 = .ok (.invokevirtual 43, 3) := by decide +kernel
theorem dX5_putEnds_40 : decode cX5_putEnds 40 = .ok (.aload_n 1, 1) := by decide +kernel
theorem dX5_putEnds_41 : decode cX5_putEnds 41 = .ok (.getfield 57, 3) := by decide +kernel
theorem dX5_putEnds_44 : decode cX5_putEnds 44 = .ok (.iload_n 3, 1) := by decide +kernel
theorem dX5_putEnds_45 : decode cX5_putEnds 45 = .ok (.invokestatic 61, 3) := by decide +kernel
theorem dX5_putEnds_48 : decode cX5_putEnds 48 = .ok (.istore_n 3, 1) := by decide +kernel
theorem dX5_putEnds_49 : decode cX5_putEnds 49 = .ok (.iinc 4 1, 3) := by decide +kernel
theorem dX5_putEnds_52 : decode cX5_putEnds 52 = .ok (.goto (-47), 3) := by decide +kernel
theorem dX5_putEnds_55 : decode cX5_putEnds 55 = .ok (.return_, 1) := by decide +kernel
theorem dX6_init_0 : decode cX6_init 0 = .ok (.aload_n 0, 1) := by decide +kernel
theorem dX6_init_1 : decode cX6_init 1 = .ok (.invokespecial 1, 3) := by decide +kernel
theorem dX6_init_4 : decode cX6_init 4 = .ok (.aload_n 0, 1) := by decide +kernel
theorem dX6_init_5 : decode cX6_init 5 = .ok (.sipush 400, 3) := by decide +kernel
theorem dX6_init_8 : decode cX6_init 8 = .ok (.newarray .byte, 2) := by decide +kernel
theorem dX6_init_10 : decode cX6_init 10 = .ok (.putfield 9, 3) := by decide +kernel
theorem dX6_init_13 : decode cX6_init 13 = .ok (.aload_n 0, 1) := by decide +kernel
theorem dX6_init_14 : decode cX6_init 14 = .ok (.new 13, 3) := by decide +kernel
theorem dX6_init_17 : decode cX6_init 17 = .ok (.dup, 1) := by decide +kernel
theorem dX6_init_18 : decode cX6_init 18 = .ok (.invokespecial 15, 3) := by decide +kernel
theorem dX6_init_21 : decode cX6_init 21 = .ok (.putfield 16, 3) := by decide +kernel
theorem dX6_init_24 : decode cX6_init 24 = .ok (.aload_n 0, 1) := by decide +kernel
theorem dX6_init_25 : decode cX6_init 25 = .ok (.new 13, 3) := by decide +kernel
theorem dX6_init_28 : decode cX6_init 28 = .ok (.dup, 1) := by decide +kernel
theorem dX6_init_29 : decode cX6_init 29 = .ok (.invokespecial 15, 3) := by decide +kernel
theorem dX6_init_32 : decode cX6_init 32 = .ok (.putfield 20, 3) := by decide +kernel
theorem dX6_init_35 : decode cX6_init 35 = .ok (.aload_n 0, 1) := by decide +kernel
theorem dX6_init_36 : decode cX6_init 36 = .ok (.new 23, 3) := by decide +kernel
theorem dX6_init_39 : decode cX6_init 39 = .ok (.dup, 1) := by decide +kernel
theorem dX6_init_40 : decode cX6_init 40 = .ok (.invokespecial 25, 3) := by decide +kernel
theorem dX6_init_43 : decode cX6_init 43 = .ok (.putfield 26, 3) := by decide +kernel
theorem dX6_init_46 : decode cX6_init 46 = .ok (.aload_n 0, 1) := by decide +kernel
theorem dX6_init_47 : decode cX6_init 47 = .ok (.new 30, 3) := by decide +kernel
theorem dX6_init_50 : decode cX6_init 50 = .ok (.dup, 1) := by decide +kernel
theorem dX6_init_51 : decode cX6_init 51 = .ok (.invokespecial 32, 3) := by decide +kernel
theorem dX6_init_54 : decode cX6_init 54 = .ok (.putfield 33, 3) := by decide +kernel
theorem dX6_init_57 : decode cX6_init 57 = .ok (.aload_n 0, 1) := by decide +kernel
theorem dX6_init_58 : decode cX6_init 58 = .ok (.new 37, 3) := by decide +kernel
theorem dX6_init_61 : decode cX6_init 61 = .ok (.dup, 1) := by decide +kernel
theorem dX6_init_62 : decode cX6_init 62 = .ok (.invokespecial 39, 3) := by decide +kernel
theorem dX6_init_65 : decode cX6_init 65 = .ok (.putfield 40, 3) := by decide +kernel
theorem dX6_init_68 : decode cX6_init 68 = .ok (.aload_n 0, 1) := by decide +kernel
theorem dX6_init_69 : decode cX6_init 69 = .ok (.new 44, 3) := by decide +kernel
theorem dX6_init_72 : decode cX6_init 72 = .ok (.dup, 1) := by decide +kernel
theorem dX6_init_73 : decode cX6_init 73 = .ok (.invokespecial 46, 3) := by decide +kernel
theorem dX6_init_76 : decode cX6_init 76 = .ok (.putfield 47, 3) := by decide +kernel
theorem dX6_init_79 : decode cX6_init 79 = .ok (.return_, 1) := by decide +kernel
theorem dX6_type_0 : decode cX6_type 0 = .ok (.iload_n 3, 1) := by decide +kernel
theorem dX6_type_1 : decode cX6_type 1 = .ok (.ifCond .lt 9, 3) := by decide +kernel
theorem dX6_type_4 : decode cX6_type 4 = .ok (.iload_n 3, 1) := by decide +kernel
theorem dX6_type_5 : decode cX6_type 5 = .ok (.bipush 8, 2) := by decide +kernel
theorem dX6_type_7 : decode cX6_type 7 = .ok (.if_icmp .le 13, 3) := by decide +kernel
theorem dX6_type_10 : decode cX6_type 10 = .ok (.new 51, 3) := by decide +kernel
theorem dX6_type_13 : decode cX6_type 13 = .ok (.dup, 1) := by decide +kernel
theorem dX6_type_14 : decode cX6_type 14 = .ok (.ldc 53, 2) := by decide +kernel
theorem dX6_type_16 : decode cX6_type 16 = .ok (.invokespecial 55, 3) := by decide +kernel
theorem dX6_type_19 : decode cX6_type 19 = .ok (.athrow, 1) := by decide +kernel
theorem dX6_type_20 : decode cX6_type 20 = .ok (.aload_n 0, 1) := by decide +kernel
theorem dX6_type_21 : decode cX6_type 21 = .ok (.getfield 58, 3) := by decide +kernel
theorem dX6_type_24 : decode cX6_type 24 = .ok (.iload_n 3, 1) := by decide +kernel
theorem dX6_type_25 : decode cX6_type 25 = .ok (.iadd, 1) := by decide +kernel
theorem dX6_type_26 : decode cX6_type 26 = .ok (.sipush 400, 3) := by decide +kernel
theorem dX6_type_29 : decode cX6_type 29 = .ok (.if_icmp .le 13, 3) := by decide +kernel
theorem dX6_type_32 : decode cX6_type 32 = .ok (.new 62, 3) := by decide +kernel
theorem dX6_type_35 : decode cX6_type 35 = .ok (.dup, 1) := by decide +kernel
theorem dX6_type_36 : decode cX6_type 36 = .ok (.ldc 64, 2) := by decide +kernel
theorem dX6_type_38 : decode cX6_type 38 = .ok (.invokespecial 66, 3) := by decide +kernel
theorem dX6_type_41 : decode cX6_type 41 = .ok (.athrow, 1) := by decide +kernel
theorem dX6_type_42 : decode cX6_type 42 = .ok (.iconst 0, 1) := by decide +kernel
theorem dX6_type_43 : decode cX6_type 43 = .ok (.istore 4, 2) := by decide +kernel
theorem dX6_type_45 : decode cX6_type 45 = .ok (.iload 4, 2) := by decide +kernel
theorem dX6_type_47 : decode cX6_type 47 = .ok (.iload_n 3, 1) := by decide +kernel
theorem dX6_type_48 : decode cX6_type 48 = .ok (.if_icmp .ge 30, 3) := by decide +kernel
theorem dX6_type_51 : decode cX6_type 51 = .ok (.aload_n 0, 1) := by decide +kernel
theorem dX6_type_52 : decode cX6_type 52 = .ok (.getfield 9, 3) := by decide +kernel
theorem dX6_type_55 : decode cX6_type 55 = .ok (.aload_n 0, 1) := by decide +kernel
theorem dX6_type_56 : decode cX6_type 56 = .ok (.getfield 58, 3) := by decide +kernel
theorem dX6_type_59 : decode cX6_type 59 = .ok (.iload 4, 2) := by decide +kernel
theorem dX6_type_61 : decode cX6_type 61 = .ok (.iadd, 1) := by decide +kernel
theorem dX6_type_62 : decode cX6_type 62 = .ok (.lload_n 1, 1) := by decide +kernel
theorem dX6_type_63 : decode cX6_type 63 = .ok (.bipush 8, 2) := by decide +kernel
theorem dX6_type_65 : decode cX6_type 65 = .ok (.iload 4, 2) := by decide +kernel
theorem dX6_type_67 : decode cX6_type 67 = .ok (.imul, 1) := by decide +kernel
theorem dX6_type_68 : decode cX6_type 68 = .ok (.lushr, 1) := by decide +kernel
theorem dX6_type_69 : decode cX6_type 69 = .ok (.l2i, 1) := by decide +kernel
theorem dX6_type_70 : decode cX6_type 70 = .ok (.i2b, 1) := by decide +kernel
theorem dX6_type_71 : decode cX6_type 71 = .ok (.bastore, 1) := by decide +kernel
theorem dX6_type_72 : decode cX6_type 72 = .ok (.iinc 4 1, 3) := by decide +kernel
theorem dX6_type_75 : decode cX6_type 75 = .ok (.goto (-30), 3) := by decide +kernel
theorem dX6_type_78 : decode cX6_type 78 = .ok (.aload_n 0, 1) := by decide +kernel
theorem dX6_type_79 : decode cX6_type 79 = .ok (.dup, 1) := by decide +kernel
theorem dX6_type_80 : decode cX6_type 80 = .ok (.getfield 58, 3) := by decide +kernel
theorem dX6_type_83 : decode cX6_type 83 = .ok (.iload_n 3, 1) := by decide +kernel
theorem dX6_type_84 : decode cX6_type 84 = .ok (.iadd, 1) := by decide +kernel
theorem dX6_type_85 : decode cX6_type 85 = .ok (.putfield 58, 3) := by decide +kernel
theorem dX6_type_88 : decode cX6_type 88 = .ok (.aload_n 0, 1) := by decide +kernel
theorem dX6_type_89 : decode cX6_type 89 = .ok (.getfield 58, 3) := by decide +kernel
theorem dX6_type_92 : decode cX6_type 92 = .ok (.ireturn, 1) := by decide +kernel
theorem dX6_clear_0 : decode cX6_clear 0 = .ok (.aload_n 0, 1) := by decide +kernel
theorem dX6_clear_1 : decode cX6_clear 1 = .ok (.getfield 58, 3) := by decide +kernel
theorem dX6_clear_4 : decode cX6_clear 4 = .ok (.istore_n 1, 1) := by decide +kernel
theorem dX6_clear_5 : decode cX6_clear 5 = .ok (.aload_n 0, 1) := by decide +kernel
theorem dX6_clear_6 : decode cX6_clear 6 = .ok (.iconst 0, 1) := by decide +kernel
theorem dX6_clear_7 : decode cX6_clear 7 = .ok (.putfield 58, 3) := by decide +kernel
theorem dX6_clear_10 : decode cX6_clear 10 = .ok (.iload_n 1, 1) := by decide +kernel
theorem dX6_clear_11 : decode cX6_clear 11 = .ok (.ireturn, 1) := by decide +kernel
theorem dX6_read_0 : decode cX6_read 0 = .ok (.aload_n 0, 1) := by decide +kernel
theorem dX6_read_1 : decode cX6_read 1 = .ok (.getfield 26, 3) := by decide +kernel
theorem dX6_read_4 : decode cX6_read 4 = .ok (.aload_n 0, 1) := by decide +kernel
theorem dX6_read_5 : decode cX6_read 5 = .ok (.getfield 9, 3) := by decide +kernel
theorem dX6_read_8 : decode cX6_read 8 = .ok (.aload_n 0, 1) := by decide +kernel
theorem dX6_read_9 : decode cX6_read 9 = .ok (.getfield 58, 3) := by decide +kernel
theorem dX6_read_12 : decode cX6_read 12 = .ok (.aload_n 0, 1) := by decide +kernel
theorem dX6_read_13 : decode cX6_read 13 = .ok (.getfield 20, 3) := by decide +kernel
theorem dX6_read_16 : decode cX6_read 16 = .ok (.invokevirtual 67, 3) := by decide +kernel
theorem dX6_read_19 : decode cX6_read 19 = .ok (.istore_n 1, 1) := by decide +kernel
theorem dX6_read_20 : decode cX6_read 20 = .ok (.iload_n 1, 1) := by decide +kernel
theorem dX6_read_21 : decode cX6_read 21 = .ok (.iconst (-1), 1) := by decide +kernel
theorem dX6_read_22 : decode cX6_read 22 = .ok (.if_icmp .ne 7, 3) := by decide +kernel
theorem dX6_read_25 : decode cX6_read 25 = .ok (.aload_n 0, 1) := by decide +kernel
theorem dX6_read_26 : decode cX6_read 26 = .ok (.invokevirtual 71, 3) := by decide +kernel
theorem dX6_read_29 : decode cX6_read 29 = .ok (.iload_n 1, 1) := by decide +kernel
theorem dX6_read_30 : decode cX6_read 30 = .ok (.ireturn, 1) := by decide +kernel
theorem dX6_told_0 : decode cX6_told 0 = .ok (.aload_n 0, 1) := by decide +kernel
theorem dX6_told_1 : decode cX6_told 1 = .ok (.getfield 16, 3) := by decide +kernel
theorem dX6_told_4 : decode cX6_told 4 = .ok (.getfield 74, 3) := by decide +kernel
theorem dX6_told_7 : decode cX6_told 7 = .ok (.ifCond .ne 6, 3) := by decide +kernel
theorem dX6_told_10 : decode cX6_told 10 = .ok (.bipush (-2), 2) := by decide +kernel
theorem dX6_told_12 : decode cX6_told 12 = .ok (.ireturn, 1) := by decide +kernel
theorem dX6_told_13 : decode cX6_told 13 = .ok (.iload_n 1, 1) := by decide +kernel
theorem dX6_told_14 : decode cX6_told 14 = .ok (.tableswitch 102 0 7 #[46, 54, 62, 70, 76, 82, 88, 94], 46) := by decide +kernel
theorem dX6_told_60 : decode cX6_told 60 = .ok (.aload_n 0, 1) := by decide +kernel
theorem dX6_told_61 : decode cX6_told 61 = .ok (.getfield 16, 3) := by decide +kernel
theorem dX6_told_64 : decode cX6_told 64 = .ok (.getfield 74, 3) := by decide +kernel
theorem dX6_told_67 : decode cX6_told 67 = .ok (.ireturn, 1) := by decide +kernel
theorem dX6_told_68 : decode cX6_told 68 = .ok (.aload_n 0, 1) := by decide +kernel
theorem dX6_told_69 : decode cX6_told 69 = .ok (.getfield 16, 3) := by decide +kernel
theorem dX6_told_72 : decode cX6_told 72 = .ok (.getfield 77, 3) := by decide +kernel
theorem dX6_told_75 : decode cX6_told 75 = .ok (.ireturn, 1) := by decide +kernel
theorem dX6_told_76 : decode cX6_told 76 = .ok (.aload_n 0, 1) := by decide +kernel
theorem dX6_told_77 : decode cX6_told 77 = .ok (.getfield 16, 3) := by decide +kernel
theorem dX6_told_80 : decode cX6_told 80 = .ok (.getfield 80, 3) := by decide +kernel
theorem dX6_told_83 : decode cX6_told 83 = .ok (.ireturn, 1) := by decide +kernel
theorem dX6_told_84 : decode cX6_told 84 = .ok (.aload_n 0, 1) := by decide +kernel
theorem dX6_told_85 : decode cX6_told 85 = .ok (.iconst 0, 1) := by decide +kernel
theorem dX6_told_86 : decode cX6_told 86 = .ok (.invokevirtual 83, 3) := by decide +kernel
theorem dX6_told_89 : decode cX6_told 89 = .ok (.ireturn, 1) := by decide +kernel
theorem dX6_told_90 : decode cX6_told 90 = .ok (.aload_n 0, 1) := by decide +kernel
theorem dX6_told_91 : decode cX6_told 91 = .ok (.iconst 1, 1) := by decide +kernel
theorem dX6_told_92 : decode cX6_told 92 = .ok (.invokevirtual 83, 3) := by decide +kernel
theorem dX6_told_95 : decode cX6_told 95 = .ok (.ireturn, 1) := by decide +kernel
theorem dX6_told_96 : decode cX6_told 96 = .ok (.aload_n 0, 1) := by decide +kernel
theorem dX6_told_97 : decode cX6_told 97 = .ok (.iconst 2, 1) := by decide +kernel
theorem dX6_told_98 : decode cX6_told 98 = .ok (.invokevirtual 83, 3) := by decide +kernel
theorem dX6_told_101 : decode cX6_told 101 = .ok (.ireturn, 1) := by decide +kernel
theorem dX6_told_102 : decode cX6_told 102 = .ok (.aload_n 0, 1) := by decide +kernel
theorem dX6_told_103 : decode cX6_told 103 = .ok (.iconst 3, 1) := by decide +kernel
theorem dX6_told_104 : decode cX6_told 104 = .ok (.invokevirtual 83, 3) := by decide +kernel
theorem dX6_told_107 : decode cX6_told 107 = .ok (.ireturn, 1) := by decide +kernel
theorem dX6_told_108 : decode cX6_told 108 = .ok (.aload_n 0, 1) := by decide +kernel
theorem dX6_told_109 : decode cX6_told 109 = .ok (.getfield 40, 3) := by decide +kernel
theorem dX6_told_112 : decode cX6_told 112 = .ok (.getfield 87, 3) := by decide +kernel
theorem dX6_told_115 : decode cX6_told 115 = .ok (.ireturn, 1) := by decide +kernel
theorem dX6_told_116 : decode cX6_told 116 = .ok (.bipush (-2), 2) := by decide +kernel
theorem dX6_told_118 : decode cX6_told 118 = .ok (.ireturn, 1) := by decide +kernel
theorem dX6_expr_0 : decode cX6_expr 0 = .ok (.aload_n 0, 1) := by decide +kernel
theorem dX6_expr_1 : decode cX6_expr 1 = .ok (.iload_n 1, 1) := by decide +kernel
theorem dX6_expr_2 : decode cX6_expr 2 = .ok (.invokevirtual 90, 3) := by decide +kernel
theorem dX6_expr_5 : decode cX6_expr 5 = .ok (.ifCond .ne 6, 3) := by decide +kernel
theorem dX6_expr_8 : decode cX6_expr 8 = .ok (.bipush (-2), 2) := by decide +kernel
theorem dX6_expr_10 : decode cX6_expr 10 = .ok (.ireturn, 1) := by decide +kernel
theorem dX6_expr_11 : decode cX6_expr 11 = .ok (.iload_n 2, 1) := by decide +kernel
theorem dX6_expr_12 : decode cX6_expr 12 = .ok (.tableswitch 128 0 7 #[48, 58, 68, 78, 88, 98, 108, 118], 48) := by decide +kernel
theorem dX6_expr_60 : decode cX6_expr 60 = .ok (.aload_n 0, 1) := by decide +kernel
theorem dX6_expr_61 : decode cX6_expr 61 = .ok (.getfield 16, 3) := by decide +kernel
theorem dX6_expr_64 : decode cX6_expr 64 = .ok (.getfield 94, 3) := by decide +kernel
theorem dX6_expr_67 : decode cX6_expr 67 = .ok (.iload_n 1, 1) := by decide +kernel
theorem dX6_expr_68 : decode cX6_expr 68 = .ok (.iaload, 1) := by decide +kernel
theorem dX6_expr_69 : decode cX6_expr 69 = .ok (.ireturn, 1) := by decide +kernel
theorem dX6_expr_70 : decode cX6_expr 70 = .ok (.aload_n 0, 1) := by decide +kernel
theorem dX6_expr_71 : decode cX6_expr 71 = .ok (.getfield 16, 3) := by decide +kernel
theorem dX6_expr_74 : decode cX6_expr 74 = .ok (.getfield 98, 3) := by decide +kernel
theorem dX6_expr_77 : decode cX6_expr 77 = .ok (.iload_n 1, 1) := by decide +kernel
theorem dX6_expr_78 : decode cX6_expr 78 = .ok (.iaload, 1) := by decide +kernel
theorem dX6_expr_79 : decode cX6_expr 79 = .ok (.ireturn, 1) := by decide +kernel
theorem dX6_expr_80 : decode cX6_expr 80 = .ok (.aload_n 0, 1) := by decide +kernel
theorem dX6_expr_81 : decode cX6_expr 81 = .ok (.getfield 16, 3) := by decide +kernel
theorem dX6_expr_84 : decode cX6_expr 84 = .ok (.getfield 101, 3) := by decide +kernel
theorem dX6_expr_87 : decode cX6_expr 87 = .ok (.iload_n 1, 1) := by decide +kernel
theorem dX6_expr_88 : decode cX6_expr 88 = .ok (.iaload, 1) := by decide +kernel
theorem dX6_expr_89 : decode cX6_expr 89 = .ok (.ireturn, 1) := by decide +kernel
theorem dX6_expr_90 : decode cX6_expr 90 = .ok (.aload_n 0, 1) := by decide +kernel
theorem dX6_expr_91 : decode cX6_expr 91 = .ok (.getfield 16, 3) := by decide +kernel
theorem dX6_expr_94 : decode cX6_expr 94 = .ok (.iload_n 1, 1) := by decide +kernel
theorem dX6_expr_95 : decode cX6_expr 95 = .ok (.iconst 0, 1) := by decide +kernel
theorem dX6_expr_96 : decode cX6_expr 96 = .ok (.invokevirtual 104, 3) := by decide +kernel
theorem dX6_expr_99 : decode cX6_expr 99 = .ok (.ireturn, 1) := by decide +kernel
theorem dX6_expr_100 : decode cX6_expr 100 = .ok (.aload_n 0, 1) := by decide +kernel
theorem dX6_expr_101 : decode cX6_expr 101 = .ok (.getfield 16, 3) := by decide +kernel
theorem dX6_expr_104 : decode cX6_expr 104 = .ok (.iload_n 1, 1) := by decide +kernel
theorem dX6_expr_105 : decode cX6_expr 105 = .ok (.iconst 1, 1) := by decide +kernel
theorem dX6_expr_106 : decode cX6_expr 106 = .ok (.invokevirtual 104, 3) := by decide +kernel
theorem dX6_expr_109 : decode cX6_expr 109 = .ok (.ireturn, 1) := by decide +kernel
theorem dX6_expr_110 : decode cX6_expr 110 = .ok (.aload_n 0, 1) := by decide +kernel
theorem dX6_expr_111 : decode cX6_expr 111 = .ok (.getfield 16, 3) := by decide +kernel
theorem dX6_expr_114 : decode cX6_expr 114 = .ok (.iload_n 1, 1) := by decide +kernel
theorem dX6_expr_115 : decode cX6_expr 115 = .ok (.iconst 2, 1) := by decide +kernel
theorem dX6_expr_116 : decode cX6_expr 116 = .ok (.invokevirtual 104, 3) := by decide +kernel
theorem dX6_expr_119 : decode cX6_expr 119 = .ok (.ireturn, 1) := by decide +kernel
theorem dX6_expr_120 : decode cX6_expr 120 = .ok (.aload_n 0, 1) := by decide +kernel
theorem dX6_expr_121 : decode cX6_expr 121 = .ok (.getfield 16, 3) := by decide +kernel
theorem dX6_expr_124 : decode cX6_expr 124 = .ok (.getfield 108, 3) := by decide +kernel
theorem dX6_expr_127 : decode cX6_expr 127 = .ok (.iload_n 1, 1) := by decide +kernel
theorem dX6_expr_128 : decode cX6_expr 128 = .ok (.iaload, 1) := by decide +kernel
theorem dX6_expr_129 : decode cX6_expr 129 = .ok (.ireturn, 1) := by decide +kernel
theorem dX6_expr_130 : decode cX6_expr 130 = .ok (.aload_n 0, 1) := by decide +kernel
theorem dX6_expr_131 : decode cX6_expr 131 = .ok (.getfield 16, 3) := by decide +kernel
theorem dX6_expr_134 : decode cX6_expr 134 = .ok (.getfield 111, 3) := by decide +kernel
theorem dX6_expr_137 : decode cX6_expr 137 = .ok (.iload_n 1, 1) := by decide +kernel
theorem dX6_expr_138 : decode cX6_expr 138 = .ok (.iaload, 1) := by decide +kernel
theorem dX6_expr_139 : decode cX6_expr 139 = .ok (.ireturn, 1) := by decide +kernel
theorem dX6_expr_140 : decode cX6_expr 140 = .ok (.bipush (-2), 2) := by decide +kernel
theorem dX6_expr_142 : decode cX6_expr 142 = .ok (.ireturn, 1) := by decide +kernel
theorem dX6_flow_0 : decode cX6_flow 0 = .ok (.aload_n 0, 1) := by decide +kernel
theorem dX6_flow_1 : decode cX6_flow 1 = .ok (.iload_n 1, 1) := by decide +kernel
theorem dX6_flow_2 : decode cX6_flow 2 = .ok (.invokevirtual 90, 3) := by decide +kernel
theorem dX6_flow_5 : decode cX6_flow 5 = .ok (.ifCond .eq 15, 3) := by decide +kernel
theorem dX6_flow_8 : decode cX6_flow 8 = .ok (.aload_n 0, 1) := by decide +kernel
theorem dX6_flow_9 : decode cX6_flow 9 = .ok (.getfield 33, 3) := by decide +kernel
theorem dX6_flow_12 : decode cX6_flow 12 = .ok (.getfield 114, 3) := by decide +kernel
theorem dX6_flow_15 : decode cX6_flow 15 = .ok (.iload_n 1, 1) := by decide +kernel
theorem dX6_flow_16 : decode cX6_flow 16 = .ok (.laload, 1) := by decide +kernel
theorem dX6_flow_17 : decode cX6_flow 17 = .ok (.goto 4, 3) := by decide +kernel
theorem dX6_flow_20 : decode cX6_flow 20 = .ok (.lconst 0, 1) := by decide +kernel
theorem dX6_flow_21 : decode cX6_flow 21 = .ok (.lreturn, 1) := by decide +kernel
theorem dX6_flows_0 : decode cX6_flows 0 = .ok (.iload_n 1, 1) := by decide +kernel
theorem dX6_flows_1 : decode cX6_flows 1 = .ok (.ifCond .lt 26, 3) := by decide +kernel
theorem dX6_flows_4 : decode cX6_flows 4 = .ok (.iload_n 1, 1) := by decide +kernel
theorem dX6_flows_5 : decode cX6_flows 5 = .ok (.aload_n 0, 1) := by decide +kernel
theorem dX6_flows_6 : decode cX6_flows 6 = .ok (.getfield 16, 3) := by decide +kernel
theorem dX6_flows_9 : decode cX6_flows 9 = .ok (.getfield 80, 3) := by decide +kernel
theorem dX6_flows_12 : decode cX6_flows 12 = .ok (.if_icmp .ge 15, 3) := by decide +kernel
theorem dX6_flows_15 : decode cX6_flows 15 = .ok (.aload_n 0, 1) := by decide +kernel
theorem dX6_flows_16 : decode cX6_flows 16 = .ok (.getfield 33, 3) := by decide +kernel
theorem dX6_flows_19 : decode cX6_flows 19 = .ok (.getfield 118, 3) := by decide +kernel
theorem dX6_flows_22 : decode cX6_flows 22 = .ok (.iload_n 1, 1) := by decide +kernel
theorem dX6_flows_23 : decode cX6_flows 23 = .ok (.laload, 1) := by decide +kernel
theorem dX6_flows_24 : decode cX6_flows 24 = .ok (.goto 4, 3) := by decide +kernel
theorem dX6_flows_27 : decode cX6_flows 27 = .ok (.lconst 0, 1) := by decide +kernel
theorem dX6_flows_28 : decode cX6_flows 28 = .ok (.lreturn, 1) := by decide +kernel
theorem dX6_function_0 : decode cX6_function 0 = .ok (.aload_n 0, 1) := by decide +kernel
theorem dX6_function_1 : decode cX6_function 1 = .ok (.iload_n 1, 1) := by decide +kernel
theorem dX6_function_2 : decode cX6_function 2 = .ok (.invokevirtual 121, 3) := by decide +kernel
theorem dX6_function_5 : decode cX6_function 5 = .ok (.ifCond .ne 6, 3) := by decide +kernel
theorem dX6_function_8 : decode cX6_function 8 = .ok (.bipush (-2), 2) := by decide +kernel
theorem dX6_function_10 : decode cX6_function 10 = .ok (.ireturn, 1) := by decide +kernel
theorem dX6_function_11 : decode cX6_function 11 = .ok (.aload_n 0, 1) := by decide +kernel
theorem dX6_function_12 : decode cX6_function 12 = .ok (.getfield 16, 3) := by decide +kernel
theorem dX6_function_15 : decode cX6_function 15 = .ok (.getfield 124, 3) := by decide +kernel
theorem dX6_function_18 : decode cX6_function 18 = .ok (.iload_n 1, 1) := by decide +kernel
theorem dX6_function_19 : decode cX6_function 19 = .ok (.iaload, 1) := by decide +kernel
theorem dX6_function_20 : decode cX6_function 20 = .ok (.istore_n 3, 1) := by decide +kernel
theorem dX6_function_21 : decode cX6_function 21 = .ok (.iload_n 2, 1) := by decide +kernel
theorem dX6_function_22 : decode cX6_function 22 = .ok (.tableswitch 104 0 6 #[42, 44, 54, 66, 78, 88, 94], 42) := by decide +kernel
theorem dX6_function_64 : decode cX6_function 64 = .ok (.iload_n 3, 1) := by decide +kernel
theorem dX6_function_65 : decode cX6_function 65 = .ok (.ireturn, 1) := by decide +kernel
theorem dX6_function_66 : decode cX6_function 66 = .ok (.aload_n 0, 1) := by decide +kernel
theorem dX6_function_67 : decode cX6_function 67 = .ok (.getfield 16, 3) := by decide +kernel
theorem dX6_function_70 : decode cX6_function 70 = .ok (.iload_n 3, 1) := by decide +kernel
theorem dX6_function_71 : decode cX6_function 71 = .ok (.iconst 0, 1) := by decide +kernel
theorem dX6_function_72 : decode cX6_function 72 = .ok (.invokevirtual 104, 3) := by decide +kernel
theorem dX6_function_75 : decode cX6_function 75 = .ok (.ireturn, 1) := by decide +kernel
theorem dX6_function_76 : decode cX6_function 76 = .ok (.aload_n 0, 1) := by decide +kernel
theorem dX6_function_77 : decode cX6_function 77 = .ok (.getfield 16, 3) := by decide +kernel
theorem dX6_function_80 : decode cX6_function 80 = .ok (.getfield 98, 3) := by decide +kernel
theorem dX6_function_83 : decode cX6_function 83 = .ok (.iload_n 3, 1) := by decide +kernel
theorem dX6_function_84 : decode cX6_function 84 = .ok (.invokestatic 127, 3) := by decide +kernel
theorem dX6_function_87 : decode cX6_function 87 = .ok (.ireturn, 1) := by decide +kernel
theorem dX6_function_88 : decode cX6_function 88 = .ok (.aload_n 0, 1) := by decide +kernel
theorem dX6_function_89 : decode cX6_function 89 = .ok (.getfield 16, 3) := by decide +kernel
theorem dX6_function_92 : decode cX6_function 92 = .ok (.getfield 131, 3) := by decide +kernel
theorem dX6_function_95 : decode cX6_function 95 = .ok (.iload_n 3, 1) := by decide +kernel
theorem dX6_function_96 : decode cX6_function 96 = .ok (.invokestatic 127, 3) := by decide +kernel
theorem dX6_function_99 : decode cX6_function 99 = .ok (.ireturn, 1) := by decide +kernel
theorem dX6_function_100 : decode cX6_function 100 = .ok (.aload_n 0, 1) := by decide +kernel
theorem dX6_function_101 : decode cX6_function 101 = .ok (.getfield 16, 3) := by decide +kernel
theorem dX6_function_104 : decode cX6_function 104 = .ok (.getfield 134, 3) := by decide +kernel
theorem dX6_function_107 : decode cX6_function 107 = .ok (.iload_n 1, 1) := by decide +kernel
theorem dX6_function_108 : decode cX6_function 108 = .ok (.iaload, 1) := by decide +kernel
theorem dX6_function_109 : decode cX6_function 109 = .ok (.ireturn, 1) := by decide +kernel
theorem dX6_function_110 : decode cX6_function 110 = .ok (.aload_n 0, 1) := by decide +kernel
theorem dX6_function_111 : decode cX6_function 111 = .ok (.iload_n 1, 1) := by decide +kernel
theorem dX6_function_112 : decode cX6_function 112 = .ok (.invokevirtual 137, 3) := by decide +kernel
theorem dX6_function_115 : decode cX6_function 115 = .ok (.ireturn, 1) := by decide +kernel
theorem dX6_function_116 : decode cX6_function 116 = .ok (.aload_n 0, 1) := by decide +kernel
theorem dX6_function_117 : decode cX6_function 117 = .ok (.getfield 33, 3) := by decide +kernel
theorem dX6_function_120 : decode cX6_function 120 = .ok (.iload_n 1, 1) := by decide +kernel
theorem dX6_function_121 : decode cX6_function 121 = .ok (.iload_n 1, 1) := by decide +kernel
theorem dX6_function_122 : decode cX6_function 122 = .ok (.invokevirtual 140, 3) := by decide +kernel
theorem dX6_function_125 : decode cX6_function 125 = .ok (.ireturn, 1) := by decide +kernel
theorem dX6_function_126 : decode cX6_function 126 = .ok (.bipush (-2), 2) := by decide +kernel
theorem dX6_function_128 : decode cX6_function 128 = .ok (.ireturn, 1) := by decide +kernel
theorem dX6_reaches_0 : decode cX6_reaches 0 = .ok (.aload_n 0, 1) := by decide +kernel
theorem dX6_reaches_1 : decode cX6_reaches 1 = .ok (.iload_n 1, 1) := by decide +kernel
theorem dX6_reaches_2 : decode cX6_reaches 2 = .ok (.invokevirtual 121, 3) := by decide +kernel
theorem dX6_reaches_5 : decode cX6_reaches 5 = .ok (.ifCond .eq 23, 3) := by decide +kernel
theorem dX6_reaches_8 : decode cX6_reaches 8 = .ok (.aload_n 0, 1) := by decide +kernel
theorem dX6_reaches_9 : decode cX6_reaches 9 = .ok (.iload_n 2, 1) := by decide +kernel
theorem dX6_reaches_10 : decode cX6_reaches 10 = .ok (.invokevirtual 121, 3) := by decide +kernel
theorem dX6_reaches_13 : decode cX6_reaches 13 = .ok (.ifCond .eq 15, 3) := by decide +kernel
theorem dX6_reaches_16 : decode cX6_reaches 16 = .ok (.aload_n 0, 1) := by decide +kernel
theorem dX6_reaches_17 : decode cX6_reaches 17 = .ok (.getfield 33, 3) := by decide +kernel
theorem dX6_reaches_20 : decode cX6_reaches 20 = .ok (.iload_n 1, 1) := by decide +kernel
theorem dX6_reaches_21 : decode cX6_reaches 21 = .ok (.iload_n 2, 1) := by decide +kernel
theorem dX6_reaches_22 : decode cX6_reaches 22 = .ok (.invokevirtual 140, 3) := by decide +kernel
theorem dX6_reaches_25 : decode cX6_reaches 25 = .ok (.goto 5, 3) := by decide +kernel
theorem dX6_reaches_28 : decode cX6_reaches 28 = .ok (.bipush (-2), 2) := by decide +kernel
theorem dX6_reaches_30 : decode cX6_reaches 30 = .ok (.ireturn, 1) := by decide +kernel
theorem dX6_single_0 : decode cX6_single 0 = .ok (.aload_n 0, 1) := by decide +kernel
theorem dX6_single_1 : decode cX6_single 1 = .ok (.iload_n 1, 1) := by decide +kernel
theorem dX6_single_2 : decode cX6_single 2 = .ok (.bipush 11, 2) := by decide +kernel
theorem dX6_single_4 : decode cX6_single 4 = .ok (.invokevirtual 143, 3) := by decide +kernel
theorem dX6_single_7 : decode cX6_single 7 = .ok (.ifCond .eq 11, 3) := by decide +kernel
theorem dX6_single_10 : decode cX6_single 10 = .ok (.aload_n 0, 1) := by decide +kernel
theorem dX6_single_11 : decode cX6_single 11 = .ok (.iload_n 1, 1) := by decide +kernel
theorem dX6_single_12 : decode cX6_single 12 = .ok (.invokevirtual 147, 3) := by decide +kernel
theorem dX6_single_15 : decode cX6_single 15 = .ok (.goto 5, 3) := by decide +kernel
theorem dX6_single_18 : decode cX6_single 18 = .ok (.bipush (-2), 2) := by decide +kernel
theorem dX6_single_20 : decode cX6_single 20 = .ok (.ireturn, 1) := by decide +kernel
theorem dX6_run_0 : decode cX6_run 0 = .ok (.aload_n 0, 1) := by decide +kernel
theorem dX6_run_1 : decode cX6_run 1 = .ok (.getfield 16, 3) := by decide +kernel
theorem dX6_run_4 : decode cX6_run 4 = .ok (.getfield 74, 3) := by decide +kernel
theorem dX6_run_7 : decode cX6_run 7 = .ok (.ifCond .eq 15, 3) := by decide +kernel
theorem dX6_run_10 : decode cX6_run 10 = .ok (.iload_n 1, 1) := by decide +kernel
theorem dX6_run_11 : decode cX6_run 11 = .ok (.iconst 1, 1) := by decide +kernel
theorem dX6_run_12 : decode cX6_run 12 = .ok (.if_icmp .lt 10, 3) := by decide +kernel
theorem dX6_run_15 : decode cX6_run 15 = .ok (.iload_n 1, 1) := by decide +kernel
theorem dX6_run_16 : decode cX6_run 16 = .ok (.sipush 2000, 3) := by decide +kernel
theorem dX6_run_19 : decode cX6_run 19 = .ok (.if_icmp .le 6, 3) := by decide +kernel
theorem dX6_run_22 : decode cX6_run 22 = .ok (.bipush (-2), 2) := by decide +kernel
theorem dX6_run_24 : decode cX6_run 24 = .ok (.ireturn, 1) := by decide +kernel
theorem dX6_run_25 : decode cX6_run 25 = .ok (.aload_n 0, 1) := by decide +kernel
theorem dX6_run_26 : decode cX6_run 26 = .ok (.getfield 40, 3) := by decide +kernel
theorem dX6_run_29 : decode cX6_run 29 = .ok (.aload_n 0, 1) := by decide +kernel
theorem dX6_run_30 : decode cX6_run 30 = .ok (.getfield 16, 3) := by decide +kernel
theorem dX6_run_33 : decode cX6_run 33 = .ok (.iload_n 1, 1) := by decide +kernel
theorem dX6_run_34 : decode cX6_run 34 = .ok (.invokevirtual 150, 3) := by decide +kernel
theorem dX6_run_37 : decode cX6_run 37 = .ok (.aload_n 0, 1) := by decide +kernel
theorem dX6_run_38 : decode cX6_run 38 = .ok (.getfield 40, 3) := by decide +kernel
theorem dX6_run_41 : decode cX6_run 41 = .ok (.getfield 154, 3) := by decide +kernel
theorem dX6_run_44 : decode cX6_run 44 = .ok (.ireturn, 1) := by decide +kernel
theorem dX6_result_0 : decode cX6_result 0 = .ok (.aload_n 0, 1) := by decide +kernel
theorem dX6_result_1 : decode cX6_result 1 = .ok (.getfield 40, 3) := by decide +kernel
theorem dX6_result_4 : decode cX6_result 4 = .ok (.getfield 157, 3) := by decide +kernel
theorem dX6_result_7 : decode cX6_result 7 = .ok (.lreturn, 1) := by decide +kernel
theorem dX6_used_0 : decode cX6_used 0 = .ok (.aload_n 0, 1) := by decide +kernel
theorem dX6_used_1 : decode cX6_used 1 = .ok (.iload_n 1, 1) := by decide +kernel
theorem dX6_used_2 : decode cX6_used 2 = .ok (.bipush 11, 2) := by decide +kernel
theorem dX6_used_4 : decode cX6_used 4 = .ok (.invokevirtual 143, 3) := by decide +kernel
theorem dX6_used_7 : decode cX6_used 7 = .ok (.ifCond .eq 15, 3) := by decide +kernel
theorem dX6_used_10 : decode cX6_used 10 = .ok (.aload_n 0, 1) := by decide +kernel
theorem dX6_used_11 : decode cX6_used 11 = .ok (.getfield 40, 3) := by decide +kernel
theorem dX6_used_14 : decode cX6_used 14 = .ok (.getfield 161, 3) := by decide +kernel
theorem dX6_used_17 : decode cX6_used 17 = .ok (.iload_n 1, 1) := by decide +kernel
theorem dX6_used_18 : decode cX6_used 18 = .ok (.laload, 1) := by decide +kernel
theorem dX6_used_19 : decode cX6_used 19 = .ok (.goto 4, 3) := by decide +kernel
theorem dX6_used_22 : decode cX6_used 22 = .ok (.lconst 0, 1) := by decide +kernel
theorem dX6_used_23 : decode cX6_used 23 = .ok (.lreturn, 1) := by decide +kernel
theorem dX6_inline_0 : decode cX6_inline 0 = .ok (.aload_n 0, 1) := by decide +kernel
theorem dX6_inline_1 : decode cX6_inline 1 = .ok (.iload_n 1, 1) := by decide +kernel
theorem dX6_inline_2 : decode cX6_inline 2 = .ok (.bipush 11, 2) := by decide +kernel
theorem dX6_inline_4 : decode cX6_inline 4 = .ok (.invokevirtual 143, 3) := by decide +kernel
theorem dX6_inline_7 : decode cX6_inline 7 = .ok (.ifCond .ne 6, 3) := by decide +kernel
theorem dX6_inline_10 : decode cX6_inline 10 = .ok (.bipush (-2), 2) := by decide +kernel
theorem dX6_inline_12 : decode cX6_inline 12 = .ok (.ireturn, 1) := by decide +kernel
theorem dX6_inline_13 : decode cX6_inline 13 = .ok (.aload_n 0, 1) := by decide +kernel
theorem dX6_inline_14 : decode cX6_inline 14 = .ok (.iload_n 1, 1) := by decide +kernel
theorem dX6_inline_15 : decode cX6_inline 15 = .ok (.invokevirtual 164, 3) := by decide +kernel
theorem dX6_inline_18 : decode cX6_inline 18 = .ok (.ifCond .ne 5, 3) := by decide +kernel
theorem dX6_inline_21 : decode cX6_inline 21 = .ok (.iconst (-1), 1) := by decide +kernel
theorem dX6_inline_22 : decode cX6_inline 22 = .ok (.ireturn, 1) := by decide +kernel
theorem dX6_inline_23 : decode cX6_inline 23 = .ok (.aload_n 0, 1) := by decide +kernel
theorem dX6_inline_24 : decode cX6_inline 24 = .ok (.getfield 16, 3) := by decide +kernel
theorem dX6_inline_27 : decode cX6_inline 27 = .ok (.getfield 124, 3) := by decide +kernel
theorem dX6_inline_30 : decode cX6_inline 30 = .ok (.aload_n 0, 1) := by decide +kernel
theorem dX6_inline_31 : decode cX6_inline 31 = .ok (.iload_n 1, 1) := by decide +kernel
theorem dX6_inline_32 : decode cX6_inline 32 = .ok (.invokevirtual 147, 3) := by decide +kernel
theorem dX6_inline_35 : decode cX6_inline 35 = .ok (.invokestatic 127, 3) := by decide +kernel
theorem dX6_inline_38 : decode cX6_inline 38 = .ok (.istore_n 2, 1) := by decide +kernel
theorem dX6_inline_39 : decode cX6_inline 39 = .ok (.aload_n 0, 1) := by decide +kernel
theorem dX6_inline_40 : decode cX6_inline 40 = .ok (.getfield 16, 3) := by decide +kernel
theorem dX6_inline_43 : decode cX6_inline 43 = .ok (.iload_n 2, 1) := by decide +kernel
theorem dX6_inline_44 : decode cX6_inline 44 = .ok (.iconst 0, 1) := by decide +kernel
theorem dX6_inline_45 : decode cX6_inline 45 = .ok (.invokevirtual 104, 3) := by decide +kernel
theorem dX6_inline_48 : decode cX6_inline 48 = .ok (.istore_n 3, 1) := by decide +kernel
theorem dX6_inline_49 : decode cX6_inline 49 = .ok (.aload_n 0, 1) := by decide +kernel
theorem dX6_inline_50 : decode cX6_inline 50 = .ok (.getfield 16, 3) := by decide +kernel
theorem dX6_inline_53 : decode cX6_inline 53 = .ok (.iload_n 1, 1) := by decide +kernel
theorem dX6_inline_54 : decode cX6_inline 54 = .ok (.iconst 1, 1) := by decide +kernel
theorem dX6_inline_55 : decode cX6_inline 55 = .ok (.invokevirtual 104, 3) := by decide +kernel
theorem dX6_inline_58 : decode cX6_inline 58 = .ok (.istore 4, 2) := by decide +kernel
theorem dX6_inline_60 : decode cX6_inline 60 = .ok (.aload_n 0, 1) := by decide +kernel
theorem dX6_inline_61 : decode cX6_inline 61 = .ok (.iload_n 1, 1) := by decide +kernel
theorem dX6_inline_62 : decode cX6_inline 62 = .ok (.iconst 1, 1) := by decide +kernel
theorem dX6_inline_63 : decode cX6_inline 63 = .ok (.iadd, 1) := by decide +kernel
theorem dX6_inline_64 : decode cX6_inline 64 = .ok (.iload 4, 2) := by decide +kernel
theorem dX6_inline_66 : decode cX6_inline 66 = .ok (.iload_n 3, 1) := by decide +kernel
theorem dX6_inline_67 : decode cX6_inline 67 = .ok (.invokevirtual 167, 3) := by decide +kernel
theorem dX6_inline_70 : decode cX6_inline 70 = .ok (.ifCond .ne 5, 3) := by decide +kernel
theorem dX6_inline_73 : decode cX6_inline 73 = .ok (.iconst (-1), 1) := by decide +kernel
theorem dX6_inline_74 : decode cX6_inline 74 = .ok (.ireturn, 1) := by decide +kernel
theorem dX6_inline_75 : decode cX6_inline 75 = .ok (.aload_n 0, 1) := by decide +kernel
theorem dX6_inline_76 : decode cX6_inline 76 = .ok (.getfield 20, 3) := by decide +kernel
theorem dX6_inline_79 : decode cX6_inline 79 = .ok (.iconst 0, 1) := by decide +kernel
theorem dX6_inline_80 : decode cX6_inline 80 = .ok (.putfield 74, 3) := by decide +kernel
theorem dX6_inline_83 : decode cX6_inline 83 = .ok (.aload_n 0, 1) := by decide +kernel
theorem dX6_inline_84 : decode cX6_inline 84 = .ok (.getfield 20, 3) := by decide +kernel
theorem dX6_inline_87 : decode cX6_inline 87 = .ok (.aload_n 0, 1) := by decide +kernel
theorem dX6_inline_88 : decode cX6_inline 88 = .ok (.getfield 16, 3) := by decide +kernel
theorem dX6_inline_91 : decode cX6_inline 91 = .ok (.iconst 0, 1) := by decide +kernel
theorem dX6_inline_92 : decode cX6_inline 92 = .ok (.iload_n 1, 1) := by decide +kernel
theorem dX6_inline_93 : decode cX6_inline 93 = .ok (.iconst 0, 1) := by decide +kernel
theorem dX6_inline_94 : decode cX6_inline 94 = .ok (.invokevirtual 171, 3) := by decide +kernel
theorem dX6_inline_97 : decode cX6_inline 97 = .ok (.aload_n 0, 1) := by decide +kernel
theorem dX6_inline_98 : decode cX6_inline 98 = .ok (.getfield 20, 3) := by decide +kernel
theorem dX6_inline_101 : decode cX6_inline 101 = .ok (.iconst 5, 1) := by decide +kernel
theorem dX6_inline_102 : decode cX6_inline 102 = .ok (.aload_n 0, 1) := by decide +kernel
theorem dX6_inline_103 : decode cX6_inline 103 = .ok (.getfield 16, 3) := by decide +kernel
theorem dX6_inline_106 : decode cX6_inline 106 = .ok (.getfield 98, 3) := by decide +kernel
theorem dX6_inline_109 : decode cX6_inline 109 = .ok (.iload_n 2, 1) := by decide +kernel
theorem dX6_inline_110 : decode cX6_inline 110 = .ok (.invokestatic 127, 3) := by decide +kernel
theorem dX6_inline_113 : decode cX6_inline 113 = .ok (.bipush 100, 2) := by decide +kernel
theorem dX6_inline_115 : decode cX6_inline 115 = .ok (.iadd, 1) := by decide +kernel
theorem dX6_inline_116 : decode cX6_inline 116 = .ok (.iconst (-1), 1) := by decide +kernel
theorem dX6_inline_117 : decode cX6_inline 117 = .ok (.invokevirtual 175, 3) := by decide +kernel
theorem dX6_inline_120 : decode cX6_inline 120 = .ok (.pop, 1) := by decide +kernel
theorem dX6_inline_121 : decode cX6_inline 121 = .ok (.aload_n 0, 1) := by decide +kernel
theorem dX6_inline_122 : decode cX6_inline 122 = .ok (.getfield 20, 3) := by decide +kernel
theorem dX6_inline_125 : decode cX6_inline 125 = .ok (.aload_n 0, 1) := by decide +kernel
theorem dX6_inline_126 : decode cX6_inline 126 = .ok (.getfield 16, 3) := by decide +kernel
theorem dX6_inline_129 : decode cX6_inline 129 = .ok (.iload 4, 2) := by decide +kernel
theorem dX6_inline_131 : decode cX6_inline 131 = .ok (.aload_n 0, 1) := by decide +kernel
theorem dX6_inline_132 : decode cX6_inline 132 = .ok (.getfield 16, 3) := by decide +kernel
theorem dX6_inline_135 : decode cX6_inline 135 = .ok (.iload 4, 2) := by decide +kernel
theorem dX6_inline_137 : decode cX6_inline 137 = .ok (.invokevirtual 179, 3) := by decide +kernel
theorem dX6_inline_140 : decode cX6_inline 140 = .ok (.iconst 0, 1) := by decide +kernel
theorem dX6_inline_141 : decode cX6_inline 141 = .ok (.invokevirtual 171, 3) := by decide +kernel
theorem dX6_inline_144 : decode cX6_inline 144 = .ok (.aload_n 0, 1) := by decide +kernel
theorem dX6_inline_145 : decode cX6_inline 145 = .ok (.getfield 20, 3) := by decide +kernel
theorem dX6_inline_148 : decode cX6_inline 148 = .ok (.aload_n 0, 1) := by decide +kernel
theorem dX6_inline_149 : decode cX6_inline 149 = .ok (.getfield 16, 3) := by decide +kernel
theorem dX6_inline_152 : decode cX6_inline 152 = .ok (.iload_n 3, 1) := by decide +kernel
theorem dX6_inline_153 : decode cX6_inline 153 = .ok (.aload_n 0, 1) := by decide +kernel
theorem dX6_inline_154 : decode cX6_inline 154 = .ok (.getfield 16, 3) := by decide +kernel
theorem dX6_inline_157 : decode cX6_inline 157 = .ok (.iload_n 3, 1) := by decide +kernel
theorem dX6_inline_158 : decode cX6_inline 158 = .ok (.invokevirtual 179, 3) := by decide +kernel
theorem dX6_inline_161 : decode cX6_inline 161 = .ok (.bipush 100, 2) := by decide +kernel
theorem dX6_inline_163 : decode cX6_inline 163 = .ok (.invokevirtual 171, 3) := by decide +kernel
theorem dX6_inline_166 : decode cX6_inline 166 = .ok (.aload_n 0, 1) := by decide +kernel
theorem dX6_inline_167 : decode cX6_inline 167 = .ok (.getfield 20, 3) := by decide +kernel
theorem dX6_inline_170 : decode cX6_inline 170 = .ok (.aload_n 0, 1) := by decide +kernel
theorem dX6_inline_171 : decode cX6_inline 171 = .ok (.getfield 16, 3) := by decide +kernel
theorem dX6_inline_174 : decode cX6_inline 174 = .ok (.aload_n 0, 1) := by decide +kernel
theorem dX6_inline_175 : decode cX6_inline 175 = .ok (.getfield 16, 3) := by decide +kernel
theorem dX6_inline_178 : decode cX6_inline 178 = .ok (.iload_n 1, 1) := by decide +kernel
theorem dX6_inline_179 : decode cX6_inline 179 = .ok (.invokevirtual 179, 3) := by decide +kernel
theorem dX6_inline_182 : decode cX6_inline 182 = .ok (.aload_n 0, 1) := by decide +kernel
theorem dX6_inline_183 : decode cX6_inline 183 = .ok (.getfield 16, 3) := by decide +kernel
theorem dX6_inline_186 : decode cX6_inline 186 = .ok (.getfield 74, 3) := by decide +kernel
theorem dX6_inline_189 : decode cX6_inline 189 = .ok (.iconst 0, 1) := by decide +kernel
theorem dX6_inline_190 : decode cX6_inline 190 = .ok (.invokevirtual 171, 3) := by decide +kernel
theorem dX6_inline_193 : decode cX6_inline 193 = .ok (.aload_n 0, 1) := by decide +kernel
theorem dX6_inline_194 : decode cX6_inline 194 = .ok (.invokevirtual 71, 3) := by decide +kernel
theorem dX6_inline_197 : decode cX6_inline 197 = .ok (.aload_n 0, 1) := by decide +kernel
theorem dX6_inline_198 : decode cX6_inline 198 = .ok (.getfield 16, 3) := by decide +kernel
theorem dX6_inline_201 : decode cX6_inline 201 = .ok (.getfield 74, 3) := by decide +kernel
theorem dX6_inline_204 : decode cX6_inline 204 = .ok (.ireturn, 1) := by decide +kernel
theorem dX6_drop_0 : decode cX6_drop 0 = .ok (.aload_n 0, 1) := by decide +kernel
theorem dX6_drop_1 : decode cX6_drop 1 = .ok (.iload_n 1, 1) := by decide +kernel
theorem dX6_drop_2 : decode cX6_drop 2 = .ok (.iconst 5, 1) := by decide +kernel
theorem dX6_drop_3 : decode cX6_drop 3 = .ok (.invokevirtual 143, 3) := by decide +kernel
theorem dX6_drop_6 : decode cX6_drop 6 = .ok (.ifCond .ne 6, 3) := by decide +kernel
theorem dX6_drop_9 : decode cX6_drop 9 = .ok (.bipush (-2), 2) := by decide +kernel
theorem dX6_drop_11 : decode cX6_drop 11 = .ok (.ireturn, 1) := by decide +kernel
theorem dX6_drop_12 : decode cX6_drop 12 = .ok (.aload_n 0, 1) := by decide +kernel
theorem dX6_drop_13 : decode cX6_drop 13 = .ok (.iload_n 1, 1) := by decide +kernel
theorem dX6_drop_14 : decode cX6_drop 14 = .ok (.invokevirtual 182, 3) := by decide +kernel
theorem dX6_drop_17 : decode cX6_drop 17 = .ok (.ifCond .ne 5, 3) := by decide +kernel
theorem dX6_drop_20 : decode cX6_drop 20 = .ok (.iconst (-1), 1) := by decide +kernel
theorem dX6_drop_21 : decode cX6_drop 21 = .ok (.ireturn, 1) := by decide +kernel
theorem dX6_drop_22 : decode cX6_drop 22 = .ok (.aload_n 0, 1) := by decide +kernel
theorem dX6_drop_23 : decode cX6_drop 23 = .ok (.getfield 20, 3) := by decide +kernel
theorem dX6_drop_26 : decode cX6_drop 26 = .ok (.iconst 0, 1) := by decide +kernel
theorem dX6_drop_27 : decode cX6_drop 27 = .ok (.putfield 74, 3) := by decide +kernel
theorem dX6_drop_30 : decode cX6_drop 30 = .ok (.aload_n 0, 1) := by decide +kernel
theorem dX6_drop_31 : decode cX6_drop 31 = .ok (.getfield 20, 3) := by decide +kernel
theorem dX6_drop_34 : decode cX6_drop 34 = .ok (.aload_n 0, 1) := by decide +kernel
theorem dX6_drop_35 : decode cX6_drop 35 = .ok (.getfield 16, 3) := by decide +kernel
theorem dX6_drop_38 : decode cX6_drop 38 = .ok (.iconst 0, 1) := by decide +kernel
theorem dX6_drop_39 : decode cX6_drop 39 = .ok (.iload_n 1, 1) := by decide +kernel
theorem dX6_drop_40 : decode cX6_drop 40 = .ok (.iconst 0, 1) := by decide +kernel
theorem dX6_drop_41 : decode cX6_drop 41 = .ok (.invokevirtual 171, 3) := by decide +kernel
theorem dX6_drop_44 : decode cX6_drop 44 = .ok (.aload_n 0, 1) := by decide +kernel
theorem dX6_drop_45 : decode cX6_drop 45 = .ok (.getfield 20, 3) := by decide +kernel
theorem dX6_drop_48 : decode cX6_drop 48 = .ok (.aload_n 0, 1) := by decide +kernel
theorem dX6_drop_49 : decode cX6_drop 49 = .ok (.getfield 16, 3) := by decide +kernel
theorem dX6_drop_52 : decode cX6_drop 52 = .ok (.aload_n 0, 1) := by decide +kernel
theorem dX6_drop_53 : decode cX6_drop 53 = .ok (.getfield 16, 3) := by decide +kernel
theorem dX6_drop_56 : decode cX6_drop 56 = .ok (.iload_n 1, 1) := by decide +kernel
theorem dX6_drop_57 : decode cX6_drop 57 = .ok (.iconst 1, 1) := by decide +kernel
theorem dX6_drop_58 : decode cX6_drop 58 = .ok (.invokevirtual 104, 3) := by decide +kernel
theorem dX6_drop_61 : decode cX6_drop 61 = .ok (.aload_n 0, 1) := by decide +kernel
theorem dX6_drop_62 : decode cX6_drop 62 = .ok (.getfield 16, 3) := by decide +kernel
theorem dX6_drop_65 : decode cX6_drop 65 = .ok (.iload_n 1, 1) := by decide +kernel
theorem dX6_drop_66 : decode cX6_drop 66 = .ok (.invokevirtual 179, 3) := by decide +kernel
theorem dX6_drop_69 : decode cX6_drop 69 = .ok (.iconst 0, 1) := by decide +kernel
theorem dX6_drop_70 : decode cX6_drop 70 = .ok (.invokevirtual 171, 3) := by decide +kernel
theorem dX6_drop_73 : decode cX6_drop 73 = .ok (.aload_n 0, 1) := by decide +kernel
theorem dX6_drop_74 : decode cX6_drop 74 = .ok (.getfield 20, 3) := by decide +kernel
theorem dX6_drop_77 : decode cX6_drop 77 = .ok (.aload_n 0, 1) := by decide +kernel
theorem dX6_drop_78 : decode cX6_drop 78 = .ok (.getfield 16, 3) := by decide +kernel
theorem dX6_drop_81 : decode cX6_drop 81 = .ok (.aload_n 0, 1) := by decide +kernel
theorem dX6_drop_82 : decode cX6_drop 82 = .ok (.getfield 16, 3) := by decide +kernel
theorem dX6_drop_85 : decode cX6_drop 85 = .ok (.iload_n 1, 1) := by decide +kernel
theorem dX6_drop_86 : decode cX6_drop 86 = .ok (.invokevirtual 179, 3) := by decide +kernel
theorem dX6_drop_89 : decode cX6_drop 89 = .ok (.aload_n 0, 1) := by decide +kernel
theorem dX6_drop_90 : decode cX6_drop 90 = .ok (.getfield 16, 3) := by decide +kernel
theorem dX6_drop_93 : decode cX6_drop 93 = .ok (.getfield 74, 3) := by decide +kernel
theorem dX6_drop_96 : decode cX6_drop 96 = .ok (.iconst 0, 1) := by decide +kernel
theorem dX6_drop_97 : decode cX6_drop 97 = .ok (.invokevirtual 171, 3) := by decide +kernel
theorem dX6_drop_100 : decode cX6_drop 100 = .ok (.aload_n 0, 1) := by decide +kernel
theorem dX6_drop_101 : decode cX6_drop 101 = .ok (.invokevirtual 71, 3) := by decide +kernel
theorem dX6_drop_104 : decode cX6_drop 104 = .ok (.aload_n 0, 1) := by decide +kernel
theorem dX6_drop_105 : decode cX6_drop 105 = .ok (.getfield 16, 3) := by decide +kernel
theorem dX6_drop_108 : decode cX6_drop 108 = .ok (.getfield 74, 3) := by decide +kernel
theorem dX6_drop_111 : decode cX6_drop 111 = .ok (.ireturn, 1) := by decide +kernel
theorem dX6_write_0 : decode cX6_write 0 = .ok (.aload_n 0, 1) := by decide +kernel
theorem dX6_write_1 : decode cX6_write 1 = .ok (.getfield 16, 3) := by decide +kernel
theorem dX6_write_4 : decode cX6_write 4 = .ok (.getfield 74, 3) := by decide +kernel
theorem dX6_write_7 : decode cX6_write 7 = .ok (.ifCond .ne 6, 3) := by decide +kernel
theorem dX6_write_10 : decode cX6_write 10 = .ok (.bipush (-2), 2) := by decide +kernel
theorem dX6_write_12 : decode cX6_write 12 = .ok (.ireturn, 1) := by decide +kernel
theorem dX6_write_13 : decode cX6_write 13 = .ok (.aload_n 0, 1) := by decide +kernel
theorem dX6_write_14 : decode cX6_write 14 = .ok (.getfield 47, 3) := by decide +kernel
theorem dX6_write_17 : decode cX6_write 17 = .ok (.aload_n 0, 1) := by decide +kernel
theorem dX6_write_18 : decode cX6_write 18 = .ok (.getfield 16, 3) := by decide +kernel
theorem dX6_write_21 : decode cX6_write 21 = .ok (.invokevirtual 185, 3) := by decide +kernel
theorem dX6_write_24 : decode cX6_write 24 = .ok (.aload_n 0, 1) := by decide +kernel
theorem dX6_write_25 : decode cX6_write 25 = .ok (.getfield 47, 3) := by decide +kernel
theorem dX6_write_28 : decode cX6_write 28 = .ok (.getfield 189, 3) := by decide +kernel
theorem dX6_write_31 : decode cX6_write 31 = .ok (.sipush 400, 3) := by decide +kernel
theorem dX6_write_34 : decode cX6_write 34 = .ok (.if_icmp .le 5, 3) := by decide +kernel
theorem dX6_write_37 : decode cX6_write 37 = .ok (.iconst (-1), 1) := by decide +kernel
theorem dX6_write_38 : decode cX6_write 38 = .ok (.ireturn, 1) := by decide +kernel
theorem dX6_write_39 : decode cX6_write 39 = .ok (.aload_n 0, 1) := by decide +kernel
theorem dX6_write_40 : decode cX6_write 40 = .ok (.getfield 47, 3) := by decide +kernel
theorem dX6_write_43 : decode cX6_write 43 = .ok (.getfield 190, 3) := by decide +kernel
theorem dX6_write_46 : decode cX6_write 46 = .ok (.iconst 0, 1) := by decide +kernel
theorem dX6_write_47 : decode cX6_write 47 = .ok (.aload_n 0, 1) := by decide +kernel
theorem dX6_write_48 : decode cX6_write 48 = .ok (.getfield 9, 3) := by decide +kernel
theorem dX6_write_51 : decode cX6_write 51 = .ok (.iconst 0, 1) := by decide +kernel
theorem dX6_write_52 : decode cX6_write 52 = .ok (.aload_n 0, 1) := by decide +kernel
theorem dX6_write_53 : decode cX6_write 53 = .ok (.getfield 47, 3) := by decide +kernel
theorem dX6_write_56 : decode cX6_write 56 = .ok (.getfield 189, 3) := by decide +kernel
theorem dX6_write_59 : decode cX6_write 59 = .ok (.invokestatic 193, 3) := by decide +kernel
theorem dX6_write_62 : decode cX6_write 62 = .ok (.aload_n 0, 1) := by decide +kernel
theorem dX6_write_63 : decode cX6_write 63 = .ok (.aload_n 0, 1) := by decide +kernel
theorem dX6_write_64 : decode cX6_write 64 = .ok (.getfield 47, 3) := by decide +kernel
theorem dX6_write_67 : decode cX6_write 67 = .ok (.getfield 189, 3) := by decide +kernel
theorem dX6_write_70 : decode cX6_write 70 = .ok (.putfield 58, 3) := by decide +kernel
theorem dX6_write_73 : decode cX6_write 73 = .ok (.aload_n 0, 1) := by decide +kernel
theorem dX6_write_74 : decode cX6_write 74 = .ok (.getfield 58, 3) := by decide +kernel
theorem dX6_write_77 : decode cX6_write 77 = .ok (.ireturn, 1) := by decide +kernel
theorem dX6_out_0 : decode cX6_out 0 = .ok (.lconst 0, 1) := by decide +kernel
theorem dX6_out_1 : decode cX6_out 1 = .ok (.lstore_n 2, 1) := by decide +kernel
theorem dX6_out_2 : decode cX6_out 2 = .ok (.iconst 0, 1) := by decide +kernel
theorem dX6_out_3 : decode cX6_out 3 = .ok (.istore 4, 2) := by decide +kernel
theorem dX6_out_5 : decode cX6_out 5 = .ok (.iload 4, 2) := by decide +kernel
theorem dX6_out_7 : decode cX6_out 7 = .ok (.bipush 8, 2) := by decide +kernel
theorem dX6_out_9 : decode cX6_out 9 = .ok (.if_icmp .ge 57, 3) := by decide +kernel
theorem dX6_out_12 : decode cX6_out 12 = .ok (.iload_n 1, 1) := by decide +kernel
theorem dX6_out_13 : decode cX6_out 13 = .ok (.i2l, 1) := by decide +kernel
theorem dX6_out_14 : decode cX6_out 14 = .ok (.iload 4, 2) := by decide +kernel
theorem dX6_out_16 : decode cX6_out 16 = .ok (.i2l, 1) := by decide +kernel
theorem dX6_out_17 : decode cX6_out 17 = .ok (.ladd, 1) := by decide +kernel
theorem dX6_out_18 : decode cX6_out 18 = .ok (.lstore 5, 2) := by decide +kernel
theorem dX6_out_20 : decode cX6_out 20 = .ok (.lload 5, 2) := by decide +kernel
theorem dX6_out_22 : decode cX6_out 22 = .ok (.lconst 0, 1) := by decide +kernel
theorem dX6_out_23 : decode cX6_out 23 = .ok (.lcmp, 1) := by decide +kernel
theorem dX6_out_24 : decode cX6_out 24 = .ok (.ifCond .lt 36, 3) := by decide +kernel
theorem dX6_out_27 : decode cX6_out 27 = .ok (.lload 5, 2) := by decide +kernel
theorem dX6_out_29 : decode cX6_out 29 = .ok (.aload_n 0, 1) := by decide +kernel
theorem dX6_out_30 : decode cX6_out 30 = .ok (.getfield 58, 3) := by decide +kernel
theorem dX6_out_33 : decode cX6_out 33 = .ok (.i2l, 1) := by decide +kernel
theorem dX6_out_34 : decode cX6_out 34 = .ok (.lcmp, 1) := by decide +kernel
theorem dX6_out_35 : decode cX6_out 35 = .ok (.ifCond .ge 25, 3) := by decide +kernel
theorem dX6_out_38 : decode cX6_out 38 = .ok (.lload_n 2, 1) := by decide +kernel
theorem dX6_out_39 : decode cX6_out 39 = .ok (.aload_n 0, 1) := by decide +kernel
theorem dX6_out_40 : decode cX6_out 40 = .ok (.getfield 9, 3) := by decide +kernel
theorem dX6_out_43 : decode cX6_out 43 = .ok (.lload 5, 2) := by decide +kernel
theorem dX6_out_45 : decode cX6_out 45 = .ok (.l2i, 1) := by decide +kernel
theorem dX6_out_46 : decode cX6_out 46 = .ok (.baload, 1) := by decide +kernel
theorem dX6_out_47 : decode cX6_out 47 = .ok (.i2l, 1) := by decide +kernel
theorem dX6_out_48 : decode cX6_out 48 = .ok (.ldc2_w 199, 3) := by decide +kernel
theorem dX6_out_51 : decode cX6_out 51 = .ok (.land, 1) := by decide +kernel
theorem dX6_out_52 : decode cX6_out 52 = .ok (.bipush 8, 2) := by decide +kernel
theorem dX6_out_54 : decode cX6_out 54 = .ok (.iload 4, 2) := by decide +kernel
theorem dX6_out_56 : decode cX6_out 56 = .ok (.imul, 1) := by decide +kernel
theorem dX6_out_57 : decode cX6_out 57 = .ok (.lshl, 1) := by decide +kernel
theorem dX6_out_58 : decode cX6_out 58 = .ok (.lor, 1) := by decide +kernel
theorem dX6_out_59 : decode cX6_out 59 = .ok (.lstore_n 2, 1) := by decide +kernel
theorem dX6_out_60 : decode cX6_out 60 = .ok (.iinc 4 1, 3) := by decide +kernel
theorem dX6_out_63 : decode cX6_out 63 = .ok (.goto (-58), 3) := by decide +kernel
theorem dX6_out_66 : decode cX6_out 66 = .ok (.lload_n 2, 1) := by decide +kernel
theorem dX6_out_67 : decode cX6_out 67 = .ok (.lreturn, 1) := by decide +kernel
theorem dX6_at_0 : decode cX6_at 0 = .ok (.iload_n 1, 1) := by decide +kernel
theorem dX6_at_1 : decode cX6_at 1 = .ok (.ifCond .lt 15, 3) := by decide +kernel
theorem dX6_at_4 : decode cX6_at 4 = .ok (.iload_n 1, 1) := by decide +kernel
theorem dX6_at_5 : decode cX6_at 5 = .ok (.aload_n 0, 1) := by decide +kernel
theorem dX6_at_6 : decode cX6_at 6 = .ok (.arraylength, 1) := by decide +kernel
theorem dX6_at_7 : decode cX6_at 7 = .ok (.if_icmp .ge 9, 3) := by decide +kernel
theorem dX6_at_10 : decode cX6_at 10 = .ok (.aload_n 0, 1) := by decide +kernel
theorem dX6_at_11 : decode cX6_at 11 = .ok (.iload_n 1, 1) := by decide +kernel
theorem dX6_at_12 : decode cX6_at 12 = .ok (.iaload, 1) := by decide +kernel
theorem dX6_at_13 : decode cX6_at 13 = .ok (.goto 4, 3) := by decide +kernel
theorem dX6_at_16 : decode cX6_at 16 = .ok (.iconst (-1), 1) := by decide +kernel
theorem dX6_at_17 : decode cX6_at 17 = .ok (.ireturn, 1) := by decide +kernel
theorem dX6_bitsAt_0 : decode cX6_bitsAt 0 = .ok (.iload_n 1, 1) := by decide +kernel
theorem dX6_bitsAt_1 : decode cX6_bitsAt 1 = .ok (.ifCond .lt 15, 3) := by decide +kernel
theorem dX6_bitsAt_4 : decode cX6_bitsAt 4 = .ok (.iload_n 1, 1) := by decide +kernel
theorem dX6_bitsAt_5 : decode cX6_bitsAt 5 = .ok (.aload_n 0, 1) := by decide +kernel
theorem dX6_bitsAt_6 : decode cX6_bitsAt 6 = .ok (.arraylength, 1) := by decide +kernel
theorem dX6_bitsAt_7 : decode cX6_bitsAt 7 = .ok (.if_icmp .ge 9, 3) := by decide +kernel
theorem dX6_bitsAt_10 : decode cX6_bitsAt 10 = .ok (.aload_n 0, 1) := by decide +kernel
theorem dX6_bitsAt_11 : decode cX6_bitsAt 11 = .ok (.iload_n 1, 1) := by decide +kernel
theorem dX6_bitsAt_12 : decode cX6_bitsAt 12 = .ok (.laload, 1) := by decide +kernel
theorem dX6_bitsAt_13 : decode cX6_bitsAt 13 = .ok (.goto 4, 3) := by decide +kernel
theorem dX6_bitsAt_16 : decode cX6_bitsAt 16 = .ok (.lconst 0, 1) := by decide +kernel
theorem dX6_bitsAt_17 : decode cX6_bitsAt 17 = .ok (.lreturn, 1) := by decide +kernel
theorem dX6_takeSpare_0 : decode cX6_takeSpare 0 = .ok (.aload_n 0, 1) := by decide +kernel
theorem dX6_takeSpare_1 : decode cX6_takeSpare 1 = .ok (.getfield 20, 3) := by decide +kernel
theorem dX6_takeSpare_4 : decode cX6_takeSpare 4 = .ok (.invokevirtual 201, 3) := by decide +kernel
theorem dX6_takeSpare_7 : decode cX6_takeSpare 7 = .ok (.aload_n 0, 1) := by decide +kernel
theorem dX6_takeSpare_8 : decode cX6_takeSpare 8 = .ok (.getfield 16, 3) := by decide +kernel
theorem dX6_takeSpare_11 : decode cX6_takeSpare 11 = .ok (.astore_n 1, 1) := by decide +kernel
theorem dX6_takeSpare_12 : decode cX6_takeSpare 12 = .ok (.aload_n 0, 1) := by decide +kernel
theorem dX6_takeSpare_13 : decode cX6_takeSpare 13 = .ok (.aload_n 0, 1) := by decide +kernel
theorem dX6_takeSpare_14 : decode cX6_takeSpare 14 = .ok (.getfield 20, 3) := by decide +kernel
theorem dX6_takeSpare_17 : decode cX6_takeSpare 17 = .ok (.putfield 16, 3) := by decide +kernel
theorem dX6_takeSpare_20 : decode cX6_takeSpare 20 = .ok (.aload_n 0, 1) := by decide +kernel
theorem dX6_takeSpare_21 : decode cX6_takeSpare 21 = .ok (.aload_n 1, 1) := by decide +kernel
theorem dX6_takeSpare_22 : decode cX6_takeSpare 22 = .ok (.putfield 20, 3) := by decide +kernel
theorem dX6_takeSpare_25 : decode cX6_takeSpare 25 = .ok (.aload_n 0, 1) := by decide +kernel
theorem dX6_takeSpare_26 : decode cX6_takeSpare 26 = .ok (.getfield 33, 3) := by decide +kernel
theorem dX6_takeSpare_29 : decode cX6_takeSpare 29 = .ok (.aload_n 0, 1) := by decide +kernel
theorem dX6_takeSpare_30 : decode cX6_takeSpare 30 = .ok (.getfield 16, 3) := by decide +kernel
theorem dX6_takeSpare_33 : decode cX6_takeSpare 33 = .ok (.invokevirtual 204, 3) := by decide +kernel
theorem dX6_takeSpare_36 : decode cX6_takeSpare 36 = .ok (.aload_n 0, 1) := by decide +kernel
theorem dX6_takeSpare_37 : decode cX6_takeSpare 37 = .ok (.getfield 40, 3) := by decide +kernel
theorem dX6_takeSpare_40 : decode cX6_takeSpare 40 = .ok (.invokevirtual 207, 3) := by decide +kernel
theorem dX6_takeSpare_43 : decode cX6_takeSpare 43 = .ok (.return_, 1) := by decide +kernel
theorem dX6_isLabel_0 : decode cX6_isLabel 0 = .ok (.iload_n 1, 1) := by decide +kernel
theorem dX6_isLabel_1 : decode cX6_isLabel 1 = .ok (.ifCond .lt 18, 3) := by decide +kernel
theorem dX6_isLabel_4 : decode cX6_isLabel 4 = .ok (.iload_n 1, 1) := by decide +kernel
theorem dX6_isLabel_5 : decode cX6_isLabel 5 = .ok (.aload_n 0, 1) := by decide +kernel
theorem dX6_isLabel_6 : decode cX6_isLabel 6 = .ok (.getfield 16, 3) := by decide +kernel
theorem dX6_isLabel_9 : decode cX6_isLabel 9 = .ok (.getfield 74, 3) := by decide +kernel
theorem dX6_isLabel_12 : decode cX6_isLabel 12 = .ok (.if_icmp .ge 7, 3) := by decide +kernel
theorem dX6_isLabel_15 : decode cX6_isLabel 15 = .ok (.iconst 1, 1) := by decide +kernel
theorem dX6_isLabel_16 : decode cX6_isLabel 16 = .ok (.goto 4, 3) := by decide +kernel
theorem dX6_isLabel_19 : decode cX6_isLabel 19 = .ok (.iconst 0, 1) := by decide +kernel
theorem dX6_isLabel_20 : decode cX6_isLabel 20 = .ok (.ireturn, 1) := by decide +kernel
theorem dX6_isOfKind_0 : decode cX6_isOfKind 0 = .ok (.aload_n 0, 1) := by decide +kernel
theorem dX6_isOfKind_1 : decode cX6_isOfKind 1 = .ok (.iload_n 1, 1) := by decide +kernel
theorem dX6_isOfKind_2 : decode cX6_isOfKind 2 = .ok (.invokevirtual 90, 3) := by decide +kernel
theorem dX6_isOfKind_5 : decode cX6_isOfKind 5 = .ok (.ifCond .eq 20, 3) := by decide +kernel
theorem dX6_isOfKind_8 : decode cX6_isOfKind 8 = .ok (.aload_n 0, 1) := by decide +kernel
theorem dX6_isOfKind_9 : decode cX6_isOfKind 9 = .ok (.getfield 16, 3) := by decide +kernel
theorem dX6_isOfKind_12 : decode cX6_isOfKind 12 = .ok (.getfield 94, 3) := by decide +kernel
theorem dX6_isOfKind_15 : decode cX6_isOfKind 15 = .ok (.iload_n 1, 1) := by decide +kernel
theorem dX6_isOfKind_16 : decode cX6_isOfKind 16 = .ok (.iaload, 1) := by decide +kernel
theorem dX6_isOfKind_17 : decode cX6_isOfKind 17 = .ok (.iload_n 2, 1) := by decide +kernel
theorem dX6_isOfKind_18 : decode cX6_isOfKind 18 = .ok (.if_icmp .ne 7, 3) := by decide +kernel
theorem dX6_isOfKind_21 : decode cX6_isOfKind 21 = .ok (.iconst 1, 1) := by decide +kernel
theorem dX6_isOfKind_22 : decode cX6_isOfKind 22 = .ok (.goto 4, 3) := by decide +kernel
theorem dX6_isOfKind_25 : decode cX6_isOfKind 25 = .ok (.iconst 0, 1) := by decide +kernel
theorem dX6_isOfKind_26 : decode cX6_isOfKind 26 = .ok (.ireturn, 1) := by decide +kernel
theorem dX6_isFunction_0 : decode cX6_isFunction 0 = .ok (.iload_n 1, 1) := by decide +kernel
theorem dX6_isFunction_1 : decode cX6_isFunction 1 = .ok (.ifCond .lt 18, 3) := by decide +kernel
theorem dX6_isFunction_4 : decode cX6_isFunction 4 = .ok (.iload_n 1, 1) := by decide +kernel
theorem dX6_isFunction_5 : decode cX6_isFunction 5 = .ok (.aload_n 0, 1) := by decide +kernel
theorem dX6_isFunction_6 : decode cX6_isFunction 6 = .ok (.getfield 16, 3) := by decide +kernel
theorem dX6_isFunction_9 : decode cX6_isFunction 9 = .ok (.getfield 77, 3) := by decide +kernel
theorem dX6_isFunction_12 : decode cX6_isFunction 12 = .ok (.if_icmp .ge 7, 3) := by decide +kernel
theorem dX6_isFunction_15 : decode cX6_isFunction 15 = .ok (.iconst 1, 1) := by decide +kernel
theorem dX6_isFunction_16 : decode cX6_isFunction 16 = .ok (.goto 4, 3) := by decide +kernel
theorem dX6_isFunction_19 : decode cX6_isFunction 19 = .ok (.iconst 0, 1) := by decide +kernel
theorem dX6_isFunction_20 : decode cX6_isFunction 20 = .ok (.ireturn, 1) := by decide +kernel
theorem dX6_operatorFlow_0 : decode cX6_operatorFlow 0 = .ok (.aload_n 0, 1) := by decide +kernel
theorem dX6_operatorFlow_1 : decode cX6_operatorFlow 1 = .ok (.getfield 33, 3) := by decide +kernel
theorem dX6_operatorFlow_4 : decode cX6_operatorFlow 4 = .ok (.getfield 114, 3) := by decide +kernel
theorem dX6_operatorFlow_7 : decode cX6_operatorFlow 7 = .ok (.aload_n 0, 1) := by decide +kernel
theorem dX6_operatorFlow_8 : decode cX6_operatorFlow 8 = .ok (.getfield 16, 3) := by decide +kernel
theorem dX6_operatorFlow_11 : decode cX6_operatorFlow 11 = .ok (.iload_n 1, 1) := by decide +kernel
theorem dX6_operatorFlow_12 : decode cX6_operatorFlow 12 = .ok (.iconst 0, 1) := by decide +kernel
theorem dX6_operatorFlow_13 : decode cX6_operatorFlow 13 = .ok (.invokevirtual 104, 3) := by decide +kernel
theorem dX6_operatorFlow_16 : decode cX6_operatorFlow 16 = .ok (.invokestatic 210, 3) := by decide +kernel
theorem dX6_operatorFlow_19 : decode cX6_operatorFlow 19 = .ok (.lreturn, 1) := by decide +kernel
theorem dX6_onlyFunction_0 : decode cX6_onlyFunction 0 = .ok (.aload_n 0, 1) := by decide +kernel
theorem dX6_onlyFunction_1 : decode cX6_onlyFunction 1 = .ok (.iload_n 1, 1) := by decide +kernel
theorem dX6_onlyFunction_2 : decode cX6_onlyFunction 2 = .ok (.invokevirtual 214, 3) := by decide +kernel
theorem dX6_onlyFunction_5 : decode cX6_onlyFunction 5 = .ok (.lstore_n 2, 1) := by decide +kernel
theorem dX6_onlyFunction_6 : decode cX6_onlyFunction 6 = .ok (.iconst 0, 1) := by decide +kernel
theorem dX6_onlyFunction_7 : decode cX6_onlyFunction 7 = .ok (.istore 4, 2) := by decide +kernel
theorem dX6_onlyFunction_9 : decode cX6_onlyFunction 9 = .ok (.iload 4, 2) := by decide +kernel
theorem dX6_onlyFunction_11 : decode cX6_onlyFunction 11 = .ok (.aload_n 0, 1) := by decide +kernel
theorem dX6_onlyFunction_12 : decode cX6_onlyFunction 12 = .ok (.getfield 16, 3) := by decide +kernel
theorem dX6_onlyFunction_15 : decode cX6_onlyFunction 15 = .ok (.getfield 77, 3) := by decide +kernel
theorem dX6_onlyFunction_18 : decode cX6_onlyFunction 18 = .ok (.if_icmp .ge 21, 3) := by decide +kernel
theorem dX6_onlyFunction_21 : decode cX6_onlyFunction 21 = .ok (.lload_n 2, 1) := by decide +kernel
theorem dX6_onlyFunction_22 : decode cX6_onlyFunction 22 = .ok (.lconst 1, 1) := by decide +kernel
theorem dX6_onlyFunction_23 : decode cX6_onlyFunction 23 = .ok (.iload 4, 2) := by decide +kernel
theorem dX6_onlyFunction_25 : decode cX6_onlyFunction 25 = .ok (.lshl, 1) := by decide +kernel
theorem dX6_onlyFunction_26 : decode cX6_onlyFunction 26 = .ok (.lcmp, 1) := by decide +kernel
theorem dX6_onlyFunction_27 : decode cX6_onlyFunction 27 = .ok (.ifCond .ne 6, 3) := by decide +kernel
theorem dX6_onlyFunction_30 : decode cX6_onlyFunction 30 = .ok (.iload 4, 2) := by decide +kernel
theorem dX6_onlyFunction_32 : decode cX6_onlyFunction 32 = .ok (.ireturn, 1) := by decide +kernel
theorem dX6_onlyFunction_33 : decode cX6_onlyFunction 33 = .ok (.iinc 4 1, 3) := by decide +kernel
theorem dX6_onlyFunction_36 : decode cX6_onlyFunction 36 = .ok (.goto (-27), 3) := by decide +kernel
theorem dX6_onlyFunction_39 : decode cX6_onlyFunction 39 = .ok (.iconst (-1), 1) := by decide +kernel
theorem dX6_onlyFunction_40 : decode cX6_onlyFunction 40 = .ok (.ireturn, 1) := by decide +kernel
theorem dX6_isInlinable_0 : decode cX6_isInlinable 0 = .ok (.aload_n 0, 1) := by decide +kernel
theorem dX6_isInlinable_1 : decode cX6_isInlinable 1 = .ok (.iload_n 1, 1) := by decide +kernel
theorem dX6_isInlinable_2 : decode cX6_isInlinable 2 = .ok (.invokevirtual 147, 3) := by decide +kernel
theorem dX6_isInlinable_5 : decode cX6_isInlinable 5 = .ok (.istore_n 2, 1) := by decide +kernel
theorem dX6_isInlinable_6 : decode cX6_isInlinable 6 = .ok (.iload_n 2, 1) := by decide +kernel
theorem dX6_isInlinable_7 : decode cX6_isInlinable 7 = .ok (.iconst (-1), 1) := by decide +kernel
theorem dX6_isInlinable_8 : decode cX6_isInlinable 8 = .ok (.if_icmp .eq 16, 3) := by decide +kernel
theorem dX6_isInlinable_11 : decode cX6_isInlinable 11 = .ok (.aload_n 0, 1) := by decide +kernel
theorem dX6_isInlinable_12 : decode cX6_isInlinable 12 = .ok (.getfield 33, 3) := by decide +kernel
theorem dX6_isInlinable_15 : decode cX6_isInlinable 15 = .ok (.iload_n 2, 1) := by decide +kernel
theorem dX6_isInlinable_16 : decode cX6_isInlinable 16 = .ok (.iload_n 2, 1) := by decide +kernel
theorem dX6_isInlinable_17 : decode cX6_isInlinable 17 = .ok (.invokevirtual 140, 3) := by decide +kernel
theorem dX6_isInlinable_20 : decode cX6_isInlinable 20 = .ok (.iconst 1, 1) := by decide +kernel
theorem dX6_isInlinable_21 : decode cX6_isInlinable 21 = .ok (.if_icmp .ne 5, 3) := by decide +kernel
theorem dX6_isInlinable_24 : decode cX6_isInlinable 24 = .ok (.iconst 0, 1) := by decide +kernel
theorem dX6_isInlinable_25 : decode cX6_isInlinable 25 = .ok (.ireturn, 1) := by decide +kernel
theorem dX6_isInlinable_26 : decode cX6_isInlinable 26 = .ok (.aload_n 0, 1) := by decide +kernel
theorem dX6_isInlinable_27 : decode cX6_isInlinable 27 = .ok (.getfield 16, 3) := by decide +kernel
theorem dX6_isInlinable_30 : decode cX6_isInlinable 30 = .ok (.getfield 124, 3) := by decide +kernel
theorem dX6_isInlinable_33 : decode cX6_isInlinable 33 = .ok (.iload_n 2, 1) := by decide +kernel
theorem dX6_isInlinable_34 : decode cX6_isInlinable 34 = .ok (.invokestatic 127, 3) := by decide +kernel
theorem dX6_isInlinable_37 : decode cX6_isInlinable 37 = .ok (.istore_n 3, 1) := by decide +kernel
theorem dX6_isInlinable_38 : decode cX6_isInlinable 38 = .ok (.aload_n 0, 1) := by decide +kernel
theorem dX6_isInlinable_39 : decode cX6_isInlinable 39 = .ok (.getfield 16, 3) := by decide +kernel
theorem dX6_isInlinable_42 : decode cX6_isInlinable 42 = .ok (.getfield 94, 3) := by decide +kernel
theorem dX6_isInlinable_45 : decode cX6_isInlinable 45 = .ok (.aload_n 0, 1) := by decide +kernel
theorem dX6_isInlinable_46 : decode cX6_isInlinable 46 = .ok (.getfield 16, 3) := by decide +kernel
theorem dX6_isInlinable_49 : decode cX6_isInlinable 49 = .ok (.iload_n 1, 1) := by decide +kernel
theorem dX6_isInlinable_50 : decode cX6_isInlinable 50 = .ok (.iconst 0, 1) := by decide +kernel
theorem dX6_isInlinable_51 : decode cX6_isInlinable 51 = .ok (.invokevirtual 104, 3) := by decide +kernel
theorem dX6_isInlinable_54 : decode cX6_isInlinable 54 = .ok (.invokestatic 127, 3) := by decide +kernel
theorem dX6_isInlinable_57 : decode cX6_isInlinable 57 = .ok (.istore 4, 2) := by decide +kernel
theorem dX6_isInlinable_59 : decode cX6_isInlinable 59 = .ok (.iload 4, 2) := by decide +kernel
theorem dX6_isInlinable_61 : decode cX6_isInlinable 61 = .ok (.ifCond .eq 9, 3) := by decide +kernel
theorem dX6_isInlinable_64 : decode cX6_isInlinable 64 = .ok (.iload 4, 2) := by decide +kernel
theorem dX6_isInlinable_66 : decode cX6_isInlinable 66 = .ok (.iconst 2, 1) := by decide +kernel
theorem dX6_isInlinable_67 : decode cX6_isInlinable 67 = .ok (.if_icmp .ne 36, 3) := by decide +kernel
theorem dX6_isInlinable_70 : decode cX6_isInlinable 70 = .ok (.aload_n 0, 1) := by decide +kernel
theorem dX6_isInlinable_71 : decode cX6_isInlinable 71 = .ok (.getfield 16, 3) := by decide +kernel
theorem dX6_isInlinable_74 : decode cX6_isInlinable 74 = .ok (.getfield 94, 3) := by decide +kernel
theorem dX6_isInlinable_77 : decode cX6_isInlinable 77 = .ok (.iload_n 3, 1) := by decide +kernel
theorem dX6_isInlinable_78 : decode cX6_isInlinable 78 = .ok (.invokestatic 127, 3) := by decide +kernel
theorem dX6_isInlinable_81 : decode cX6_isInlinable 81 = .ok (.iconst 2, 1) := by decide +kernel
theorem dX6_isInlinable_82 : decode cX6_isInlinable 82 = .ok (.if_icmp .ne 21, 3) := by decide +kernel
theorem dX6_isInlinable_85 : decode cX6_isInlinable 85 = .ok (.aload_n 0, 1) := by decide +kernel
theorem dX6_isInlinable_86 : decode cX6_isInlinable 86 = .ok (.getfield 16, 3) := by decide +kernel
theorem dX6_isInlinable_89 : decode cX6_isInlinable 89 = .ok (.getfield 134, 3) := by decide +kernel
theorem dX6_isInlinable_92 : decode cX6_isInlinable 92 = .ok (.iload_n 2, 1) := by decide +kernel
theorem dX6_isInlinable_93 : decode cX6_isInlinable 93 = .ok (.invokestatic 127, 3) := by decide +kernel
theorem dX6_isInlinable_96 : decode cX6_isInlinable 96 = .ok (.ifCond .ne 7, 3) := by decide +kernel
theorem dX6_isInlinable_99 : decode cX6_isInlinable 99 = .ok (.iconst 1, 1) := by decide +kernel
theorem dX6_isInlinable_100 : decode cX6_isInlinable 100 = .ok (.goto 4, 3) := by decide +kernel
theorem dX6_isInlinable_103 : decode cX6_isInlinable 103 = .ok (.iconst 0, 1) := by decide +kernel
theorem dX6_isInlinable_104 : decode cX6_isInlinable 104 = .ok (.ireturn, 1) := by decide +kernel
theorem dX6_isDroppable_0 : decode cX6_isDroppable 0 = .ok (.aload_n 0, 1) := by decide +kernel
theorem dX6_isDroppable_1 : decode cX6_isDroppable 1 = .ok (.getfield 16, 3) := by decide +kernel
theorem dX6_isDroppable_4 : decode cX6_isDroppable 4 = .ok (.getfield 94, 3) := by decide +kernel
theorem dX6_isDroppable_7 : decode cX6_isDroppable 7 = .ok (.aload_n 0, 1) := by decide +kernel
theorem dX6_isDroppable_8 : decode cX6_isDroppable 8 = .ok (.getfield 16, 3) := by decide +kernel
theorem dX6_isDroppable_11 : decode cX6_isDroppable 11 = .ok (.iload_n 1, 1) := by decide +kernel
theorem dX6_isDroppable_12 : decode cX6_isDroppable 12 = .ok (.iconst 0, 1) := by decide +kernel
theorem dX6_isDroppable_13 : decode cX6_isDroppable 13 = .ok (.invokevirtual 104, 3) := by decide +kernel
theorem dX6_isDroppable_16 : decode cX6_isDroppable 16 = .ok (.invokestatic 127, 3) := by decide +kernel
theorem dX6_isDroppable_19 : decode cX6_isDroppable 19 = .ok (.istore_n 2, 1) := by decide +kernel
theorem dX6_isDroppable_20 : decode cX6_isDroppable 20 = .ok (.iload_n 2, 1) := by decide +kernel
theorem dX6_isDroppable_21 : decode cX6_isDroppable 21 = .ok (.ifCond .eq 18, 3) := by decide +kernel
theorem dX6_isDroppable_24 : decode cX6_isDroppable 24 = .ok (.iload_n 2, 1) := by decide +kernel
theorem dX6_isDroppable_25 : decode cX6_isDroppable 25 = .ok (.iconst 1, 1) := by decide +kernel
theorem dX6_isDroppable_26 : decode cX6_isDroppable 26 = .ok (.if_icmp .eq 13, 3) := by decide +kernel
theorem dX6_isDroppable_29 : decode cX6_isDroppable 29 = .ok (.iload_n 2, 1) := by decide +kernel
theorem dX6_isDroppable_30 : decode cX6_isDroppable 30 = .ok (.iconst 2, 1) := by decide +kernel
theorem dX6_isDroppable_31 : decode cX6_isDroppable 31 = .ok (.if_icmp .eq 8, 3) := by decide +kernel
theorem dX6_isDroppable_34 : decode cX6_isDroppable 34 = .ok (.iload_n 2, 1) := by decide +kernel
theorem dX6_isDroppable_35 : decode cX6_isDroppable 35 = .ok (.iconst 3, 1) := by decide +kernel
theorem dX6_isDroppable_36 : decode cX6_isDroppable 36 = .ok (.if_icmp .ne 31, 3) := by decide +kernel
theorem dX6_isDroppable_39 : decode cX6_isDroppable 39 = .ok (.aload_n 0, 1) := by decide +kernel
theorem dX6_isDroppable_40 : decode cX6_isDroppable 40 = .ok (.getfield 16, 3) := by decide +kernel
theorem dX6_isDroppable_43 : decode cX6_isDroppable 43 = .ok (.getfield 218, 3) := by decide +kernel
theorem dX6_isDroppable_46 : decode cX6_isDroppable 46 = .ok (.aload_n 0, 1) := by decide +kernel
theorem dX6_isDroppable_47 : decode cX6_isDroppable 47 = .ok (.getfield 16, 3) := by decide +kernel
theorem dX6_isDroppable_50 : decode cX6_isDroppable 50 = .ok (.getfield 98, 3) := by decide +kernel
theorem dX6_isDroppable_53 : decode cX6_isDroppable 53 = .ok (.iload_n 1, 1) := by decide +kernel
theorem dX6_isDroppable_54 : decode cX6_isDroppable 54 = .ok (.invokestatic 127, 3) := by decide +kernel
theorem dX6_isDroppable_57 : decode cX6_isDroppable 57 = .ok (.invokestatic 127, 3) := by decide +kernel
theorem dX6_isDroppable_60 : decode cX6_isDroppable 60 = .ok (.ifCond .ne 7, 3) := by decide +kernel
theorem dX6_isDroppable_63 : decode cX6_isDroppable 63 = .ok (.iconst 1, 1) := by decide +kernel
theorem dX6_isDroppable_64 : decode cX6_isDroppable 64 = .ok (.goto 4, 3) := by decide +kernel
theorem dX6_isDroppable_67 : decode cX6_isDroppable 67 = .ok (.iconst 0, 1) := by decide +kernel
theorem dX6_isDroppable_68 : decode cX6_isDroppable 68 = .ok (.ireturn, 1) := by decide +kernel
theorem dX6_hasRoom_0 : decode cX6_hasRoom 0 = .ok (.aload_n 0, 1) := by decide +kernel
theorem dX6_hasRoom_1 : decode cX6_hasRoom 1 = .ok (.getfield 16, 3) := by decide +kernel
theorem dX6_hasRoom_4 : decode cX6_hasRoom 4 = .ok (.iload_n 3, 1) := by decide +kernel
theorem dX6_hasRoom_5 : decode cX6_hasRoom 5 = .ok (.invokevirtual 179, 3) := by decide +kernel
theorem dX6_hasRoom_8 : decode cX6_hasRoom 8 = .ok (.istore 4, 2) := by decide +kernel
theorem dX6_hasRoom_10 : decode cX6_hasRoom 10 = .ok (.aload_n 0, 1) := by decide +kernel
theorem dX6_hasRoom_11 : decode cX6_hasRoom 11 = .ok (.getfield 16, 3) := by decide +kernel
theorem dX6_hasRoom_14 : decode cX6_hasRoom 14 = .ok (.getfield 74, 3) := by decide +kernel
theorem dX6_hasRoom_17 : decode cX6_hasRoom 17 = .ok (.iload_n 2, 1) := by decide +kernel
theorem dX6_hasRoom_18 : decode cX6_hasRoom 18 = .ok (.iload_n 1, 1) := by decide +kernel
theorem dX6_hasRoom_19 : decode cX6_hasRoom 19 = .ok (.isub, 1) := by decide +kernel
theorem dX6_hasRoom_20 : decode cX6_hasRoom 20 = .ok (.isub, 1) := by decide +kernel
theorem dX6_hasRoom_21 : decode cX6_hasRoom 21 = .ok (.iload 4, 2) := by decide +kernel
theorem dX6_hasRoom_23 : decode cX6_hasRoom 23 = .ok (.iload_n 3, 1) := by decide +kernel
theorem dX6_hasRoom_24 : decode cX6_hasRoom 24 = .ok (.isub, 1) := by decide +kernel
theorem dX6_hasRoom_25 : decode cX6_hasRoom 25 = .ok (.iadd, 1) := by decide +kernel
theorem dX6_hasRoom_26 : decode cX6_hasRoom 26 = .ok (.istore 5, 2) := by decide +kernel
theorem dX6_hasRoom_28 : decode cX6_hasRoom 28 = .ok (.aload_n 0, 1) := by decide +kernel
theorem dX6_hasRoom_29 : decode cX6_hasRoom 29 = .ok (.getfield 16, 3) := by decide +kernel
theorem dX6_hasRoom_32 : decode cX6_hasRoom 32 = .ok (.getfield 77, 3) := by decide +kernel
theorem dX6_hasRoom_35 : decode cX6_hasRoom 35 = .ok (.aload_n 0, 1) := by decide +kernel
theorem dX6_hasRoom_36 : decode cX6_hasRoom 36 = .ok (.getfield 16, 3) := by decide +kernel
theorem dX6_hasRoom_39 : decode cX6_hasRoom 39 = .ok (.iload_n 1, 1) := by decide +kernel
theorem dX6_hasRoom_40 : decode cX6_hasRoom 40 = .ok (.iload_n 2, 1) := by decide +kernel
theorem dX6_hasRoom_41 : decode cX6_hasRoom 41 = .ok (.invokevirtual 221, 3) := by decide +kernel
theorem dX6_hasRoom_44 : decode cX6_hasRoom 44 = .ok (.isub, 1) := by decide +kernel
theorem dX6_hasRoom_45 : decode cX6_hasRoom 45 = .ok (.aload_n 0, 1) := by decide +kernel
theorem dX6_hasRoom_46 : decode cX6_hasRoom 46 = .ok (.getfield 16, 3) := by decide +kernel
theorem dX6_hasRoom_49 : decode cX6_hasRoom 49 = .ok (.iload_n 3, 1) := by decide +kernel
theorem dX6_hasRoom_50 : decode cX6_hasRoom 50 = .ok (.iload 4, 2) := by decide +kernel
theorem dX6_hasRoom_52 : decode cX6_hasRoom 52 = .ok (.invokevirtual 221, 3) := by decide +kernel
theorem dX6_hasRoom_55 : decode cX6_hasRoom 55 = .ok (.iadd, 1) := by decide +kernel
theorem dX6_hasRoom_56 : decode cX6_hasRoom 56 = .ok (.istore 6, 2) := by decide +kernel
theorem dX6_hasRoom_58 : decode cX6_hasRoom 58 = .ok (.aload_n 0, 1) := by decide +kernel
theorem dX6_hasRoom_59 : decode cX6_hasRoom 59 = .ok (.getfield 16, 3) := by decide +kernel
theorem dX6_hasRoom_62 : decode cX6_hasRoom 62 = .ok (.getfield 80, 3) := by decide +kernel
theorem dX6_hasRoom_65 : decode cX6_hasRoom 65 = .ok (.aload_n 0, 1) := by decide +kernel
theorem dX6_hasRoom_66 : decode cX6_hasRoom 66 = .ok (.getfield 16, 3) := by decide +kernel
theorem dX6_hasRoom_69 : decode cX6_hasRoom 69 = .ok (.iload_n 1, 1) := by decide +kernel
theorem dX6_hasRoom_70 : decode cX6_hasRoom 70 = .ok (.iload_n 2, 1) := by decide +kernel
theorem dX6_hasRoom_71 : decode cX6_hasRoom 71 = .ok (.invokevirtual 224, 3) := by decide +kernel
theorem dX6_hasRoom_74 : decode cX6_hasRoom 74 = .ok (.isub, 1) := by decide +kernel
theorem dX6_hasRoom_75 : decode cX6_hasRoom 75 = .ok (.aload_n 0, 1) := by decide +kernel
theorem dX6_hasRoom_76 : decode cX6_hasRoom 76 = .ok (.getfield 16, 3) := by decide +kernel
theorem dX6_hasRoom_79 : decode cX6_hasRoom 79 = .ok (.iload_n 3, 1) := by decide +kernel
theorem dX6_hasRoom_80 : decode cX6_hasRoom 80 = .ok (.iload 4, 2) := by decide +kernel
theorem dX6_hasRoom_82 : decode cX6_hasRoom 82 = .ok (.invokevirtual 224, 3) := by decide +kernel
theorem dX6_hasRoom_85 : decode cX6_hasRoom 85 = .ok (.iadd, 1) := by decide +kernel
theorem dX6_hasRoom_86 : decode cX6_hasRoom 86 = .ok (.iconst 1, 1) := by decide +kernel
theorem dX6_hasRoom_87 : decode cX6_hasRoom 87 = .ok (.iadd, 1) := by decide +kernel
theorem dX6_hasRoom_88 : decode cX6_hasRoom 88 = .ok (.istore 7, 2) := by decide +kernel
theorem dX6_hasRoom_90 : decode cX6_hasRoom 90 = .ok (.iload 5, 2) := by decide +kernel
theorem dX6_hasRoom_92 : decode cX6_hasRoom 92 = .ok (.sipush 200, 3) := by decide +kernel
theorem dX6_hasRoom_95 : decode cX6_hasRoom 95 = .ok (.if_icmp .gt 21, 3) := by decide +kernel
theorem dX6_hasRoom_98 : decode cX6_hasRoom 98 = .ok (.iload 6, 2) := by decide +kernel
theorem dX6_hasRoom_100 : decode cX6_hasRoom 100 = .ok (.bipush 50, 2) := by decide +kernel
theorem dX6_hasRoom_102 : decode cX6_hasRoom 102 = .ok (.if_icmp .gt 14, 3) := by decide +kernel
theorem dX6_hasRoom_105 : decode cX6_hasRoom 105 = .ok (.iload 7, 2) := by decide +kernel
theorem dX6_hasRoom_107 : decode cX6_hasRoom 107 = .ok (.bipush 100, 2) := by decide +kernel
theorem dX6_hasRoom_109 : decode cX6_hasRoom 109 = .ok (.if_icmp .gt 7, 3) := by decide +kernel
theorem dX6_hasRoom_112 : decode cX6_hasRoom 112 = .ok (.iconst 1, 1) := by decide +kernel
theorem dX6_hasRoom_113 : decode cX6_hasRoom 113 = .ok (.goto 4, 3) := by decide +kernel
theorem dX6_hasRoom_116 : decode cX6_hasRoom 116 = .ok (.iconst 0, 1) := by decide +kernel
theorem dX6_hasRoom_117 : decode cX6_hasRoom 117 = .ok (.ireturn, 1) := by decide +kernel
theorem dX6_countExprs_0 : decode cX6_countExprs 0 = .ok (.iconst 0, 1) := by decide +kernel
theorem dX6_countExprs_1 : decode cX6_countExprs 1 = .ok (.istore_n 2, 1) := by decide +kernel
theorem dX6_countExprs_2 : decode cX6_countExprs 2 = .ok (.iconst 0, 1) := by decide +kernel
theorem dX6_countExprs_3 : decode cX6_countExprs 3 = .ok (.istore_n 3, 1) := by decide +kernel
theorem dX6_countExprs_4 : decode cX6_countExprs 4 = .ok (.iload_n 3, 1) := by decide +kernel
theorem dX6_countExprs_5 : decode cX6_countExprs 5 = .ok (.aload_n 0, 1) := by decide +kernel
theorem dX6_countExprs_6 : decode cX6_countExprs 6 = .ok (.getfield 16, 3) := by decide +kernel
theorem dX6_countExprs_9 : decode cX6_countExprs 9 = .ok (.getfield 74, 3) := by decide +kernel
theorem dX6_countExprs_12 : decode cX6_countExprs 12 = .ok (.if_icmp .ge 26, 3) := by decide +kernel
theorem dX6_countExprs_15 : decode cX6_countExprs 15 = .ok (.iload_n 2, 1) := by decide +kernel
theorem dX6_countExprs_16 : decode cX6_countExprs 16 = .ok (.aload_n 0, 1) := by decide +kernel
theorem dX6_countExprs_17 : decode cX6_countExprs 17 = .ok (.iload_n 3, 1) := by decide +kernel
theorem dX6_countExprs_18 : decode cX6_countExprs 18 = .ok (.iload_n 1, 1) := by decide +kernel
theorem dX6_countExprs_19 : decode cX6_countExprs 19 = .ok (.invokevirtual 227, 3) := by decide +kernel
theorem dX6_countExprs_22 : decode cX6_countExprs 22 = .ok (.ifCond .eq 7, 3) := by decide +kernel
theorem dX6_countExprs_25 : decode cX6_countExprs 25 = .ok (.iconst 1, 1) := by decide +kernel
theorem dX6_countExprs_26 : decode cX6_countExprs 26 = .ok (.goto 4, 3) := by decide +kernel
theorem dX6_countExprs_29 : decode cX6_countExprs 29 = .ok (.iconst 0, 1) := by decide +kernel
theorem dX6_countExprs_30 : decode cX6_countExprs 30 = .ok (.iadd, 1) := by decide +kernel
theorem dX6_countExprs_31 : decode cX6_countExprs 31 = .ok (.istore_n 2, 1) := by decide +kernel
theorem dX6_countExprs_32 : decode cX6_countExprs 32 = .ok (.iinc 3 1, 3) := by decide +kernel
theorem dX6_countExprs_35 : decode cX6_countExprs 35 = .ok (.goto (-31), 3) := by decide +kernel
theorem dX6_countExprs_38 : decode cX6_countExprs 38 = .ok (.iload_n 2, 1) := by decide +kernel
theorem dX6_countExprs_39 : decode cX6_countExprs 39 = .ok (.ireturn, 1) := by decide +kernel
theorem dX6_isOfSort_0 : decode cX6_isOfSort 0 = .ok (.iload_n 2, 1) := by decide +kernel
theorem dX6_isOfSort_1 : decode cX6_isOfSort 1 = .ok (.tableswitch 84 0 2 #[27, 35, 60], 27) := by decide +kernel
theorem dX6_isOfSort_28 : decode cX6_isOfSort 28 = .ok (.aload_n 0, 1) := by decide +kernel
theorem dX6_isOfSort_29 : decode cX6_isOfSort 29 = .ok (.iload_n 1, 1) := by decide +kernel
theorem dX6_isOfSort_30 : decode cX6_isOfSort 30 = .ok (.bipush 11, 2) := by decide +kernel
theorem dX6_isOfSort_32 : decode cX6_isOfSort 32 = .ok (.invokevirtual 143, 3) := by decide +kernel
theorem dX6_isOfSort_35 : decode cX6_isOfSort 35 = .ok (.ireturn, 1) := by decide +kernel
theorem dX6_isOfSort_36 : decode cX6_isOfSort 36 = .ok (.aload_n 0, 1) := by decide +kernel
theorem dX6_isOfSort_37 : decode cX6_isOfSort 37 = .ok (.iload_n 1, 1) := by decide +kernel
theorem dX6_isOfSort_38 : decode cX6_isOfSort 38 = .ok (.bipush 11, 2) := by decide +kernel
theorem dX6_isOfSort_40 : decode cX6_isOfSort 40 = .ok (.invokevirtual 143, 3) := by decide +kernel
theorem dX6_isOfSort_43 : decode cX6_isOfSort 43 = .ok (.ifCond .eq 16, 3) := by decide +kernel
theorem dX6_isOfSort_46 : decode cX6_isOfSort 46 = .ok (.aload_n 0, 1) := by decide +kernel
theorem dX6_isOfSort_47 : decode cX6_isOfSort 47 = .ok (.iload_n 1, 1) := by decide +kernel
theorem dX6_isOfSort_48 : decode cX6_isOfSort 48 = .ok (.invokevirtual 147, 3) := by decide +kernel
theorem dX6_isOfSort_51 : decode cX6_isOfSort 51 = .ok (.iconst (-1), 1) := by decide +kernel
theorem dX6_isOfSort_52 : decode cX6_isOfSort 52 = .ok (.if_icmp .eq 7, 3) := by decide +kernel
theorem dX6_isOfSort_55 : decode cX6_isOfSort 55 = .ok (.iconst 1, 1) := by decide +kernel
theorem dX6_isOfSort_56 : decode cX6_isOfSort 56 = .ok (.goto 4, 3) := by decide +kernel
theorem dX6_isOfSort_59 : decode cX6_isOfSort 59 = .ok (.iconst 0, 1) := by decide +kernel
theorem dX6_isOfSort_60 : decode cX6_isOfSort 60 = .ok (.ireturn, 1) := by decide +kernel
theorem dX6_isOfSort_61 : decode cX6_isOfSort 61 = .ok (.aload_n 0, 1) := by decide +kernel
theorem dX6_isOfSort_62 : decode cX6_isOfSort 62 = .ok (.iload_n 1, 1) := by decide +kernel
theorem dX6_isOfSort_63 : decode cX6_isOfSort 63 = .ok (.bipush 11, 2) := by decide +kernel
theorem dX6_isOfSort_65 : decode cX6_isOfSort 65 = .ok (.invokevirtual 143, 3) := by decide +kernel
theorem dX6_isOfSort_68 : decode cX6_isOfSort 68 = .ok (.ifCond .eq 15, 3) := by decide +kernel
theorem dX6_isOfSort_71 : decode cX6_isOfSort 71 = .ok (.aload_n 0, 1) := by decide +kernel
theorem dX6_isOfSort_72 : decode cX6_isOfSort 72 = .ok (.iload_n 1, 1) := by decide +kernel
theorem dX6_isOfSort_73 : decode cX6_isOfSort 73 = .ok (.invokevirtual 164, 3) := by decide +kernel
theorem dX6_isOfSort_76 : decode cX6_isOfSort 76 = .ok (.ifCond .eq 7, 3) := by decide +kernel
theorem dX6_isOfSort_79 : decode cX6_isOfSort 79 = .ok (.iconst 1, 1) := by decide +kernel
theorem dX6_isOfSort_80 : decode cX6_isOfSort 80 = .ok (.goto 4, 3) := by decide +kernel
theorem dX6_isOfSort_83 : decode cX6_isOfSort 83 = .ok (.iconst 0, 1) := by decide +kernel
theorem dX6_isOfSort_84 : decode cX6_isOfSort 84 = .ok (.ireturn, 1) := by decide +kernel
theorem dX6_isOfSort_85 : decode cX6_isOfSort 85 = .ok (.aload_n 0, 1) := by decide +kernel
theorem dX6_isOfSort_86 : decode cX6_isOfSort 86 = .ok (.iload_n 1, 1) := by decide +kernel
theorem dX6_isOfSort_87 : decode cX6_isOfSort 87 = .ok (.iconst 5, 1) := by decide +kernel
theorem dX6_isOfSort_88 : decode cX6_isOfSort 88 = .ok (.invokevirtual 143, 3) := by decide +kernel
theorem dX6_isOfSort_91 : decode cX6_isOfSort 91 = .ok (.ifCond .eq 15, 3) := by decide +kernel
theorem dX6_isOfSort_94 : decode cX6_isOfSort 94 = .ok (.aload_n 0, 1) := by decide +kernel
theorem dX6_isOfSort_95 : decode cX6_isOfSort 95 = .ok (.iload_n 1, 1) := by decide +kernel
theorem dX6_isOfSort_96 : decode cX6_isOfSort 96 = .ok (.invokevirtual 182, 3) := by decide +kernel
theorem dX6_isOfSort_99 : decode cX6_isOfSort 99 = .ok (.ifCond .eq 7, 3) := by decide +kernel
theorem dX6_isOfSort_102 : decode cX6_isOfSort 102 = .ok (.iconst 1, 1) := by decide +kernel
theorem dX6_isOfSort_103 : decode cX6_isOfSort 103 = .ok (.goto 4, 3) := by decide +kernel
theorem dX6_isOfSort_106 : decode cX6_isOfSort 106 = .ok (.iconst 0, 1) := by decide +kernel
theorem dX6_isOfSort_107 : decode cX6_isOfSort 107 = .ok (.ireturn, 1) := by decide +kernel
theorem dX6_countCallsInto_0 : decode cX6_countCallsInto 0 = .ok (.iconst 0, 1) := by decide +kernel
theorem dX6_countCallsInto_1 : decode cX6_countCallsInto 1 = .ok (.istore_n 2, 1) := by decide +kernel
theorem dX6_countCallsInto_2 : decode cX6_countCallsInto 2 = .ok (.iconst 0, 1) := by decide +kernel
theorem dX6_countCallsInto_3 : decode cX6_countCallsInto 3 = .ok (.istore_n 3, 1) := by decide +kernel
theorem dX6_countCallsInto_4 : decode cX6_countCallsInto 4 = .ok (.iload_n 3, 1) := by decide +kernel
theorem dX6_countCallsInto_5 : decode cX6_countCallsInto 5 = .ok (.aload_n 0, 1) := by decide +kernel
theorem dX6_countCallsInto_6 : decode cX6_countCallsInto 6 = .ok (.getfield 16, 3) := by decide +kernel
theorem dX6_countCallsInto_9 : decode cX6_countCallsInto 9 = .ok (.getfield 74, 3) := by decide +kernel
theorem dX6_countCallsInto_12 : decode cX6_countCallsInto 12 = .ok (.if_icmp .ge 41, 3) := by decide +kernel
theorem dX6_countCallsInto_15 : decode cX6_countCallsInto 15 = .ok (.iload_n 2, 1) := by decide +kernel
theorem dX6_countCallsInto_16 : decode cX6_countCallsInto 16 = .ok (.aload_n 0, 1) := by decide +kernel
theorem dX6_countCallsInto_17 : decode cX6_countCallsInto 17 = .ok (.iload_n 3, 1) := by decide +kernel
theorem dX6_countCallsInto_18 : decode cX6_countCallsInto 18 = .ok (.bipush 11, 2) := by decide +kernel
theorem dX6_countCallsInto_20 : decode cX6_countCallsInto 20 = .ok (.invokevirtual 143, 3) := by decide +kernel
theorem dX6_countCallsInto_23 : decode cX6_countCallsInto 23 = .ok (.ifCond .eq 21, 3) := by decide +kernel
theorem dX6_countCallsInto_26 : decode cX6_countCallsInto 26 = .ok (.aload_n 0, 1) := by decide +kernel
theorem dX6_countCallsInto_27 : decode cX6_countCallsInto 27 = .ok (.iload_n 3, 1) := by decide +kernel
theorem dX6_countCallsInto_28 : decode cX6_countCallsInto 28 = .ok (.invokevirtual 214, 3) := by decide +kernel
theorem dX6_countCallsInto_31 : decode cX6_countCallsInto 31 = .ok (.iload_n 1, 1) := by decide +kernel
theorem dX6_countCallsInto_32 : decode cX6_countCallsInto 32 = .ok (.lushr, 1) := by decide +kernel
theorem dX6_countCallsInto_33 : decode cX6_countCallsInto 33 = .ok (.lconst 1, 1) := by decide +kernel
theorem dX6_countCallsInto_34 : decode cX6_countCallsInto 34 = .ok (.land, 1) := by decide +kernel
theorem dX6_countCallsInto_35 : decode cX6_countCallsInto 35 = .ok (.lconst 1, 1) := by decide +kernel
theorem dX6_countCallsInto_36 : decode cX6_countCallsInto 36 = .ok (.lcmp, 1) := by decide +kernel
theorem dX6_countCallsInto_37 : decode cX6_countCallsInto 37 = .ok (.ifCond .ne 7, 3) := by decide +kernel
theorem dX6_countCallsInto_40 : decode cX6_countCallsInto 40 = .ok (.iconst 1, 1) := by decide +kernel
theorem dX6_countCallsInto_41 : decode cX6_countCallsInto 41 = .ok (.goto 4, 3) := by decide +kernel
theorem dX6_countCallsInto_44 : decode cX6_countCallsInto 44 = .ok (.iconst 0, 1) := by decide +kernel
theorem dX6_countCallsInto_45 : decode cX6_countCallsInto 45 = .ok (.iadd, 1) := by decide +kernel
theorem dX6_countCallsInto_46 : decode cX6_countCallsInto 46 = .ok (.istore_n 2, 1) := by decide +kernel
theorem dX6_countCallsInto_47 : decode cX6_countCallsInto 47 = .ok (.iinc 3 1, 3) := by decide +kernel
theorem dX6_countCallsInto_50 : decode cX6_countCallsInto 50 = .ok (.goto (-46), 3) := by decide +kernel
theorem dX6_countCallsInto_53 : decode cX6_countCallsInto 53 = .ok (.iload_n 2, 1) := by decide +kernel
theorem dX6_countCallsInto_54 : decode cX6_countCallsInto 54 = .ok (.ireturn, 1) := by decide +kernel
