theorem dX0_init_0 : decode cX0_init 0 = .ok (.aload_n 0, 1) := by decide +kernel
theorem dX0_init_1 : decode cX0_init 1 = .ok (.invokespecial 3, 3) := by decide +kernel
theorem dX0_init_4 : decode cX0_init 4 = .ok (.aload_n 0, 1) := by decide +kernel
theorem dX0_init_5 : decode cX0_init 5 = .ok (.bipush 9, 2) := by decide +kernel
theorem dX0_init_7 : decode cX0_init 7 = .ok (.newarray .int, 2) := by decide +kernel
theorem dX0_init_9 : decode cX0_init 9 = .ok (.putfield 9, 3) := by decide +kernel
theorem dX0_init_12 : decode cX0_init 12 = .ok (.aload_n 0, 1) := by decide +kernel
theorem dX0_init_13 : decode cX0_init 13 = .ok (.iconst 0, 1) := by decide +kernel
theorem dX0_init_14 : decode cX0_init 14 = .ok (.putfield 15, 3) := by decide +kernel
theorem dX0_init_17 : decode cX0_init 17 = .ok (.aload_n 0, 1) := by decide +kernel
theorem dX0_init_18 : decode cX0_init 18 = .ok (.iconst 0, 1) := by decide +kernel
theorem dX0_init_19 : decode cX0_init 19 = .ok (.putfield 19, 3) := by decide +kernel
theorem dX0_init_22 : decode cX0_init 22 = .ok (.return_, 1) := by decide +kernel
theorem dX0_latest_0 : decode cX0_latest 0 = .ok (.aload_n 0, 1) := by decide +kernel
theorem dX0_latest_1 : decode cX0_latest 1 = .ok (.getfield 19, 3) := by decide +kernel
theorem dX0_latest_4 : decode cX0_latest 4 = .ok (.ireturn, 1) := by decide +kernel
theorem dX0_test_0 : decode cX0_test 0 = .ok (.aload_n 0, 1) := by decide +kernel
theorem dX0_test_1 : decode cX0_test 1 = .ok (.iconst 0, 1) := by decide +kernel
theorem dX0_test_2 : decode cX0_test 2 = .ok (.putfield 15, 3) := by decide +kernel
theorem dX0_test_5 : decode cX0_test 5 = .ok (.aload_n 0, 1) := by decide +kernel
theorem dX0_test_6 : decode cX0_test 6 = .ok (.aload_n 1, 1) := by decide +kernel
theorem dX0_test_7 : decode cX0_test 7 = .ok (.aload_n 2, 1) := by decide +kernel
theorem dX0_test_8 : decode cX0_test 8 = .ok (.iconst 0, 1) := by decide +kernel
theorem dX0_test_9 : decode cX0_test 9 = .ok (.iconst 0, 1) := by decide +kernel
theorem dX0_test_10 : decode cX0_test 10 = .ok (.invokevirtual 22, 3) := by decide +kernel
theorem dX0_test_13 : decode cX0_test 13 = .ok (.istore_n 3, 1) := by decide +kernel
theorem dX0_test_14 : decode cX0_test 14 = .ok (.aload_n 0, 1) := by decide +kernel
theorem dX0_test_15 : decode cX0_test 15 = .ok (.invokevirtual 26, 3) := by decide +kernel
theorem dX0_test_18 : decode cX0_test 18 = .ok (.ifCond .eq 6, 3) := by decide +kernel
theorem dX0_test_21 : decode cX0_test 21 = .ok (.bipush (-6), 2) := by decide +kernel
theorem dX0_test_23 : decode cX0_test 23 = .ok (.ireturn, 1) := by decide +kernel
theorem dX0_test_24 : decode cX0_test 24 = .ok (.aload_n 0, 1) := by decide +kernel
theorem dX0_test_25 : decode cX0_test 25 = .ok (.aload_n 0, 1) := by decide +kernel
theorem dX0_test_26 : decode cX0_test 26 = .ok (.getfield 15, 3) := by decide +kernel
theorem dX0_test_29 : decode cX0_test 29 = .ok (.putfield 19, 3) := by decide +kernel
theorem dX0_test_32 : decode cX0_test 32 = .ok (.iload_n 3, 1) := by decide +kernel
theorem dX0_test_33 : decode cX0_test 33 = .ok (.ifCond .eq 7, 3) := by decide +kernel
theorem dX0_test_36 : decode cX0_test 36 = .ok (.iconst 1, 1) := by decide +kernel
theorem dX0_test_37 : decode cX0_test 37 = .ok (.goto 4, 3) := by decide +kernel
theorem dX0_test_40 : decode cX0_test 40 = .ok (.iconst 0, 1) := by decide +kernel
theorem dX0_test_41 : decode cX0_test 41 = .ok (.ireturn, 1) := by decide +kernel
theorem dX0_isSpent_0 : decode cX0_isSpent 0 = .ok (.aload_n 0, 1) := by decide +kernel
theorem dX0_isSpent_1 : decode cX0_isSpent 1 = .ok (.getfield 15, 3) := by decide +kernel
theorem dX0_isSpent_4 : decode cX0_isSpent 4 = .ok (.ldc 30, 2) := by decide +kernel
theorem dX0_isSpent_6 : decode cX0_isSpent 6 = .ok (.if_icmp .le 7, 3) := by decide +kernel
theorem dX0_isSpent_9 : decode cX0_isSpent 9 = .ok (.iconst 1, 1) := by decide +kernel
theorem dX0_isSpent_10 : decode cX0_isSpent 10 = .ok (.goto 4, 3) := by decide +kernel
theorem dX0_isSpent_13 : decode cX0_isSpent 13 = .ok (.iconst 0, 1) := by decide +kernel
theorem dX0_isSpent_14 : decode cX0_isSpent 14 = .ok (.ireturn, 1) := by decide +kernel
theorem dX0_ask_0 : decode cX0_ask 0 = .ok (.aload_n 0, 1) := by decide +kernel
theorem dX0_ask_1 : decode cX0_ask 1 = .ok (.dup, 1) := by decide +kernel
theorem dX0_ask_2 : decode cX0_ask 2 = .ok (.getfield 15, 3) := by decide +kernel
theorem dX0_ask_5 : decode cX0_ask 5 = .ok (.iconst 1, 1) := by decide +kernel
theorem dX0_ask_6 : decode cX0_ask 6 = .ok (.iadd, 1) := by decide +kernel
theorem dX0_ask_7 : decode cX0_ask 7 = .ok (.putfield 15, 3) := by decide +kernel
theorem dX0_ask_10 : decode cX0_ask 10 = .ok (.aload_n 0, 1) := by decide +kernel
theorem dX0_ask_11 : decode cX0_ask 11 = .ok (.invokevirtual 26, 3) := by decide +kernel
theorem dX0_ask_14 : decode cX0_ask 14 = .ok (.ifCond .ne 20, 3) := by decide +kernel
theorem dX0_ask_17 : decode cX0_ask 17 = .ok (.iload_n 3, 1) := by decide +kernel
theorem dX0_ask_18 : decode cX0_ask 18 = .ok (.ifCond .lt 16, 3) := by decide +kernel
theorem dX0_ask_21 : decode cX0_ask 21 = .ok (.iload_n 3, 1) := by decide +kernel
theorem dX0_ask_22 : decode cX0_ask 22 = .ok (.aload_n 1, 1) := by decide +kernel
theorem dX0_ask_23 : decode cX0_ask 23 = .ok (.arraylength, 1) := by decide +kernel
theorem dX0_ask_24 : decode cX0_ask 24 = .ok (.if_icmp .ge 10, 3) := by decide +kernel
theorem dX0_ask_27 : decode cX0_ask 27 = .ok (.iload 4, 2) := by decide +kernel
theorem dX0_ask_29 : decode cX0_ask 29 = .ok (.bipush 30, 2) := by decide +kernel
theorem dX0_ask_31 : decode cX0_ask 31 = .ok (.if_icmp .le 5, 3) := by decide +kernel
theorem dX0_ask_34 : decode cX0_ask 34 = .ok (.iconst 0, 1) := by decide +kernel
theorem dX0_ask_35 : decode cX0_ask 35 = .ok (.ireturn, 1) := by decide +kernel
theorem dX0_ask_36 : decode cX0_ask 36 = .ok (.aload_n 1, 1) := by decide +kernel
theorem dX0_ask_37 : decode cX0_ask 37 = .ok (.iload_n 3, 1) := by decide +kernel
theorem dX0_ask_38 : decode cX0_ask 38 = .ok (.iaload, 1) := by decide +kernel
theorem dX0_ask_39 : decode cX0_ask 39 = .ok (.istore 5, 2) := by decide +kernel
theorem dX0_ask_41 : decode cX0_ask 41 = .ok (.iload 5, 2) := by decide +kernel
theorem dX0_ask_43 : decode cX0_ask 43 = .ok (.invokestatic 31, 3) := by decide +kernel
theorem dX0_ask_46 : decode cX0_ask 46 = .ok (.istore 6, 2) := by decide +kernel
theorem dX0_ask_48 : decode cX0_ask 48 = .ok (.iload 6, 2) := by decide +kernel
theorem dX0_ask_50 : decode cX0_ask 50 = .ok (.bipush 45, 2) := by decide +kernel
theorem dX0_ask_52 : decode cX0_ask 52 = .ok (.if_icmp .ne 25, 3) := by decide +kernel
theorem dX0_ask_55 : decode cX0_ask 55 = .ok (.aload_n 0, 1) := by decide +kernel
theorem dX0_ask_56 : decode cX0_ask 56 = .ok (.aload_n 1, 1) := by decide +kernel
theorem dX0_ask_57 : decode cX0_ask 57 = .ok (.aload_n 2, 1) := by decide +kernel
theorem dX0_ask_58 : decode cX0_ask 58 = .ok (.iload_n 3, 1) := by decide +kernel
theorem dX0_ask_59 : decode cX0_ask 59 = .ok (.iconst 1, 1) := by decide +kernel
theorem dX0_ask_60 : decode cX0_ask 60 = .ok (.iadd, 1) := by decide +kernel
theorem dX0_ask_61 : decode cX0_ask 61 = .ok (.iload 4, 2) := by decide +kernel
theorem dX0_ask_63 : decode cX0_ask 63 = .ok (.iconst 1, 1) := by decide +kernel
theorem dX0_ask_64 : decode cX0_ask 64 = .ok (.iadd, 1) := by decide +kernel
theorem dX0_ask_65 : decode cX0_ask 65 = .ok (.invokevirtual 22, 3) := by decide +kernel
theorem dX0_ask_68 : decode cX0_ask 68 = .ok (.ifCond .ne 7, 3) := by decide +kernel
theorem dX0_ask_71 : decode cX0_ask 71 = .ok (.iconst 1, 1) := by decide +kernel
theorem dX0_ask_72 : decode cX0_ask 72 = .ok (.goto 4, 3) := by decide +kernel
theorem dX0_ask_75 : decode cX0_ask 75 = .ok (.iconst 0, 1) := by decide +kernel
theorem dX0_ask_76 : decode cX0_ask 76 = .ok (.ireturn, 1) := by decide +kernel
theorem dX0_ask_77 : decode cX0_ask 77 = .ok (.iload 6, 2) := by decide +kernel
theorem dX0_ask_79 : decode cX0_ask 79 = .ok (.invokestatic 37, 3) := by decide +kernel
theorem dX0_ask_82 : decode cX0_ask 82 = .ok (.ifCond .eq 25, 3) := by decide +kernel
theorem dX0_ask_85 : decode cX0_ask 85 = .ok (.aload_n 0, 1) := by decide +kernel
theorem dX0_ask_86 : decode cX0_ask 86 = .ok (.aload_n 1, 1) := by decide +kernel
theorem dX0_ask_87 : decode cX0_ask 87 = .ok (.aload_n 2, 1) := by decide +kernel
theorem dX0_ask_88 : decode cX0_ask 88 = .ok (.iload_n 3, 1) := by decide +kernel
theorem dX0_ask_89 : decode cX0_ask 89 = .ok (.iload 4, 2) := by decide +kernel
theorem dX0_ask_91 : decode cX0_ask 91 = .ok (.iload 6, 2) := by decide +kernel
theorem dX0_ask_93 : decode cX0_ask 93 = .ok (.bipush 124, 2) := by decide +kernel
theorem dX0_ask_95 : decode cX0_ask 95 = .ok (.if_icmp .ne 7, 3) := by decide +kernel
theorem dX0_ask_98 : decode cX0_ask 98 = .ok (.iconst 1, 1) := by decide +kernel
theorem dX0_ask_99 : decode cX0_ask 99 = .ok (.goto 4, 3) := by decide +kernel
theorem dX0_ask_102 : decode cX0_ask 102 = .ok (.iconst 0, 1) := by decide +kernel
theorem dX0_ask_103 : decode cX0_ask 103 = .ok (.invokevirtual 41, 3) := by decide +kernel
theorem dX0_ask_106 : decode cX0_ask 106 = .ok (.ireturn, 1) := by decide +kernel
theorem dX0_ask_107 : decode cX0_ask 107 = .ok (.iload 6, 2) := by decide +kernel
theorem dX0_ask_109 : decode cX0_ask 109 = .ok (.invokestatic 45, 3) := by decide +kernel
theorem dX0_ask_112 : decode cX0_ask 112 = .ok (.ifCond .eq 25, 3) := by decide +kernel
theorem dX0_ask_115 : decode cX0_ask 115 = .ok (.aload_n 0, 1) := by decide +kernel
theorem dX0_ask_116 : decode cX0_ask 116 = .ok (.aload_n 1, 1) := by decide +kernel
theorem dX0_ask_117 : decode cX0_ask 117 = .ok (.aload_n 2, 1) := by decide +kernel
theorem dX0_ask_118 : decode cX0_ask 118 = .ok (.iload_n 3, 1) := by decide +kernel
theorem dX0_ask_119 : decode cX0_ask 119 = .ok (.iload 4, 2) := by decide +kernel
theorem dX0_ask_121 : decode cX0_ask 121 = .ok (.iload 6, 2) := by decide +kernel
theorem dX0_ask_123 : decode cX0_ask 123 = .ok (.bipush 63, 2) := by decide +kernel
theorem dX0_ask_125 : decode cX0_ask 125 = .ok (.if_icmp .ne 7, 3) := by decide +kernel
theorem dX0_ask_128 : decode cX0_ask 128 = .ok (.iconst 1, 1) := by decide +kernel
theorem dX0_ask_129 : decode cX0_ask 129 = .ok (.goto 4, 3) := by decide +kernel
theorem dX0_ask_132 : decode cX0_ask 132 = .ok (.iconst 0, 1) := by decide +kernel
theorem dX0_ask_133 : decode cX0_ask 133 = .ok (.invokevirtual 48, 3) := by decide +kernel
theorem dX0_ask_136 : decode cX0_ask 136 = .ok (.ireturn, 1) := by decide +kernel
theorem dX0_ask_137 : decode cX0_ask 137 = .ok (.aload_n 2, 1) := by decide +kernel
theorem dX0_ask_138 : decode cX0_ask 138 = .ok (.iload 6, 2) := by decide +kernel
theorem dX0_ask_140 : decode cX0_ask 140 = .ok (.aload_n 0, 1) := by decide +kernel
theorem dX0_ask_141 : decode cX0_ask 141 = .ok (.iload 5, 2) := by decide +kernel
theorem dX0_ask_143 : decode cX0_ask 143 = .ok (.invokestatic 51, 3) := by decide +kernel
theorem dX0_ask_146 : decode cX0_ask 146 = .ok (.invokevirtual 54, 3) := by decide +kernel
theorem dX0_ask_149 : decode cX0_ask 149 = .ok (.aload_n 0, 1) := by decide +kernel
theorem dX0_ask_150 : decode cX0_ask 150 = .ok (.iload 5, 2) := by decide +kernel
theorem dX0_ask_152 : decode cX0_ask 152 = .ok (.invokestatic 57, 3) := by decide +kernel
theorem dX0_ask_155 : decode cX0_ask 155 = .ok (.invokevirtual 54, 3) := by decide +kernel
theorem dX0_ask_158 : decode cX0_ask 158 = .ok (.invokevirtual 60, 3) := by decide +kernel
theorem dX0_ask_161 : decode cX0_ask 161 = .ok (.ireturn, 1) := by decide +kernel
theorem dX0_askParts_0 : decode cX0_askParts 0 = .ok (.iload_n 3, 1) := by decide +kernel
theorem dX0_askParts_1 : decode cX0_askParts 1 = .ok (.ifCond .lt 9, 3) := by decide +kernel
theorem dX0_askParts_4 : decode cX0_askParts 4 = .ok (.iload_n 3, 1) := by decide +kernel
theorem dX0_askParts_5 : decode cX0_askParts 5 = .ok (.aload_n 1, 1) := by decide +kernel
theorem dX0_askParts_6 : decode cX0_askParts 6 = .ok (.arraylength, 1) := by decide +kernel
theorem dX0_askParts_7 : decode cX0_askParts 7 = .ok (.if_icmp .lt 5, 3) := by decide +kernel
theorem dX0_askParts_10 : decode cX0_askParts 10 = .ok (.iconst 0, 1) := by decide +kernel
theorem dX0_askParts_11 : decode cX0_askParts 11 = .ok (.ireturn, 1) := by decide +kernel
theorem dX0_askParts_12 : decode cX0_askParts 12 = .ok (.aload_n 1, 1) := by decide +kernel
theorem dX0_askParts_13 : decode cX0_askParts 13 = .ok (.arraylength, 1) := by decide +kernel
theorem dX0_askParts_14 : decode cX0_askParts 14 = .ok (.iload_n 3, 1) := by decide +kernel
theorem dX0_askParts_15 : decode cX0_askParts 15 = .ok (.aload_n 1, 1) := by decide +kernel
theorem dX0_askParts_16 : decode cX0_askParts 16 = .ok (.iload_n 3, 1) := by decide +kernel
theorem dX0_askParts_17 : decode cX0_askParts 17 = .ok (.iaload, 1) := by decide +kernel
theorem dX0_askParts_18 : decode cX0_askParts 18 = .ok (.invokestatic 66, 3) := by decide +kernel
theorem dX0_askParts_21 : decode cX0_askParts 21 = .ok (.iadd, 1) := by decide +kernel
theorem dX0_askParts_22 : decode cX0_askParts 22 = .ok (.invokestatic 69, 3) := by decide +kernel
theorem dX0_askParts_25 : decode cX0_askParts 25 = .ok (.istore 6, 2) := by decide +kernel
theorem dX0_askParts_27 : decode cX0_askParts 27 = .ok (.iload_n 3, 1) := by decide +kernel
theorem dX0_askParts_28 : decode cX0_askParts 28 = .ok (.iconst 1, 1) := by decide +kernel
theorem dX0_askParts_29 : decode cX0_askParts 29 = .ok (.iadd, 1) := by decide +kernel
theorem dX0_askParts_30 : decode cX0_askParts 30 = .ok (.istore 7, 2) := by decide +kernel
theorem dX0_askParts_32 : decode cX0_askParts 32 = .ok (.iload 7, 2) := by decide +kernel
theorem dX0_askParts_34 : decode cX0_askParts 34 = .ok (.iload 6, 2) := by decide +kernel
theorem dX0_askParts_36 : decode cX0_askParts 36 = .ok (.if_icmp .ge 45, 3) := by decide +kernel
theorem dX0_askParts_39 : decode cX0_askParts 39 = .ok (.aload_n 0, 1) := by decide +kernel
theorem dX0_askParts_40 : decode cX0_askParts 40 = .ok (.invokevirtual 26, 3) := by decide +kernel
theorem dX0_askParts_43 : decode cX0_askParts 43 = .ok (.ifCond .ne 38, 3) := by decide +kernel
theorem dX0_askParts_46 : decode cX0_askParts 46 = .ok (.aload_n 0, 1) := by decide +kernel
theorem dX0_askParts_47 : decode cX0_askParts 47 = .ok (.aload_n 1, 1) := by decide +kernel
theorem dX0_askParts_48 : decode cX0_askParts 48 = .ok (.aload_n 2, 1) := by decide +kernel
theorem dX0_askParts_49 : decode cX0_askParts 49 = .ok (.iload 7, 2) := by decide +kernel
theorem dX0_askParts_51 : decode cX0_askParts 51 = .ok (.iload 4, 2) := by decide +kernel
theorem dX0_askParts_53 : decode cX0_askParts 53 = .ok (.iconst 1, 1) := by decide +kernel
theorem dX0_askParts_54 : decode cX0_askParts 54 = .ok (.iadd, 1) := by decide +kernel
theorem dX0_askParts_55 : decode cX0_askParts 55 = .ok (.invokevirtual 22, 3) := by decide +kernel
theorem dX0_askParts_58 : decode cX0_askParts 58 = .ok (.iload 5, 2) := by decide +kernel
theorem dX0_askParts_60 : decode cX0_askParts 60 = .ok (.if_icmp .ne 6, 3) := by decide +kernel
theorem dX0_askParts_63 : decode cX0_askParts 63 = .ok (.iload 5, 2) := by decide +kernel
theorem dX0_askParts_65 : decode cX0_askParts 65 = .ok (.ireturn, 1) := by decide +kernel
theorem dX0_askParts_66 : decode cX0_askParts 66 = .ok (.iload 7, 2) := by decide +kernel
theorem dX0_askParts_68 : decode cX0_askParts 68 = .ok (.aload_n 1, 1) := by decide +kernel
theorem dX0_askParts_69 : decode cX0_askParts 69 = .ok (.iload 7, 2) := by decide +kernel
theorem dX0_askParts_71 : decode cX0_askParts 71 = .ok (.iaload, 1) := by decide +kernel
theorem dX0_askParts_72 : decode cX0_askParts 72 = .ok (.invokestatic 66, 3) := by decide +kernel
theorem dX0_askParts_75 : decode cX0_askParts 75 = .ok (.iadd, 1) := by decide +kernel
theorem dX0_askParts_76 : decode cX0_askParts 76 = .ok (.istore 7, 2) := by decide +kernel
theorem dX0_askParts_78 : decode cX0_askParts 78 = .ok (.goto (-46), 3) := by decide +kernel
theorem dX0_askParts_81 : decode cX0_askParts 81 = .ok (.iload 5, 2) := by decide +kernel
theorem dX0_askParts_83 : decode cX0_askParts 83 = .ok (.ifCond .ne 7, 3) := by decide +kernel
theorem dX0_askParts_86 : decode cX0_askParts 86 = .ok (.iconst 1, 1) := by decide +kernel
theorem dX0_askParts_87 : decode cX0_askParts 87 = .ok (.goto 4, 3) := by decide +kernel
theorem dX0_askParts_90 : decode cX0_askParts 90 = .ok (.iconst 0, 1) := by decide +kernel
theorem dX0_askParts_91 : decode cX0_askParts 91 = .ok (.ireturn, 1) := by decide +kernel
theorem dX0_askThings_0 : decode cX0_askThings 0 = .ok (.iload_n 3, 1) := by decide +kernel
theorem dX0_askThings_1 : decode cX0_askThings 1 = .ok (.ifCond .lt 18, 3) := by decide +kernel
theorem dX0_askThings_4 : decode cX0_askThings 4 = .ok (.iload_n 3, 1) := by decide +kernel
theorem dX0_askThings_5 : decode cX0_askThings 5 = .ok (.aload_n 1, 1) := by decide +kernel
theorem dX0_askThings_6 : decode cX0_askThings 6 = .ok (.arraylength, 1) := by decide +kernel
theorem dX0_askThings_7 : decode cX0_askThings 7 = .ok (.if_icmp .ge 12, 3) := by decide +kernel
theorem dX0_askThings_10 : decode cX0_askThings 10 = .ok (.aload_n 1, 1) := by decide +kernel
theorem dX0_askThings_11 : decode cX0_askThings 11 = .ok (.iload_n 3, 1) := by decide +kernel
theorem dX0_askThings_12 : decode cX0_askThings 12 = .ok (.iaload, 1) := by decide +kernel
theorem dX0_askThings_13 : decode cX0_askThings 13 = .ok (.invokestatic 51, 3) := by decide +kernel
theorem dX0_askThings_16 : decode cX0_askThings 16 = .ok (.goto 4, 3) := by decide +kernel
theorem dX0_askThings_19 : decode cX0_askThings 19 = .ok (.iconst 0, 1) := by decide +kernel
theorem dX0_askThings_20 : decode cX0_askThings 20 = .ok (.istore 6, 2) := by decide +kernel
theorem dX0_askThings_22 : decode cX0_askThings 22 = .ok (.iload 6, 2) := by decide +kernel
theorem dX0_askThings_24 : decode cX0_askThings 24 = .ok (.aload_n 0, 1) := by decide +kernel
theorem dX0_askThings_25 : decode cX0_askThings 25 = .ok (.getfield 9, 3) := by decide +kernel
theorem dX0_askThings_28 : decode cX0_askThings 28 = .ok (.arraylength, 1) := by decide +kernel
theorem dX0_askThings_29 : decode cX0_askThings 29 = .ok (.if_icmp .lt 5, 3) := by decide +kernel
theorem dX0_askThings_32 : decode cX0_askThings 32 = .ok (.iconst 0, 1) := by decide +kernel
theorem dX0_askThings_33 : decode cX0_askThings 33 = .ok (.ireturn, 1) := by decide +kernel
theorem dX0_askThings_34 : decode cX0_askThings 34 = .ok (.iconst 0, 1) := by decide +kernel
theorem dX0_askThings_35 : decode cX0_askThings 35 = .ok (.istore 7, 2) := by decide +kernel
theorem dX0_askThings_37 : decode cX0_askThings 37 = .ok (.iload 7, 2) := by decide +kernel
theorem dX0_askThings_39 : decode cX0_askThings 39 = .ok (.aload_n 2, 1) := by decide +kernel
theorem dX0_askThings_40 : decode cX0_askThings 40 = .ok (.invokevirtual 75, 3) := by decide +kernel
theorem dX0_askThings_43 : decode cX0_askThings 43 = .ok (.if_icmp .ge 46, 3) := by decide +kernel
theorem dX0_askThings_46 : decode cX0_askThings 46 = .ok (.aload_n 0, 1) := by decide +kernel
theorem dX0_askThings_47 : decode cX0_askThings 47 = .ok (.invokevirtual 26, 3) := by decide +kernel
theorem dX0_askThings_50 : decode cX0_askThings 50 = .ok (.ifCond .ne 39, 3) := by decide +kernel
theorem dX0_askThings_53 : decode cX0_askThings 53 = .ok (.aload_n 0, 1) := by decide +kernel
theorem dX0_askThings_54 : decode cX0_askThings 54 = .ok (.getfield 9, 3) := by decide +kernel
theorem dX0_askThings_57 : decode cX0_askThings 57 = .ok (.iload 6, 2) := by decide +kernel
theorem dX0_askThings_59 : decode cX0_askThings 59 = .ok (.iload 7, 2) := by decide +kernel
theorem dX0_askThings_61 : decode cX0_askThings 61 = .ok (.iastore, 1) := by decide +kernel
theorem dX0_askThings_62 : decode cX0_askThings 62 = .ok (.aload_n 0, 1) := by decide +kernel
theorem dX0_askThings_63 : decode cX0_askThings 63 = .ok (.aload_n 1, 1) := by decide +kernel
theorem dX0_askThings_64 : decode cX0_askThings 64 = .ok (.aload_n 2, 1) := by decide +kernel
theorem dX0_askThings_65 : decode cX0_askThings 65 = .ok (.iload_n 3, 1) := by decide +kernel
theorem dX0_askThings_66 : decode cX0_askThings 66 = .ok (.iconst 1, 1) := by decide +kernel
theorem dX0_askThings_67 : decode cX0_askThings 67 = .ok (.iadd, 1) := by decide +kernel
theorem dX0_askThings_68 : decode cX0_askThings 68 = .ok (.iload 4, 2) := by decide +kernel
theorem dX0_askThings_70 : decode cX0_askThings 70 = .ok (.iconst 1, 1) := by decide +kernel
theorem dX0_askThings_71 : decode cX0_askThings 71 = .ok (.iadd, 1) := by decide +kernel
theorem dX0_askThings_72 : decode cX0_askThings 72 = .ok (.invokevirtual 22, 3) := by decide +kernel
theorem dX0_askThings_75 : decode cX0_askThings 75 = .ok (.iload 5, 2) := by decide +kernel
theorem dX0_askThings_77 : decode cX0_askThings 77 = .ok (.if_icmp .ne 6, 3) := by decide +kernel
theorem dX0_askThings_80 : decode cX0_askThings 80 = .ok (.iload 5, 2) := by decide +kernel
theorem dX0_askThings_82 : decode cX0_askThings 82 = .ok (.ireturn, 1) := by decide +kernel
theorem dX0_askThings_83 : decode cX0_askThings 83 = .ok (.iinc 7 1, 3) := by decide +kernel
theorem dX0_askThings_86 : decode cX0_askThings 86 = .ok (.goto (-49), 3) := by decide +kernel
theorem dX0_askThings_89 : decode cX0_askThings 89 = .ok (.iload 5, 2) := by decide +kernel
theorem dX0_askThings_91 : decode cX0_askThings 91 = .ok (.ifCond .ne 7, 3) := by decide +kernel
theorem dX0_askThings_94 : decode cX0_askThings 94 = .ok (.iconst 1, 1) := by decide +kernel
theorem dX0_askThings_95 : decode cX0_askThings 95 = .ok (.goto 4, 3) := by decide +kernel
theorem dX0_askThings_98 : decode cX0_askThings 98 = .ok (.iconst 0, 1) := by decide +kernel
theorem dX0_askThings_99 : decode cX0_askThings 99 = .ok (.ireturn, 1) := by decide +kernel
theorem dX0_thingOf_0 : decode cX0_thingOf 0 = .ok (.iload_n 1, 1) := by decide +kernel
theorem dX0_thingOf_1 : decode cX0_thingOf 1 = .ok (.ifCond .lt 21, 3) := by decide +kernel
theorem dX0_thingOf_4 : decode cX0_thingOf 4 = .ok (.iload_n 1, 1) := by decide +kernel
theorem dX0_thingOf_5 : decode cX0_thingOf 5 = .ok (.aload_n 0, 1) := by decide +kernel
theorem dX0_thingOf_6 : decode cX0_thingOf 6 = .ok (.getfield 9, 3) := by decide +kernel
theorem dX0_thingOf_9 : decode cX0_thingOf 9 = .ok (.arraylength, 1) := by decide +kernel
theorem dX0_thingOf_10 : decode cX0_thingOf 10 = .ok (.if_icmp .ge 12, 3) := by decide +kernel
theorem dX0_thingOf_13 : decode cX0_thingOf 13 = .ok (.aload_n 0, 1) := by decide +kernel
theorem dX0_thingOf_14 : decode cX0_thingOf 14 = .ok (.getfield 9, 3) := by decide +kernel
theorem dX0_thingOf_17 : decode cX0_thingOf 17 = .ok (.iload_n 1, 1) := by decide +kernel
theorem dX0_thingOf_18 : decode cX0_thingOf 18 = .ok (.iaload, 1) := by decide +kernel
theorem dX0_thingOf_19 : decode cX0_thingOf 19 = .ok (.goto 4, 3) := by decide +kernel
theorem dX0_thingOf_22 : decode cX0_thingOf 22 = .ok (.iconst 0, 1) := by decide +kernel
theorem dX0_thingOf_23 : decode cX0_thingOf 23 = .ok (.ireturn, 1) := by decide +kernel
theorem dX1_init_0 : decode cX1_init 0 = .ok (.aload_n 0, 1) := by decide +kernel
theorem dX1_init_1 : decode cX1_init 1 = .ok (.invokespecial 3, 3) := by decide +kernel
theorem dX1_init_4 : decode cX1_init 4 = .ok (.aload_n 0, 1) := by decide +kernel
theorem dX1_init_5 : decode cX1_init 5 = .ok (.bipush 72, 2) := by decide +kernel
theorem dX1_init_7 : decode cX1_init 7 = .ok (.newarray .int, 2) := by decide +kernel
theorem dX1_init_9 : decode cX1_init 9 = .ok (.putfield 9, 3) := by decide +kernel
theorem dX1_init_12 : decode cX1_init 12 = .ok (.aload_n 0, 1) := by decide +kernel
theorem dX1_init_13 : decode cX1_init 13 = .ok (.bipush 72, 2) := by decide +kernel
theorem dX1_init_15 : decode cX1_init 15 = .ok (.newarray .int, 2) := by decide +kernel
theorem dX1_init_17 : decode cX1_init 17 = .ok (.putfield 15, 3) := by decide +kernel
theorem dX1_init_20 : decode cX1_init 20 = .ok (.aload_n 0, 1) := by decide +kernel
theorem dX1_init_21 : decode cX1_init 21 = .ok (.sipush 288, 3) := by decide +kernel
theorem dX1_init_24 : decode cX1_init 24 = .ok (.newarray .long, 2) := by decide +kernel
theorem dX1_init_26 : decode cX1_init 26 = .ok (.putfield 18, 3) := by decide +kernel
theorem dX1_init_29 : decode cX1_init 29 = .ok (.aload_n 0, 1) := by decide +kernel
theorem dX1_init_30 : decode cX1_init 30 = .ok (.bipush 72, 2) := by decide +kernel
theorem dX1_init_32 : decode cX1_init 32 = .ok (.newarray .int, 2) := by decide +kernel
theorem dX1_init_34 : decode cX1_init 34 = .ok (.putfield 22, 3) := by decide +kernel
theorem dX1_init_37 : decode cX1_init 37 = .ok (.aload_n 0, 1) := by decide +kernel
theorem dX1_init_38 : decode cX1_init 38 = .ok (.iconst 0, 1) := by decide +kernel
theorem dX1_init_39 : decode cX1_init 39 = .ok (.putfield 25, 3) := by decide +kernel
theorem dX1_init_42 : decode cX1_init 42 = .ok (.aload_n 0, 1) := by decide +kernel
theorem dX1_init_43 : decode cX1_init 43 = .ok (.iconst 0, 1) := by decide +kernel
theorem dX1_init_44 : decode cX1_init 44 = .ok (.putfield 29, 3) := by decide +kernel
theorem dX1_init_47 : decode cX1_init 47 = .ok (.aload_n 0, 1) := by decide +kernel
theorem dX1_init_48 : decode cX1_init 48 = .ok (.iconst 0, 1) := by decide +kernel
theorem dX1_init_49 : decode cX1_init 49 = .ok (.putfield 32, 3) := by decide +kernel
theorem dX1_init_52 : decode cX1_init 52 = .ok (.aload_n 0, 1) := by decide +kernel
theorem dX1_init_53 : decode cX1_init 53 = .ok (.iconst 0, 1) := by decide +kernel
theorem dX1_init_54 : decode cX1_init 54 = .ok (.putfield 35, 3) := by decide +kernel
theorem dX1_init_57 : decode cX1_init 57 = .ok (.return_, 1) := by decide +kernel
theorem dX1_items_0 : decode cX1_items 0 = .ok (.aload_n 0, 1) := by decide +kernel
theorem dX1_items_1 : decode cX1_items 1 = .ok (.getfield 25, 3) := by decide +kernel
theorem dX1_items_4 : decode cX1_items 4 = .ok (.ireturn, 1) := by decide +kernel
theorem dX1_steps_0 : decode cX1_steps 0 = .ok (.aload_n 0, 1) := by decide +kernel
theorem dX1_steps_1 : decode cX1_steps 1 = .ok (.getfield 35, 3) := by decide +kernel
theorem dX1_steps_4 : decode cX1_steps 4 = .ok (.ireturn, 1) := by decide +kernel
theorem dX1_colourOf_0 : decode cX1_colourOf 0 = .ok (.iload_n 1, 1) := by decide +kernel
theorem dX1_colourOf_1 : decode cX1_colourOf 1 = .ok (.ifCond .lt 19, 3) := by decide +kernel
theorem dX1_colourOf_4 : decode cX1_colourOf 4 = .ok (.iload_n 1, 1) := by decide +kernel
theorem dX1_colourOf_5 : decode cX1_colourOf 5 = .ok (.aload_n 0, 1) := by decide +kernel
theorem dX1_colourOf_6 : decode cX1_colourOf 6 = .ok (.getfield 25, 3) := by decide +kernel
theorem dX1_colourOf_9 : decode cX1_colourOf 9 = .ok (.if_icmp .ge 11, 3) := by decide +kernel
theorem dX1_colourOf_12 : decode cX1_colourOf 12 = .ok (.aload_n 0, 1) := by decide +kernel
theorem dX1_colourOf_13 : decode cX1_colourOf 13 = .ok (.iload_n 1, 1) := by decide +kernel
theorem dX1_colourOf_14 : decode cX1_colourOf 14 = .ok (.invokevirtual 38, 3) := by decide +kernel
theorem dX1_colourOf_17 : decode cX1_colourOf 17 = .ok (.goto 4, 3) := by decide +kernel
theorem dX1_colourOf_20 : decode cX1_colourOf 20 = .ok (.iconst (-1), 1) := by decide +kernel
theorem dX1_colourOf_21 : decode cX1_colourOf 21 = .ok (.ireturn, 1) := by decide +kernel
theorem dX1_colourAt_0 : decode cX1_colourAt 0 = .ok (.iload_n 1, 1) := by decide +kernel
theorem dX1_colourAt_1 : decode cX1_colourAt 1 = .ok (.ifCond .lt 21, 3) := by decide +kernel
theorem dX1_colourAt_4 : decode cX1_colourAt 4 = .ok (.iload_n 1, 1) := by decide +kernel
theorem dX1_colourAt_5 : decode cX1_colourAt 5 = .ok (.aload_n 0, 1) := by decide +kernel
theorem dX1_colourAt_6 : decode cX1_colourAt 6 = .ok (.getfield 9, 3) := by decide +kernel
theorem dX1_colourAt_9 : decode cX1_colourAt 9 = .ok (.arraylength, 1) := by decide +kernel
theorem dX1_colourAt_10 : decode cX1_colourAt 10 = .ok (.if_icmp .ge 12, 3) := by decide +kernel
theorem dX1_colourAt_13 : decode cX1_colourAt 13 = .ok (.aload_n 0, 1) := by decide +kernel
theorem dX1_colourAt_14 : decode cX1_colourAt 14 = .ok (.getfield 9, 3) := by decide +kernel
theorem dX1_colourAt_17 : decode cX1_colourAt 17 = .ok (.iload_n 1, 1) := by decide +kernel
theorem dX1_colourAt_18 : decode cX1_colourAt 18 = .ok (.iaload, 1) := by decide +kernel
theorem dX1_colourAt_19 : decode cX1_colourAt 19 = .ok (.goto 4, 3) := by decide +kernel
theorem dX1_colourAt_22 : decode cX1_colourAt 22 = .ok (.iconst 0, 1) := by decide +kernel
theorem dX1_colourAt_23 : decode cX1_colourAt 23 = .ok (.ireturn, 1) := by decide +kernel
theorem dX1_settle_0 : decode cX1_settle 0 = .ok (.aload_n 0, 1) := by decide +kernel
theorem dX1_settle_1 : decode cX1_settle 1 = .ok (.iload_n 3, 1) := by decide +kernel
theorem dX1_settle_2 : decode cX1_settle 2 = .ok (.ifCond .eq 15, 3) := by decide +kernel
theorem dX1_settle_5 : decode cX1_settle 5 = .ok (.aload_n 1, 1) := by decide +kernel
theorem dX1_settle_6 : decode cX1_settle 6 = .ok (.invokevirtual 42, 3) := by decide +kernel
theorem dX1_settle_9 : decode cX1_settle 9 = .ok (.aload_n 1, 1) := by decide +kernel
theorem dX1_settle_10 : decode cX1_settle 10 = .ok (.invokevirtual 42, 3) := by decide +kernel
theorem dX1_settle_13 : decode cX1_settle 13 = .ok (.imul, 1) := by decide +kernel
theorem dX1_settle_14 : decode cX1_settle 14 = .ok (.goto 7, 3) := by decide +kernel
theorem dX1_settle_17 : decode cX1_settle 17 = .ok (.aload_n 1, 1) := by decide +kernel
theorem dX1_settle_18 : decode cX1_settle 18 = .ok (.invokevirtual 42, 3) := by decide +kernel
theorem dX1_settle_21 : decode cX1_settle 21 = .ok (.putfield 29, 3) := by decide +kernel
theorem dX1_settle_24 : decode cX1_settle 24 = .ok (.aload_n 0, 1) := by decide +kernel
theorem dX1_settle_25 : decode cX1_settle 25 = .ok (.aload_n 0, 1) := by decide +kernel
theorem dX1_settle_26 : decode cX1_settle 26 = .ok (.getfield 29, 3) := by decide +kernel
theorem dX1_settle_29 : decode cX1_settle 29 = .ok (.iload_n 3, 1) := by decide +kernel
theorem dX1_settle_30 : decode cX1_settle 30 = .ok (.ifCond .eq 15, 3) := by decide +kernel
theorem dX1_settle_33 : decode cX1_settle 33 = .ok (.aload_n 2, 1) := by decide +kernel
theorem dX1_settle_34 : decode cX1_settle 34 = .ok (.invokevirtual 42, 3) := by decide +kernel
theorem dX1_settle_37 : decode cX1_settle 37 = .ok (.aload_n 2, 1) := by decide +kernel
theorem dX1_settle_38 : decode cX1_settle 38 = .ok (.invokevirtual 42, 3) := by decide +kernel
theorem dX1_settle_41 : decode cX1_settle 41 = .ok (.imul, 1) := by decide +kernel
theorem dX1_settle_42 : decode cX1_settle 42 = .ok (.goto 7, 3) := by decide +kernel
theorem dX1_settle_45 : decode cX1_settle 45 = .ok (.aload_n 2, 1) := by decide +kernel
theorem dX1_settle_46 : decode cX1_settle 46 = .ok (.invokevirtual 42, 3) := by decide +kernel
theorem dX1_settle_49 : decode cX1_settle 49 = .ok (.iadd, 1) := by decide +kernel
theorem dX1_settle_50 : decode cX1_settle 50 = .ok (.putfield 25, 3) := by decide +kernel
theorem dX1_settle_53 : decode cX1_settle 53 = .ok (.aload_n 0, 1) := by decide +kernel
theorem dX1_settle_54 : decode cX1_settle 54 = .ok (.iconst 0, 1) := by decide +kernel
theorem dX1_settle_55 : decode cX1_settle 55 = .ok (.putfield 35, 3) := by decide +kernel
theorem dX1_settle_58 : decode cX1_settle 58 = .ok (.aload_n 0, 1) := by decide +kernel
theorem dX1_settle_59 : decode cX1_settle 59 = .ok (.getfield 9, 3) := by decide +kernel
theorem dX1_settle_62 : decode cX1_settle 62 = .ok (.iconst 0, 1) := by decide +kernel
theorem dX1_settle_63 : decode cX1_settle 63 = .ok (.invokestatic 48, 3) := by decide +kernel
theorem dX1_settle_66 : decode cX1_settle 66 = .ok (.aload_n 0, 1) := by decide +kernel
theorem dX1_settle_67 : decode cX1_settle 67 = .ok (.getfield 18, 3) := by decide +kernel
theorem dX1_settle_70 : decode cX1_settle 70 = .ok (.lconst 0, 1) := by decide +kernel
theorem dX1_settle_71 : decode cX1_settle 71 = .ok (.invokestatic 54, 3) := by decide +kernel
theorem dX1_settle_74 : decode cX1_settle 74 = .ok (.aload_n 0, 1) := by decide +kernel
theorem dX1_settle_75 : decode cX1_settle 75 = .ok (.aload_n 1, 1) := by decide +kernel
theorem dX1_settle_76 : decode cX1_settle 76 = .ok (.iconst 0, 1) := by decide +kernel
theorem dX1_settle_77 : decode cX1_settle 77 = .ok (.iload_n 3, 1) := by decide +kernel
theorem dX1_settle_78 : decode cX1_settle 78 = .ok (.invokevirtual 57, 3) := by decide +kernel
theorem dX1_settle_81 : decode cX1_settle 81 = .ok (.aload_n 0, 1) := by decide +kernel
theorem dX1_settle_82 : decode cX1_settle 82 = .ok (.aload_n 2, 1) := by decide +kernel
theorem dX1_settle_83 : decode cX1_settle 83 = .ok (.aload_n 0, 1) := by decide +kernel
theorem dX1_settle_84 : decode cX1_settle 84 = .ok (.getfield 29, 3) := by decide +kernel
theorem dX1_settle_87 : decode cX1_settle 87 = .ok (.iload_n 3, 1) := by decide +kernel
theorem dX1_settle_88 : decode cX1_settle 88 = .ok (.invokevirtual 57, 3) := by decide +kernel
theorem dX1_settle_91 : decode cX1_settle 91 = .ok (.aload_n 0, 1) := by decide +kernel
theorem dX1_settle_92 : decode cX1_settle 92 = .ok (.invokevirtual 61, 3) := by decide +kernel
theorem dX1_settle_95 : decode cX1_settle 95 = .ok (.iconst 0, 1) := by decide +kernel
theorem dX1_settle_96 : decode cX1_settle 96 = .ok (.istore 4, 2) := by decide +kernel
theorem dX1_settle_98 : decode cX1_settle 98 = .ok (.iload 4, 2) := by decide +kernel
theorem dX1_settle_100 : decode cX1_settle 100 = .ok (.bipush 72, 2) := by decide +kernel
theorem dX1_settle_102 : decode cX1_settle 102 = .ok (.if_icmp .ge 66, 3) := by decide +kernel
theorem dX1_settle_105 : decode cX1_settle 105 = .ok (.aload_n 0, 1) := by decide +kernel
theorem dX1_settle_106 : decode cX1_settle 106 = .ok (.getfield 32, 3) := by decide +kernel
theorem dX1_settle_109 : decode cX1_settle 109 = .ok (.istore 5, 2) := by decide +kernel
theorem dX1_settle_111 : decode cX1_settle 111 = .ok (.aload_n 0, 1) := by decide +kernel
theorem dX1_settle_112 : decode cX1_settle 112 = .ok (.getfield 18, 3) := by decide +kernel
theorem dX1_settle_115 : decode cX1_settle 115 = .ok (.lconst 0, 1) := by decide +kernel
theorem dX1_settle_116 : decode cX1_settle 116 = .ok (.invokestatic 54, 3) := by decide +kernel
theorem dX1_settle_119 : decode cX1_settle 119 = .ok (.aload_n 0, 1) := by decide +kernel
theorem dX1_settle_120 : decode cX1_settle 120 = .ok (.aload_n 1, 1) := by decide +kernel
theorem dX1_settle_121 : decode cX1_settle 121 = .ok (.iconst 0, 1) := by decide +kernel
theorem dX1_settle_122 : decode cX1_settle 122 = .ok (.iload_n 3, 1) := by decide +kernel
theorem dX1_settle_123 : decode cX1_settle 123 = .ok (.invokevirtual 64, 3) := by decide +kernel
theorem dX1_settle_126 : decode cX1_settle 126 = .ok (.aload_n 0, 1) := by decide +kernel
theorem dX1_settle_127 : decode cX1_settle 127 = .ok (.aload_n 2, 1) := by decide +kernel
theorem dX1_settle_128 : decode cX1_settle 128 = .ok (.aload_n 0, 1) := by decide +kernel
theorem dX1_settle_129 : decode cX1_settle 129 = .ok (.getfield 29, 3) := by decide +kernel
theorem dX1_settle_132 : decode cX1_settle 132 = .ok (.iload_n 3, 1) := by decide +kernel
theorem dX1_settle_133 : decode cX1_settle 133 = .ok (.invokevirtual 64, 3) := by decide +kernel
theorem dX1_settle_136 : decode cX1_settle 136 = .ok (.aload_n 0, 1) := by decide +kernel
theorem dX1_settle_137 : decode cX1_settle 137 = .ok (.invokevirtual 61, 3) := by decide +kernel
theorem dX1_settle_140 : decode cX1_settle 140 = .ok (.aload_n 0, 1) := by decide +kernel
theorem dX1_settle_141 : decode cX1_settle 141 = .ok (.getfield 32, 3) := by decide +kernel
theorem dX1_settle_144 : decode cX1_settle 144 = .ok (.iload 5, 2) := by decide +kernel
theorem dX1_settle_146 : decode cX1_settle 146 = .ok (.if_icmp .ne 6, 3) := by decide +kernel
theorem dX1_settle_149 : decode cX1_settle 149 = .ok (.goto 19, 3) := by decide +kernel
theorem dX1_settle_152 : decode cX1_settle 152 = .ok (.aload_n 0, 1) := by decide +kernel
theorem dX1_settle_153 : decode cX1_settle 153 = .ok (.dup, 1) := by decide +kernel
theorem dX1_settle_154 : decode cX1_settle 154 = .ok (.getfield 35, 3) := by decide +kernel
theorem dX1_settle_157 : decode cX1_settle 157 = .ok (.iconst 1, 1) := by decide +kernel
theorem dX1_settle_158 : decode cX1_settle 158 = .ok (.iadd, 1) := by decide +kernel
theorem dX1_settle_159 : decode cX1_settle 159 = .ok (.putfield 35, 3) := by decide +kernel
theorem dX1_settle_162 : decode cX1_settle 162 = .ok (.iinc 4 1, 3) := by decide +kernel
theorem dX1_settle_165 : decode cX1_settle 165 = .ok (.goto (-67), 3) := by decide +kernel
theorem dX1_settle_168 : decode cX1_settle 168 = .ok (.aload_n 0, 1) := by decide +kernel
theorem dX1_settle_169 : decode cX1_settle 169 = .ok (.getfield 32, 3) := by decide +kernel
theorem dX1_settle_172 : decode cX1_settle 172 = .ok (.ireturn, 1) := by decide +kernel
theorem dX1_lookAt_0 : decode cX1_lookAt 0 = .ok (.aload_n 1, 1) := by decide +kernel
theorem dX1_lookAt_1 : decode cX1_lookAt 1 = .ok (.invokevirtual 42, 3) := by decide +kernel
theorem dX1_lookAt_4 : decode cX1_lookAt 4 = .ok (.istore 4, 2) := by decide +kernel
theorem dX1_lookAt_6 : decode cX1_lookAt 6 = .ok (.iconst 0, 1) := by decide +kernel
theorem dX1_lookAt_7 : decode cX1_lookAt 7 = .ok (.istore 5, 2) := by decide +kernel
theorem dX1_lookAt_9 : decode cX1_lookAt 9 = .ok (.iload 5, 2) := by decide +kernel
theorem dX1_lookAt_11 : decode cX1_lookAt 11 = .ok (.iload 4, 2) := by decide +kernel
theorem dX1_lookAt_13 : decode cX1_lookAt 13 = .ok (.if_icmp .ge 92, 3) := by decide +kernel
theorem dX1_lookAt_16 : decode cX1_lookAt 16 = .ok (.iload_n 3, 1) := by decide +kernel
theorem dX1_lookAt_17 : decode cX1_lookAt 17 = .ok (.ifCond .ne 19, 3) := by decide +kernel
theorem dX1_lookAt_20 : decode cX1_lookAt 20 = .ok (.aload_n 0, 1) := by decide +kernel
theorem dX1_lookAt_21 : decode cX1_lookAt 21 = .ok (.iload_n 2, 1) := by decide +kernel
theorem dX1_lookAt_22 : decode cX1_lookAt 22 = .ok (.iload 5, 2) := by decide +kernel
theorem dX1_lookAt_24 : decode cX1_lookAt 24 = .ok (.iadd, 1) := by decide +kernel
theorem dX1_lookAt_25 : decode cX1_lookAt 25 = .ok (.iconst 0, 1) := by decide +kernel
theorem dX1_lookAt_26 : decode cX1_lookAt 26 = .ok (.aload_n 1, 1) := by decide +kernel
theorem dX1_lookAt_27 : decode cX1_lookAt 27 = .ok (.iload 5, 2) := by decide +kernel
theorem dX1_lookAt_29 : decode cX1_lookAt 29 = .ok (.invokevirtual 67, 3) := by decide +kernel
theorem dX1_lookAt_32 : decode cX1_lookAt 32 = .ok (.i2l, 1) := by decide +kernel
theorem dX1_lookAt_33 : decode cX1_lookAt 33 = .ok (.invokevirtual 70, 3) := by decide +kernel
theorem dX1_lookAt_36 : decode cX1_lookAt 36 = .ok (.iconst 0, 1) := by decide +kernel
theorem dX1_lookAt_37 : decode cX1_lookAt 37 = .ok (.istore 6, 2) := by decide +kernel
theorem dX1_lookAt_39 : decode cX1_lookAt 39 = .ok (.iload_n 3, 1) := by decide +kernel
theorem dX1_lookAt_40 : decode cX1_lookAt 40 = .ok (.ifCond .eq 59, 3) := by decide +kernel
theorem dX1_lookAt_43 : decode cX1_lookAt 43 = .ok (.iload 6, 2) := by decide +kernel
theorem dX1_lookAt_45 : decode cX1_lookAt 45 = .ok (.iload 4, 2) := by decide +kernel
theorem dX1_lookAt_47 : decode cX1_lookAt 47 = .ok (.if_icmp .ge 52, 3) := by decide +kernel
theorem dX1_lookAt_50 : decode cX1_lookAt 50 = .ok (.aload_n 0, 1) := by decide +kernel
theorem dX1_lookAt_51 : decode cX1_lookAt 51 = .ok (.iload_n 2, 1) := by decide +kernel
theorem dX1_lookAt_52 : decode cX1_lookAt 52 = .ok (.iload 5, 2) := by decide +kernel
theorem dX1_lookAt_54 : decode cX1_lookAt 54 = .ok (.iload 4, 2) := by decide +kernel
theorem dX1_lookAt_56 : decode cX1_lookAt 56 = .ok (.imul, 1) := by decide +kernel
theorem dX1_lookAt_57 : decode cX1_lookAt 57 = .ok (.iadd, 1) := by decide +kernel
theorem dX1_lookAt_58 : decode cX1_lookAt 58 = .ok (.iload 6, 2) := by decide +kernel
theorem dX1_lookAt_60 : decode cX1_lookAt 60 = .ok (.iadd, 1) := by decide +kernel
theorem dX1_lookAt_61 : decode cX1_lookAt 61 = .ok (.iconst 0, 1) := by decide +kernel
theorem dX1_lookAt_62 : decode cX1_lookAt 62 = .ok (.aload_n 1, 1) := by decide +kernel
theorem dX1_lookAt_63 : decode cX1_lookAt 63 = .ok (.iload 5, 2) := by decide +kernel
theorem dX1_lookAt_65 : decode cX1_lookAt 65 = .ok (.invokevirtual 67, 3) := by decide +kernel
theorem dX1_lookAt_68 : decode cX1_lookAt 68 = .ok (.aload_n 1, 1) := by decide +kernel
theorem dX1_lookAt_69 : decode cX1_lookAt 69 = .ok (.iload 6, 2) := by decide +kernel
theorem dX1_lookAt_71 : decode cX1_lookAt 71 = .ok (.invokevirtual 67, 3) := by decide +kernel
theorem dX1_lookAt_74 : decode cX1_lookAt 74 = .ok (.iconst 3, 1) := by decide +kernel
theorem dX1_lookAt_75 : decode cX1_lookAt 75 = .ok (.ishl, 1) := by decide +kernel
theorem dX1_lookAt_76 : decode cX1_lookAt 76 = .ok (.ior, 1) := by decide +kernel
theorem dX1_lookAt_77 : decode cX1_lookAt 77 = .ok (.aload_n 1, 1) := by decide +kernel
theorem dX1_lookAt_78 : decode cX1_lookAt 78 = .ok (.iload 5, 2) := by decide +kernel
theorem dX1_lookAt_80 : decode cX1_lookAt 80 = .ok (.iload 6, 2) := by decide +kernel
theorem dX1_lookAt_82 : decode cX1_lookAt 82 = .ok (.invokevirtual 74, 3) := by decide +kernel
theorem dX1_lookAt_85 : decode cX1_lookAt 85 = .ok (.bipush 6, 2) := by decide +kernel
theorem dX1_lookAt_87 : decode cX1_lookAt 87 = .ok (.ishl, 1) := by decide +kernel
theorem dX1_lookAt_88 : decode cX1_lookAt 88 = .ok (.ior, 1) := by decide +kernel
theorem dX1_lookAt_89 : decode cX1_lookAt 89 = .ok (.i2l, 1) := by decide +kernel
theorem dX1_lookAt_90 : decode cX1_lookAt 90 = .ok (.invokevirtual 70, 3) := by decide +kernel
theorem dX1_lookAt_93 : decode cX1_lookAt 93 = .ok (.iinc 6 1, 3) := by decide +kernel
theorem dX1_lookAt_96 : decode cX1_lookAt 96 = .ok (.goto (-57), 3) := by decide +kernel
theorem dX1_lookAt_99 : decode cX1_lookAt 99 = .ok (.iinc 5 1, 3) := by decide +kernel
theorem dX1_lookAt_102 : decode cX1_lookAt 102 = .ok (.goto (-93), 3) := by decide +kernel
theorem dX1_lookAt_105 : decode cX1_lookAt 105 = .ok (.return_, 1) := by decide +kernel
theorem dX1_sign_0 : decode cX1_sign 0 = .ok (.aload_n 1, 1) := by decide +kernel
theorem dX1_sign_1 : decode cX1_sign 1 = .ok (.invokevirtual 42, 3) := by decide +kernel
theorem dX1_sign_4 : decode cX1_sign 4 = .ok (.istore 4, 2) := by decide +kernel
theorem dX1_sign_6 : decode cX1_sign 6 = .ok (.iconst 0, 1) := by decide +kernel
theorem dX1_sign_7 : decode cX1_sign 7 = .ok (.istore 5, 2) := by decide +kernel
theorem dX1_sign_9 : decode cX1_sign 9 = .ok (.iload 5, 2) := by decide +kernel
theorem dX1_sign_11 : decode cX1_sign 11 = .ok (.iload 4, 2) := by decide +kernel
theorem dX1_sign_13 : decode cX1_sign 13 = .ok (.if_icmp .ge 52, 3) := by decide +kernel
theorem dX1_sign_16 : decode cX1_sign 16 = .ok (.iload_n 3, 1) := by decide +kernel
theorem dX1_sign_17 : decode cX1_sign 17 = .ok (.ifCond .ne 11, 3) := by decide +kernel
theorem dX1_sign_20 : decode cX1_sign 20 = .ok (.aload_n 0, 1) := by decide +kernel
theorem dX1_sign_21 : decode cX1_sign 21 = .ok (.aload_n 1, 1) := by decide +kernel
theorem dX1_sign_22 : decode cX1_sign 22 = .ok (.iload_n 2, 1) := by decide +kernel
theorem dX1_sign_23 : decode cX1_sign 23 = .ok (.iload 5, 2) := by decide +kernel
theorem dX1_sign_25 : decode cX1_sign 25 = .ok (.invokevirtual 78, 3) := by decide +kernel
theorem dX1_sign_28 : decode cX1_sign 28 = .ok (.iconst 0, 1) := by decide +kernel
theorem dX1_sign_29 : decode cX1_sign 29 = .ok (.istore 6, 2) := by decide +kernel
theorem dX1_sign_31 : decode cX1_sign 31 = .ok (.iload_n 3, 1) := by decide +kernel
theorem dX1_sign_32 : decode cX1_sign 32 = .ok (.ifCond .eq 27, 3) := by decide +kernel
theorem dX1_sign_35 : decode cX1_sign 35 = .ok (.iload 6, 2) := by decide +kernel
theorem dX1_sign_37 : decode cX1_sign 37 = .ok (.iload 4, 2) := by decide +kernel
theorem dX1_sign_39 : decode cX1_sign 39 = .ok (.if_icmp .ge 20, 3) := by decide +kernel
theorem dX1_sign_42 : decode cX1_sign 42 = .ok (.aload_n 0, 1) := by decide +kernel
theorem dX1_sign_43 : decode cX1_sign 43 = .ok (.iload_n 2, 1) := by decide +kernel
theorem dX1_sign_44 : decode cX1_sign 44 = .ok (.iload 4, 2) := by decide +kernel
theorem dX1_sign_46 : decode cX1_sign 46 = .ok (.iload 5, 2) := by decide +kernel
theorem dX1_sign_48 : decode cX1_sign 48 = .ok (.iload 6, 2) := by decide +kernel
theorem dX1_sign_50 : decode cX1_sign 50 = .ok (.invokevirtual 82, 3) := by decide +kernel
theorem dX1_sign_53 : decode cX1_sign 53 = .ok (.iinc 6 1, 3) := by decide +kernel
theorem dX1_sign_56 : decode cX1_sign 56 = .ok (.goto (-25), 3) := by decide +kernel
theorem dX1_sign_59 : decode cX1_sign 59 = .ok (.iinc 5 1, 3) := by decide +kernel
theorem dX1_sign_62 : decode cX1_sign 62 = .ok (.goto (-53), 3) := by decide +kernel
theorem dX1_sign_65 : decode cX1_sign 65 = .ok (.return_, 1) := by decide +kernel
theorem dX1_countTies_0 : decode cX1_countTies 0 = .ok (.iconst 0, 1) := by decide +kernel
theorem dX1_countTies_1 : decode cX1_countTies 1 = .ok (.istore 4, 2) := by decide +kernel
theorem dX1_countTies_3 : decode cX1_countTies 3 = .ok (.iload 4, 2) := by decide +kernel
theorem dX1_countTies_5 : decode cX1_countTies 5 = .ok (.aload_n 1, 1) := by decide +kernel
theorem dX1_countTies_6 : decode cX1_countTies 6 = .ok (.invokevirtual 42, 3) := by decide +kernel
theorem dX1_countTies_9 : decode cX1_countTies 9 = .ok (.if_icmp .ge 63, 3) := by decide +kernel
theorem dX1_countTies_12 : decode cX1_countTies 12 = .ok (.lconst 1, 1) := by decide +kernel
theorem dX1_countTies_13 : decode cX1_countTies 13 = .ok (.iconst 4, 1) := by decide +kernel
theorem dX1_countTies_14 : decode cX1_countTies 14 = .ok (.aload_n 0, 1) := by decide +kernel
theorem dX1_countTies_15 : decode cX1_countTies 15 = .ok (.iload_n 2, 1) := by decide +kernel
theorem dX1_countTies_16 : decode cX1_countTies 16 = .ok (.iload 4, 2) := by decide +kernel
theorem dX1_countTies_18 : decode cX1_countTies 18 = .ok (.iadd, 1) := by decide +kernel
theorem dX1_countTies_19 : decode cX1_countTies 19 = .ok (.invokevirtual 38, 3) := by decide +kernel
theorem dX1_countTies_22 : decode cX1_countTies 22 = .ok (.imul, 1) := by decide +kernel
theorem dX1_countTies_23 : decode cX1_countTies 23 = .ok (.lshl, 1) := by decide +kernel
theorem dX1_countTies_24 : decode cX1_countTies 24 = .ok (.lstore 5, 2) := by decide +kernel
theorem dX1_countTies_26 : decode cX1_countTies 26 = .ok (.aload_n 1, 1) := by decide +kernel
theorem dX1_countTies_27 : decode cX1_countTies 27 = .ok (.iload_n 3, 1) := by decide +kernel
theorem dX1_countTies_28 : decode cX1_countTies 28 = .ok (.iload 4, 2) := by decide +kernel
theorem dX1_countTies_30 : decode cX1_countTies 30 = .ok (.invokevirtual 86, 3) := by decide +kernel
theorem dX1_countTies_33 : decode cX1_countTies 33 = .ok (.ifCond .eq 13, 3) := by decide +kernel
theorem dX1_countTies_36 : decode cX1_countTies 36 = .ok (.aload_n 0, 1) := by decide +kernel
theorem dX1_countTies_37 : decode cX1_countTies 37 = .ok (.iload_n 2, 1) := by decide +kernel
theorem dX1_countTies_38 : decode cX1_countTies 38 = .ok (.iload_n 3, 1) := by decide +kernel
theorem dX1_countTies_39 : decode cX1_countTies 39 = .ok (.iadd, 1) := by decide +kernel
theorem dX1_countTies_40 : decode cX1_countTies 40 = .ok (.iconst 0, 1) := by decide +kernel
theorem dX1_countTies_41 : decode cX1_countTies 41 = .ok (.lload 5, 2) := by decide +kernel
theorem dX1_countTies_43 : decode cX1_countTies 43 = .ok (.invokevirtual 70, 3) := by decide +kernel
theorem dX1_countTies_46 : decode cX1_countTies 46 = .ok (.aload_n 1, 1) := by decide +kernel
theorem dX1_countTies_47 : decode cX1_countTies 47 = .ok (.iload 4, 2) := by decide +kernel
theorem dX1_countTies_49 : decode cX1_countTies 49 = .ok (.iload_n 3, 1) := by decide +kernel
theorem dX1_countTies_50 : decode cX1_countTies 50 = .ok (.invokevirtual 86, 3) := by decide +kernel
theorem dX1_countTies_53 : decode cX1_countTies 53 = .ok (.ifCond .eq 13, 3) := by decide +kernel
theorem dX1_countTies_56 : decode cX1_countTies 56 = .ok (.aload_n 0, 1) := by decide +kernel
theorem dX1_countTies_57 : decode cX1_countTies 57 = .ok (.iload_n 2, 1) := by decide +kernel
theorem dX1_countTies_58 : decode cX1_countTies 58 = .ok (.iload_n 3, 1) := by decide +kernel
theorem dX1_countTies_59 : decode cX1_countTies 59 = .ok (.iadd, 1) := by decide +kernel
theorem dX1_countTies_60 : decode cX1_countTies 60 = .ok (.iconst 1, 1) := by decide +kernel
theorem dX1_countTies_61 : decode cX1_countTies 61 = .ok (.lload 5, 2) := by decide +kernel
theorem dX1_countTies_63 : decode cX1_countTies 63 = .ok (.invokevirtual 70, 3) := by decide +kernel
theorem dX1_countTies_66 : decode cX1_countTies 66 = .ok (.iinc 4 1, 3) := by decide +kernel
theorem dX1_countTies_69 : decode cX1_countTies 69 = .ok (.goto (-66), 3) := by decide +kernel
theorem dX1_countTies_72 : decode cX1_countTies 72 = .ok (.return_, 1) := by decide +kernel
theorem dX1_gatherColours_0 : decode cX1_gatherColours 0 = .ok (.iload_n 1, 1) := by decide +kernel
theorem dX1_gatherColours_1 : decode cX1_gatherColours 1 = .ok (.iload_n 3, 1) := by decide +kernel
theorem dX1_gatherColours_2 : decode cX1_gatherColours 2 = .ok (.iload_n 2, 1) := by decide +kernel
theorem dX1_gatherColours_3 : decode cX1_gatherColours 3 = .ok (.imul, 1) := by decide +kernel
theorem dX1_gatherColours_4 : decode cX1_gatherColours 4 = .ok (.iadd, 1) := by decide +kernel
theorem dX1_gatherColours_5 : decode cX1_gatherColours 5 = .ok (.iload 4, 2) := by decide +kernel
theorem dX1_gatherColours_7 : decode cX1_gatherColours 7 = .ok (.iadd, 1) := by decide +kernel
theorem dX1_gatherColours_8 : decode cX1_gatherColours 8 = .ok (.istore 5, 2) := by decide +kernel
theorem dX1_gatherColours_10 : decode cX1_gatherColours 10 = .ok (.iconst 0, 1) := by decide +kernel
theorem dX1_gatherColours_11 : decode cX1_gatherColours 11 = .ok (.istore 6, 2) := by decide +kernel
theorem dX1_gatherColours_13 : decode cX1_gatherColours 13 = .ok (.iload 6, 2) := by decide +kernel
theorem dX1_gatherColours_15 : decode cX1_gatherColours 15 = .ok (.iload_n 2, 1) := by decide +kernel
theorem dX1_gatherColours_16 : decode cX1_gatherColours 16 = .ok (.if_icmp .ge 48, 3) := by decide +kernel
theorem dX1_gatherColours_19 : decode cX1_gatherColours 19 = .ok (.aload_n 0, 1) := by decide +kernel
theorem dX1_gatherColours_20 : decode cX1_gatherColours 20 = .ok (.iload 5, 2) := by decide +kernel
theorem dX1_gatherColours_22 : decode cX1_gatherColours 22 = .ok (.iconst 0, 1) := by decide +kernel
theorem dX1_gatherColours_23 : decode cX1_gatherColours 23 = .ok (.aload_n 0, 1) := by decide +kernel
theorem dX1_gatherColours_24 : decode cX1_gatherColours 24 = .ok (.iload_n 1, 1) := by decide +kernel
theorem dX1_gatherColours_25 : decode cX1_gatherColours 25 = .ok (.iload 6, 2) := by decide +kernel
theorem dX1_gatherColours_27 : decode cX1_gatherColours 27 = .ok (.iload_n 2, 1) := by decide +kernel
theorem dX1_gatherColours_28 : decode cX1_gatherColours 28 = .ok (.imul, 1) := by decide +kernel
theorem dX1_gatherColours_29 : decode cX1_gatherColours 29 = .ok (.iadd, 1) := by decide +kernel
theorem dX1_gatherColours_30 : decode cX1_gatherColours 30 = .ok (.iload 4, 2) := by decide +kernel
theorem dX1_gatherColours_32 : decode cX1_gatherColours 32 = .ok (.iadd, 1) := by decide +kernel
theorem dX1_gatherColours_33 : decode cX1_gatherColours 33 = .ok (.invokevirtual 38, 3) := by decide +kernel
theorem dX1_gatherColours_36 : decode cX1_gatherColours 36 = .ok (.invokevirtual 90, 3) := by decide +kernel
theorem dX1_gatherColours_39 : decode cX1_gatherColours 39 = .ok (.aload_n 0, 1) := by decide +kernel
theorem dX1_gatherColours_40 : decode cX1_gatherColours 40 = .ok (.iload 5, 2) := by decide +kernel
theorem dX1_gatherColours_42 : decode cX1_gatherColours 42 = .ok (.iconst 2, 1) := by decide +kernel
theorem dX1_gatherColours_43 : decode cX1_gatherColours 43 = .ok (.aload_n 0, 1) := by decide +kernel
theorem dX1_gatherColours_44 : decode cX1_gatherColours 44 = .ok (.iload_n 1, 1) := by decide +kernel
theorem dX1_gatherColours_45 : decode cX1_gatherColours 45 = .ok (.iload_n 3, 1) := by decide +kernel
theorem dX1_gatherColours_46 : decode cX1_gatherColours 46 = .ok (.iload_n 2, 1) := by decide +kernel
theorem dX1_gatherColours_47 : decode cX1_gatherColours 47 = .ok (.imul, 1) := by decide +kernel
theorem dX1_gatherColours_48 : decode cX1_gatherColours 48 = .ok (.iadd, 1) := by decide +kernel
theorem dX1_gatherColours_49 : decode cX1_gatherColours 49 = .ok (.iload 6, 2) := by decide +kernel
theorem dX1_gatherColours_51 : decode cX1_gatherColours 51 = .ok (.iadd, 1) := by decide +kernel
theorem dX1_gatherColours_52 : decode cX1_gatherColours 52 = .ok (.invokevirtual 38, 3) := by decide +kernel
theorem dX1_gatherColours_55 : decode cX1_gatherColours 55 = .ok (.invokevirtual 90, 3) := by decide +kernel
theorem dX1_gatherColours_58 : decode cX1_gatherColours 58 = .ok (.iinc 6 1, 3) := by decide +kernel
theorem dX1_gatherColours_61 : decode cX1_gatherColours 61 = .ok (.goto (-48), 3) := by decide +kernel
theorem dX1_gatherColours_64 : decode cX1_gatherColours 64 = .ok (.return_, 1) := by decide +kernel
theorem dX1_putInSet_0 : decode cX1_putInSet 0 = .ok (.iconst 4, 1) := by decide +kernel
theorem dX1_putInSet_1 : decode cX1_putInSet 1 = .ok (.iload_n 1, 1) := by decide +kernel
theorem dX1_putInSet_2 : decode cX1_putInSet 2 = .ok (.imul, 1) := by decide +kernel
theorem dX1_putInSet_3 : decode cX1_putInSet 3 = .ok (.iload_n 2, 1) := by decide +kernel
theorem dX1_putInSet_4 : decode cX1_putInSet 4 = .ok (.iadd, 1) := by decide +kernel
theorem dX1_putInSet_5 : decode cX1_putInSet 5 = .ok (.iload_n 3, 1) := by decide +kernel
theorem dX1_putInSet_6 : decode cX1_putInSet 6 = .ok (.bipush 6, 2) := by decide +kernel
theorem dX1_putInSet_8 : decode cX1_putInSet 8 = .ok (.ishr, 1) := by decide +kernel
theorem dX1_putInSet_9 : decode cX1_putInSet 9 = .ok (.iadd, 1) := by decide +kernel
theorem dX1_putInSet_10 : decode cX1_putInSet 10 = .ok (.istore 4, 2) := by decide +kernel
theorem dX1_putInSet_12 : decode cX1_putInSet 12 = .ok (.iload 4, 2) := by decide +kernel
theorem dX1_putInSet_14 : decode cX1_putInSet 14 = .ok (.ifCond .lt 29, 3) := by decide +kernel
theorem dX1_putInSet_17 : decode cX1_putInSet 17 = .ok (.iload 4, 2) := by decide +kernel
theorem dX1_putInSet_19 : decode cX1_putInSet 19 = .ok (.aload_n 0, 1) := by decide +kernel
theorem dX1_putInSet_20 : decode cX1_putInSet 20 = .ok (.getfield 18, 3) := by decide +kernel
theorem dX1_putInSet_23 : decode cX1_putInSet 23 = .ok (.arraylength, 1) := by decide +kernel
theorem dX1_putInSet_24 : decode cX1_putInSet 24 = .ok (.if_icmp .ge 19, 3) := by decide +kernel
theorem dX1_putInSet_27 : decode cX1_putInSet 27 = .ok (.aload_n 0, 1) := by decide +kernel
theorem dX1_putInSet_28 : decode cX1_putInSet 28 = .ok (.getfield 18, 3) := by decide +kernel
theorem dX1_putInSet_31 : decode cX1_putInSet 31 = .ok (.iload 4, 2) := by decide +kernel
theorem dX1_putInSet_33 : decode cX1_putInSet 33 = .ok (.dup2, 1) := by decide +kernel
theorem dX1_putInSet_34 : decode cX1_putInSet 34 = .ok (.laload, 1) := by decide +kernel
theorem dX1_putInSet_35 : decode cX1_putInSet 35 = .ok (.lconst 1, 1) := by decide +kernel
theorem dX1_putInSet_36 : decode cX1_putInSet 36 = .ok (.iload_n 3, 1) := by decide +kernel
theorem dX1_putInSet_37 : decode cX1_putInSet 37 = .ok (.bipush 63, 2) := by decide +kernel
theorem dX1_putInSet_39 : decode cX1_putInSet 39 = .ok (.iand, 1) := by decide +kernel
theorem dX1_putInSet_40 : decode cX1_putInSet 40 = .ok (.lshl, 1) := by decide +kernel
theorem dX1_putInSet_41 : decode cX1_putInSet 41 = .ok (.lor, 1) := by decide +kernel
theorem dX1_putInSet_42 : decode cX1_putInSet 42 = .ok (.lastore, 1) := by decide +kernel
theorem dX1_putInSet_43 : decode cX1_putInSet 43 = .ok (.return_, 1) := by decide +kernel
theorem dX1_add_0 : decode cX1_add 0 = .ok (.iconst 4, 1) := by decide +kernel
theorem dX1_add_1 : decode cX1_add 1 = .ok (.iload_n 1, 1) := by decide +kernel
theorem dX1_add_2 : decode cX1_add 2 = .ok (.imul, 1) := by decide +kernel
theorem dX1_add_3 : decode cX1_add 3 = .ok (.iload_n 2, 1) := by decide +kernel
theorem dX1_add_4 : decode cX1_add 4 = .ok (.iadd, 1) := by decide +kernel
theorem dX1_add_5 : decode cX1_add 5 = .ok (.istore 5, 2) := by decide +kernel
theorem dX1_add_7 : decode cX1_add 7 = .ok (.iload 5, 2) := by decide +kernel
theorem dX1_add_9 : decode cX1_add 9 = .ok (.ifCond .lt 24, 3) := by decide +kernel
theorem dX1_add_12 : decode cX1_add 12 = .ok (.iload 5, 2) := by decide +kernel
theorem dX1_add_14 : decode cX1_add 14 = .ok (.aload_n 0, 1) := by decide +kernel
theorem dX1_add_15 : decode cX1_add 15 = .ok (.getfield 18, 3) := by decide +kernel
theorem dX1_add_18 : decode cX1_add 18 = .ok (.arraylength, 1) := by decide +kernel
theorem dX1_add_19 : decode cX1_add 19 = .ok (.if_icmp .ge 14, 3) := by decide +kernel
theorem dX1_add_22 : decode cX1_add 22 = .ok (.aload_n 0, 1) := by decide +kernel
theorem dX1_add_23 : decode cX1_add 23 = .ok (.getfield 18, 3) := by decide +kernel
theorem dX1_add_26 : decode cX1_add 26 = .ok (.iload 5, 2) := by decide +kernel
theorem dX1_add_28 : decode cX1_add 28 = .ok (.dup2, 1) := by decide +kernel
theorem dX1_add_29 : decode cX1_add 29 = .ok (.laload, 1) := by decide +kernel
theorem dX1_add_30 : decode cX1_add 30 = .ok (.lload_n 3, 1) := by decide +kernel
theorem dX1_add_31 : decode cX1_add 31 = .ok (.ladd, 1) := by decide +kernel
theorem dX1_add_32 : decode cX1_add 32 = .ok (.lastore, 1) := by decide +kernel
theorem dX1_add_33 : decode cX1_add 33 = .ok (.return_, 1) := by decide +kernel
theorem dX1_regroup_0 : decode cX1_regroup 0 = .ok (.aload_n 0, 1) := by decide +kernel
theorem dX1_regroup_1 : decode cX1_regroup 1 = .ok (.iconst 0, 1) := by decide +kernel
theorem dX1_regroup_2 : decode cX1_regroup 2 = .ok (.putfield 32, 3) := by decide +kernel
theorem dX1_regroup_5 : decode cX1_regroup 5 = .ok (.iconst 0, 1) := by decide +kernel
theorem dX1_regroup_6 : decode cX1_regroup 6 = .ok (.istore_n 1, 1) := by decide +kernel
theorem dX1_regroup_7 : decode cX1_regroup 7 = .ok (.iload_n 1, 1) := by decide +kernel
theorem dX1_regroup_8 : decode cX1_regroup 8 = .ok (.aload_n 0, 1) := by decide +kernel
theorem dX1_regroup_9 : decode cX1_regroup 9 = .ok (.getfield 25, 3) := by decide +kernel
theorem dX1_regroup_12 : decode cX1_regroup 12 = .ok (.if_icmp .ge 68, 3) := by decide +kernel
theorem dX1_regroup_15 : decode cX1_regroup 15 = .ok (.iload_n 1, 1) := by decide +kernel
theorem dX1_regroup_16 : decode cX1_regroup 16 = .ok (.aload_n 0, 1) := by decide +kernel
theorem dX1_regroup_17 : decode cX1_regroup 17 = .ok (.getfield 15, 3) := by decide +kernel
theorem dX1_regroup_20 : decode cX1_regroup 20 = .ok (.arraylength, 1) := by decide +kernel
theorem dX1_regroup_21 : decode cX1_regroup 21 = .ok (.if_icmp .ge 59, 3) := by decide +kernel
theorem dX1_regroup_24 : decode cX1_regroup 24 = .ok (.aload_n 0, 1) := by decide +kernel
theorem dX1_regroup_25 : decode cX1_regroup 25 = .ok (.iload_n 1, 1) := by decide +kernel
theorem dX1_regroup_26 : decode cX1_regroup 26 = .ok (.invokevirtual 94, 3) := by decide +kernel
theorem dX1_regroup_29 : decode cX1_regroup 29 = .ok (.istore_n 2, 1) := by decide +kernel
theorem dX1_regroup_30 : decode cX1_regroup 30 = .ok (.iload_n 2, 1) := by decide +kernel
theorem dX1_regroup_31 : decode cX1_regroup 31 = .ok (.ifCond .lt 23, 3) := by decide +kernel
theorem dX1_regroup_34 : decode cX1_regroup 34 = .ok (.iload_n 2, 1) := by decide +kernel
theorem dX1_regroup_35 : decode cX1_regroup 35 = .ok (.iload_n 1, 1) := by decide +kernel
theorem dX1_regroup_36 : decode cX1_regroup 36 = .ok (.if_icmp .ge 18, 3) := by decide +kernel
theorem dX1_regroup_39 : decode cX1_regroup 39 = .ok (.aload_n 0, 1) := by decide +kernel
theorem dX1_regroup_40 : decode cX1_regroup 40 = .ok (.getfield 15, 3) := by decide +kernel
theorem dX1_regroup_43 : decode cX1_regroup 43 = .ok (.iload_n 1, 1) := by decide +kernel
theorem dX1_regroup_44 : decode cX1_regroup 44 = .ok (.aload_n 0, 1) := by decide +kernel
theorem dX1_regroup_45 : decode cX1_regroup 45 = .ok (.getfield 15, 3) := by decide +kernel
theorem dX1_regroup_48 : decode cX1_regroup 48 = .ok (.iload_n 2, 1) := by decide +kernel
theorem dX1_regroup_49 : decode cX1_regroup 49 = .ok (.iaload, 1) := by decide +kernel
theorem dX1_regroup_50 : decode cX1_regroup 50 = .ok (.iastore, 1) := by decide +kernel
theorem dX1_regroup_51 : decode cX1_regroup 51 = .ok (.goto 23, 3) := by decide +kernel
theorem dX1_regroup_54 : decode cX1_regroup 54 = .ok (.aload_n 0, 1) := by decide +kernel
theorem dX1_regroup_55 : decode cX1_regroup 55 = .ok (.getfield 15, 3) := by decide +kernel
theorem dX1_regroup_58 : decode cX1_regroup 58 = .ok (.iload_n 1, 1) := by decide +kernel
theorem dX1_regroup_59 : decode cX1_regroup 59 = .ok (.aload_n 0, 1) := by decide +kernel
theorem dX1_regroup_60 : decode cX1_regroup 60 = .ok (.getfield 32, 3) := by decide +kernel
theorem dX1_regroup_63 : decode cX1_regroup 63 = .ok (.iastore, 1) := by decide +kernel
theorem dX1_regroup_64 : decode cX1_regroup 64 = .ok (.aload_n 0, 1) := by decide +kernel
theorem dX1_regroup_65 : decode cX1_regroup 65 = .ok (.dup, 1) := by decide +kernel
theorem dX1_regroup_66 : decode cX1_regroup 66 = .ok (.getfield 32, 3) := by decide +kernel
theorem dX1_regroup_69 : decode cX1_regroup 69 = .ok (.iconst 1, 1) := by decide +kernel
theorem dX1_regroup_70 : decode cX1_regroup 70 = .ok (.iadd, 1) := by decide +kernel
theorem dX1_regroup_71 : decode cX1_regroup 71 = .ok (.putfield 32, 3) := by decide +kernel
theorem dX1_regroup_74 : decode cX1_regroup 74 = .ok (.iinc 1 1, 3) := by decide +kernel
theorem dX1_regroup_77 : decode cX1_regroup 77 = .ok (.goto (-70), 3) := by decide +kernel
theorem dX1_regroup_80 : decode cX1_regroup 80 = .ok (.aload_n 0, 1) := by decide +kernel
theorem dX1_regroup_81 : decode cX1_regroup 81 = .ok (.getfield 15, 3) := by decide +kernel
theorem dX1_regroup_84 : decode cX1_regroup 84 = .ok (.iconst 0, 1) := by decide +kernel
theorem dX1_regroup_85 : decode cX1_regroup 85 = .ok (.aload_n 0, 1) := by decide +kernel
theorem dX1_regroup_86 : decode cX1_regroup 86 = .ok (.getfield 9, 3) := by decide +kernel
theorem dX1_regroup_89 : decode cX1_regroup 89 = .ok (.iconst 0, 1) := by decide +kernel
theorem dX1_regroup_90 : decode cX1_regroup 90 = .ok (.aload_n 0, 1) := by decide +kernel
theorem dX1_regroup_91 : decode cX1_regroup 91 = .ok (.getfield 9, 3) := by decide +kernel
theorem dX1_regroup_94 : decode cX1_regroup 94 = .ok (.arraylength, 1) := by decide +kernel
theorem dX1_regroup_95 : decode cX1_regroup 95 = .ok (.invokestatic 97, 3) := by decide +kernel
theorem dX1_regroup_98 : decode cX1_regroup 98 = .ok (.return_, 1) := by decide +kernel
theorem dX1_firstLike_0 : decode cX1_firstLike 0 = .ok (.iconst 0, 1) := by decide +kernel
theorem dX1_firstLike_1 : decode cX1_firstLike 1 = .ok (.istore_n 2, 1) := by decide +kernel
theorem dX1_firstLike_2 : decode cX1_firstLike 2 = .ok (.iload_n 2, 1) := by decide +kernel
theorem dX1_firstLike_3 : decode cX1_firstLike 3 = .ok (.iload_n 1, 1) := by decide +kernel
theorem dX1_firstLike_4 : decode cX1_firstLike 4 = .ok (.if_icmp .ge 33, 3) := by decide +kernel
theorem dX1_firstLike_7 : decode cX1_firstLike 7 = .ok (.aload_n 0, 1) := by decide +kernel
theorem dX1_firstLike_8 : decode cX1_firstLike 8 = .ok (.iload_n 2, 1) := by decide +kernel
theorem dX1_firstLike_9 : decode cX1_firstLike 9 = .ok (.invokevirtual 38, 3) := by decide +kernel
theorem dX1_firstLike_12 : decode cX1_firstLike 12 = .ok (.aload_n 0, 1) := by decide +kernel
theorem dX1_firstLike_13 : decode cX1_firstLike 13 = .ok (.iload_n 1, 1) := by decide +kernel
theorem dX1_firstLike_14 : decode cX1_firstLike 14 = .ok (.invokevirtual 38, 3) := by decide +kernel
theorem dX1_firstLike_17 : decode cX1_firstLike 17 = .ok (.if_icmp .ne 14, 3) := by decide +kernel
theorem dX1_firstLike_20 : decode cX1_firstLike 20 = .ok (.aload_n 0, 1) := by decide +kernel
theorem dX1_firstLike_21 : decode cX1_firstLike 21 = .ok (.iload_n 2, 1) := by decide +kernel
theorem dX1_firstLike_22 : decode cX1_firstLike 22 = .ok (.iload_n 1, 1) := by decide +kernel
theorem dX1_firstLike_23 : decode cX1_firstLike 23 = .ok (.invokevirtual 103, 3) := by decide +kernel
theorem dX1_firstLike_26 : decode cX1_firstLike 26 = .ok (.ifCond .eq 5, 3) := by decide +kernel
theorem dX1_firstLike_29 : decode cX1_firstLike 29 = .ok (.iload_n 2, 1) := by decide +kernel
theorem dX1_firstLike_30 : decode cX1_firstLike 30 = .ok (.ireturn, 1) := by decide +kernel
theorem dX1_firstLike_31 : decode cX1_firstLike 31 = .ok (.iinc 2 1, 3) := by decide +kernel
theorem dX1_firstLike_34 : decode cX1_firstLike 34 = .ok (.goto (-32), 3) := by decide +kernel
theorem dX1_firstLike_37 : decode cX1_firstLike 37 = .ok (.iload_n 1, 1) := by decide +kernel
theorem dX1_firstLike_38 : decode cX1_firstLike 38 = .ok (.ireturn, 1) := by decide +kernel
theorem dX1_haveSameSignature_0 : decode cX1_haveSameSignature 0 = .ok (.iconst 4, 1) := by decide +kernel
theorem dX1_haveSameSignature_1 : decode cX1_haveSameSignature 1 = .ok (.iload_n 1, 1) := by decide +kernel
theorem dX1_haveSameSignature_2 : decode cX1_haveSameSignature 2 = .ok (.imul, 1) := by decide +kernel
theorem dX1_haveSameSignature_3 : decode cX1_haveSameSignature 3 = .ok (.istore_n 3, 1) := by decide +kernel
theorem dX1_haveSameSignature_4 : decode cX1_haveSameSignature 4 = .ok (.iconst 4, 1) := by decide +kernel
theorem dX1_haveSameSignature_5 : decode cX1_haveSameSignature 5 = .ok (.iload_n 2, 1) := by decide +kernel
theorem dX1_haveSameSignature_6 : decode cX1_haveSameSignature 6 = .ok (.imul, 1) := by decide +kernel
theorem dX1_haveSameSignature_7 : decode cX1_haveSameSignature 7 = .ok (.istore 4, 2) := by decide +kernel
theorem dX1_haveSameSignature_9 : decode cX1_haveSameSignature 9 = .ok (.iload_n 3, 1) := by decide +kernel
theorem dX1_haveSameSignature_10 : decode cX1_haveSameSignature 10 = .ok (.ifCond .lt 24, 3) := by decide +kernel
theorem dX1_haveSameSignature_13 : decode cX1_haveSameSignature 13 = .ok (.iload 4, 2) := by decide +kernel
theorem dX1_haveSameSignature_15 : decode cX1_haveSameSignature 15 = .ok (.ifCond .lt 19, 3) := by decide +kernel
theorem dX1_haveSameSignature_18 : decode cX1_haveSameSignature 18 = .ok (.iload_n 3, 1) := by decide +kernel
theorem dX1_haveSameSignature_19 : decode cX1_haveSameSignature 19 = .ok (.iload 4, 2) := by decide +kernel
theorem dX1_haveSameSignature_21 : decode cX1_haveSameSignature 21 = .ok (.invokestatic 106, 3) := by decide +kernel
theorem dX1_haveSameSignature_24 : decode cX1_haveSameSignature 24 = .ok (.iconst 4, 1) := by decide +kernel
theorem dX1_haveSameSignature_25 : decode cX1_haveSameSignature 25 = .ok (.iadd, 1) := by decide +kernel
theorem dX1_haveSameSignature_26 : decode cX1_haveSameSignature 26 = .ok (.aload_n 0, 1) := by decide +kernel
theorem dX1_haveSameSignature_27 : decode cX1_haveSameSignature 27 = .ok (.getfield 18, 3) := by decide +kernel
theorem dX1_haveSameSignature_30 : decode cX1_haveSameSignature 30 = .ok (.arraylength, 1) := by decide +kernel
theorem dX1_haveSameSignature_31 : decode cX1_haveSameSignature 31 = .ok (.if_icmp .le 5, 3) := by decide +kernel
theorem dX1_haveSameSignature_34 : decode cX1_haveSameSignature 34 = .ok (.iconst 0, 1) := by decide +kernel
theorem dX1_haveSameSignature_35 : decode cX1_haveSameSignature 35 = .ok (.ireturn, 1) := by decide +kernel
theorem dX1_haveSameSignature_36 : decode cX1_haveSameSignature 36 = .ok (.iconst 0, 1) := by decide +kernel
theorem dX1_haveSameSignature_37 : decode cX1_haveSameSignature 37 = .ok (.istore 5, 2) := by decide +kernel
theorem dX1_haveSameSignature_39 : decode cX1_haveSameSignature 39 = .ok (.iload 5, 2) := by decide +kernel
theorem dX1_haveSameSignature_41 : decode cX1_haveSameSignature 41 = .ok (.iconst 4, 1) := by decide +kernel
theorem dX1_haveSameSignature_42 : decode cX1_haveSameSignature 42 = .ok (.if_icmp .ge 34, 3) := by decide +kernel
theorem dX1_haveSameSignature_45 : decode cX1_haveSameSignature 45 = .ok (.aload_n 0, 1) := by decide +kernel
theorem dX1_haveSameSignature_46 : decode cX1_haveSameSignature 46 = .ok (.getfield 18, 3) := by decide +kernel
theorem dX1_haveSameSignature_49 : decode cX1_haveSameSignature 49 = .ok (.iload_n 3, 1) := by decide +kernel
theorem dX1_haveSameSignature_50 : decode cX1_haveSameSignature 50 = .ok (.iload 5, 2) := by decide +kernel
theorem dX1_haveSameSignature_52 : decode cX1_haveSameSignature 52 = .ok (.iadd, 1) := by decide +kernel
theorem dX1_haveSameSignature_53 : decode cX1_haveSameSignature 53 = .ok (.laload, 1) := by decide +kernel
theorem dX1_haveSameSignature_54 : decode cX1_haveSameSignature 54 = .ok (.aload_n 0, 1) := by decide +kernel
theorem dX1_haveSameSignature_55 : decode cX1_haveSameSignature 55 = .ok (.getfield 18, 3) := by decide +kernel
theorem dX1_haveSameSignature_58 : decode cX1_haveSameSignature 58 = .ok (.iload 4, 2) := by decide +kernel
theorem dX1_haveSameSignature_60 : decode cX1_haveSameSignature 60 = .ok (.iload 5, 2) := by decide +kernel
theorem dX1_haveSameSignature_62 : decode cX1_haveSameSignature 62 = .ok (.iadd, 1) := by decide +kernel
theorem dX1_haveSameSignature_63 : decode cX1_haveSameSignature 63 = .ok (.laload, 1) := by decide +kernel
theorem dX1_haveSameSignature_64 : decode cX1_haveSameSignature 64 = .ok (.lcmp, 1) := by decide +kernel
theorem dX1_haveSameSignature_65 : decode cX1_haveSameSignature 65 = .ok (.ifCond .eq 5, 3) := by decide +kernel
theorem dX1_haveSameSignature_68 : decode cX1_haveSameSignature 68 = .ok (.iconst 0, 1) := by decide +kernel
theorem dX1_haveSameSignature_69 : decode cX1_haveSameSignature 69 = .ok (.ireturn, 1) := by decide +kernel
theorem dX1_haveSameSignature_70 : decode cX1_haveSameSignature 70 = .ok (.iinc 5 1, 3) := by decide +kernel
theorem dX1_haveSameSignature_73 : decode cX1_haveSameSignature 73 = .ok (.goto (-34), 3) := by decide +kernel
theorem dX1_haveSameSignature_76 : decode cX1_haveSameSignature 76 = .ok (.iconst 1, 1) := by decide +kernel
theorem dX1_haveSameSignature_77 : decode cX1_haveSameSignature 77 = .ok (.ireturn, 1) := by decide +kernel
theorem dX1_balance_0 : decode cX1_balance 0 = .ok (.aload_n 0, 1) := by decide +kernel
theorem dX1_balance_1 : decode cX1_balance 1 = .ok (.getfield 22, 3) := by decide +kernel
theorem dX1_balance_4 : decode cX1_balance 4 = .ok (.iconst 0, 1) := by decide +kernel
theorem dX1_balance_5 : decode cX1_balance 5 = .ok (.invokestatic 48, 3) := by decide +kernel
theorem dX1_balance_8 : decode cX1_balance 8 = .ok (.iconst 0, 1) := by decide +kernel
theorem dX1_balance_9 : decode cX1_balance 9 = .ok (.istore_n 1, 1) := by decide +kernel
theorem dX1_balance_10 : decode cX1_balance 10 = .ok (.iload_n 1, 1) := by decide +kernel
theorem dX1_balance_11 : decode cX1_balance 11 = .ok (.aload_n 0, 1) := by decide +kernel
theorem dX1_balance_12 : decode cX1_balance 12 = .ok (.getfield 25, 3) := by decide +kernel
theorem dX1_balance_15 : decode cX1_balance 15 = .ok (.if_icmp .ge 50, 3) := by decide +kernel
theorem dX1_balance_18 : decode cX1_balance 18 = .ok (.aload_n 0, 1) := by decide +kernel
theorem dX1_balance_19 : decode cX1_balance 19 = .ok (.iload_n 1, 1) := by decide +kernel
theorem dX1_balance_20 : decode cX1_balance 20 = .ok (.invokevirtual 38, 3) := by decide +kernel
theorem dX1_balance_23 : decode cX1_balance 23 = .ok (.istore_n 2, 1) := by decide +kernel
theorem dX1_balance_24 : decode cX1_balance 24 = .ok (.iload_n 2, 1) := by decide +kernel
theorem dX1_balance_25 : decode cX1_balance 25 = .ok (.ifCond .lt 34, 3) := by decide +kernel
theorem dX1_balance_28 : decode cX1_balance 28 = .ok (.iload_n 2, 1) := by decide +kernel
theorem dX1_balance_29 : decode cX1_balance 29 = .ok (.aload_n 0, 1) := by decide +kernel
theorem dX1_balance_30 : decode cX1_balance 30 = .ok (.getfield 22, 3) := by decide +kernel
theorem dX1_balance_33 : decode cX1_balance 33 = .ok (.arraylength, 1) := by decide +kernel
theorem dX1_balance_34 : decode cX1_balance 34 = .ok (.if_icmp .ge 25, 3) := by decide +kernel
theorem dX1_balance_37 : decode cX1_balance 37 = .ok (.aload_n 0, 1) := by decide +kernel
theorem dX1_balance_38 : decode cX1_balance 38 = .ok (.getfield 22, 3) := by decide +kernel
theorem dX1_balance_41 : decode cX1_balance 41 = .ok (.iload_n 2, 1) := by decide +kernel
theorem dX1_balance_42 : decode cX1_balance 42 = .ok (.dup2, 1) := by decide +kernel
theorem dX1_balance_43 : decode cX1_balance 43 = .ok (.iaload, 1) := by decide +kernel
theorem dX1_balance_44 : decode cX1_balance 44 = .ok (.iload_n 1, 1) := by decide +kernel
theorem dX1_balance_45 : decode cX1_balance 45 = .ok (.aload_n 0, 1) := by decide +kernel
theorem dX1_balance_46 : decode cX1_balance 46 = .ok (.getfield 29, 3) := by decide +kernel
theorem dX1_balance_49 : decode cX1_balance 49 = .ok (.if_icmp .ge 7, 3) := by decide +kernel
theorem dX1_balance_52 : decode cX1_balance 52 = .ok (.iconst 1, 1) := by decide +kernel
theorem dX1_balance_53 : decode cX1_balance 53 = .ok (.goto 4, 3) := by decide +kernel
theorem dX1_balance_56 : decode cX1_balance 56 = .ok (.iconst (-1), 1) := by decide +kernel
theorem dX1_balance_57 : decode cX1_balance 57 = .ok (.iadd, 1) := by decide +kernel
theorem dX1_balance_58 : decode cX1_balance 58 = .ok (.iastore, 1) := by decide +kernel
theorem dX1_balance_59 : decode cX1_balance 59 = .ok (.iinc 1 1, 3) := by decide +kernel
theorem dX1_balance_62 : decode cX1_balance 62 = .ok (.goto (-52), 3) := by decide +kernel
theorem dX1_balance_65 : decode cX1_balance 65 = .ok (.iconst 0, 1) := by decide +kernel
theorem dX1_balance_66 : decode cX1_balance 66 = .ok (.istore_n 1, 1) := by decide +kernel
theorem dX1_balance_67 : decode cX1_balance 67 = .ok (.iload_n 1, 1) := by decide +kernel
theorem dX1_balance_68 : decode cX1_balance 68 = .ok (.aload_n 0, 1) := by decide +kernel
theorem dX1_balance_69 : decode cX1_balance 69 = .ok (.getfield 22, 3) := by decide +kernel
theorem dX1_balance_72 : decode cX1_balance 72 = .ok (.arraylength, 1) := by decide +kernel
theorem dX1_balance_73 : decode cX1_balance 73 = .ok (.if_icmp .ge 20, 3) := by decide +kernel
theorem dX1_balance_76 : decode cX1_balance 76 = .ok (.aload_n 0, 1) := by decide +kernel
theorem dX1_balance_77 : decode cX1_balance 77 = .ok (.getfield 22, 3) := by decide +kernel
theorem dX1_balance_80 : decode cX1_balance 80 = .ok (.iload_n 1, 1) := by decide +kernel
theorem dX1_balance_81 : decode cX1_balance 81 = .ok (.iaload, 1) := by decide +kernel
theorem dX1_balance_82 : decode cX1_balance 82 = .ok (.ifCond .eq 5, 3) := by decide +kernel
theorem dX1_balance_85 : decode cX1_balance 85 = .ok (.iconst 0, 1) := by decide +kernel
theorem dX1_balance_86 : decode cX1_balance 86 = .ok (.ireturn, 1) := by decide +kernel
theorem dX1_balance_87 : decode cX1_balance 87 = .ok (.iinc 1 1, 3) := by decide +kernel
theorem dX1_balance_90 : decode cX1_balance 90 = .ok (.goto (-23), 3) := by decide +kernel
theorem dX1_balance_93 : decode cX1_balance 93 = .ok (.iconst 1, 1) := by decide +kernel
theorem dX1_balance_94 : decode cX1_balance 94 = .ok (.ireturn, 1) := by decide +kernel
theorem dX2_init_0 : decode cX2_init 0 = .ok (.aload_n 0, 1) := by decide +kernel
theorem dX2_init_1 : decode cX2_init 1 = .ok (.invokespecial 3, 3) := by decide +kernel
theorem dX2_init_4 : decode cX2_init 4 = .ok (.aload_n 0, 1) := by decide +kernel
theorem dX2_init_5 : decode cX2_init 5 = .ok (.bipush 12, 2) := by decide +kernel
theorem dX2_init_7 : decode cX2_init 7 = .ok (.newarray .int, 2) := by decide +kernel
theorem dX2_init_9 : decode cX2_init 9 = .ok (.putfield 9, 3) := by decide +kernel
theorem dX2_init_12 : decode cX2_init 12 = .ok (.aload_n 0, 1) := by decide +kernel
theorem dX2_init_13 : decode cX2_init 13 = .ok (.bipush 12, 2) := by decide +kernel
theorem dX2_init_15 : decode cX2_init 15 = .ok (.newarray .int, 2) := by decide +kernel
theorem dX2_init_17 : decode cX2_init 17 = .ok (.putfield 15, 3) := by decide +kernel
theorem dX2_init_20 : decode cX2_init 20 = .ok (.aload_n 0, 1) := by decide +kernel
theorem dX2_init_21 : decode cX2_init 21 = .ok (.iconst 0, 1) := by decide +kernel
theorem dX2_init_22 : decode cX2_init 22 = .ok (.putfield 18, 3) := by decide +kernel
theorem dX2_init_25 : decode cX2_init 25 = .ok (.return_, 1) := by decide +kernel
theorem dX2_items_0 : decode cX2_items 0 = .ok (.aload_n 0, 1) := by decide +kernel
theorem dX2_items_1 : decode cX2_items 1 = .ok (.getfield 18, 3) := by decide +kernel
theorem dX2_items_4 : decode cX2_items 4 = .ok (.ireturn, 1) := by decide +kernel
theorem dX2_kindOf_0 : decode cX2_kindOf 0 = .ok (.iload_n 1, 1) := by decide +kernel
theorem dX2_kindOf_1 : decode cX2_kindOf 1 = .ok (.ifCond .lt 29, 3) := by decide +kernel
theorem dX2_kindOf_4 : decode cX2_kindOf 4 = .ok (.iload_n 1, 1) := by decide +kernel
theorem dX2_kindOf_5 : decode cX2_kindOf 5 = .ok (.aload_n 0, 1) := by decide +kernel
theorem dX2_kindOf_6 : decode cX2_kindOf 6 = .ok (.getfield 18, 3) := by decide +kernel
theorem dX2_kindOf_9 : decode cX2_kindOf 9 = .ok (.if_icmp .ge 21, 3) := by decide +kernel
theorem dX2_kindOf_12 : decode cX2_kindOf 12 = .ok (.iload_n 1, 1) := by decide +kernel
theorem dX2_kindOf_13 : decode cX2_kindOf 13 = .ok (.aload_n 0, 1) := by decide +kernel
theorem dX2_kindOf_14 : decode cX2_kindOf 14 = .ok (.getfield 9, 3) := by decide +kernel
theorem dX2_kindOf_17 : decode cX2_kindOf 17 = .ok (.arraylength, 1) := by decide +kernel
theorem dX2_kindOf_18 : decode cX2_kindOf 18 = .ok (.if_icmp .ge 12, 3) := by decide +kernel
theorem dX2_kindOf_21 : decode cX2_kindOf 21 = .ok (.aload_n 0, 1) := by decide +kernel
theorem dX2_kindOf_22 : decode cX2_kindOf 22 = .ok (.getfield 9, 3) := by decide +kernel
theorem dX2_kindOf_25 : decode cX2_kindOf 25 = .ok (.iload_n 1, 1) := by decide +kernel
theorem dX2_kindOf_26 : decode cX2_kindOf 26 = .ok (.iaload, 1) := by decide +kernel
theorem dX2_kindOf_27 : decode cX2_kindOf 27 = .ok (.goto 4, 3) := by decide +kernel
theorem dX2_kindOf_30 : decode cX2_kindOf 30 = .ok (.iconst (-1), 1) := by decide +kernel
theorem dX2_kindOf_31 : decode cX2_kindOf 31 = .ok (.ireturn, 1) := by decide +kernel
theorem dX2_sort_0 : decode cX2_sort 0 = .ok (.aload_n 0, 1) := by decide +kernel
theorem dX2_sort_1 : decode cX2_sort 1 = .ok (.aload_n 0, 1) := by decide +kernel
theorem dX2_sort_2 : decode cX2_sort 2 = .ok (.getfield 9, 3) := by decide +kernel
theorem dX2_sort_5 : decode cX2_sort 5 = .ok (.arraylength, 1) := by decide +kernel
theorem dX2_sort_6 : decode cX2_sort 6 = .ok (.aload_n 1, 1) := by decide +kernel
theorem dX2_sort_7 : decode cX2_sort 7 = .ok (.invokevirtual 22, 3) := by decide +kernel
theorem dX2_sort_10 : decode cX2_sort 10 = .ok (.aload_n 2, 1) := by decide +kernel
theorem dX2_sort_11 : decode cX2_sort 11 = .ok (.invokevirtual 22, 3) := by decide +kernel
theorem dX2_sort_14 : decode cX2_sort 14 = .ok (.iadd, 1) := by decide +kernel
theorem dX2_sort_15 : decode cX2_sort 15 = .ok (.invokestatic 28, 3) := by decide +kernel
theorem dX2_sort_18 : decode cX2_sort 18 = .ok (.putfield 18, 3) := by decide +kernel
theorem dX2_sort_21 : decode cX2_sort 21 = .ok (.iconst 0, 1) := by decide +kernel
theorem dX2_sort_22 : decode cX2_sort 22 = .ok (.istore 5, 2) := by decide +kernel
theorem dX2_sort_24 : decode cX2_sort 24 = .ok (.iconst 0, 1) := by decide +kernel
theorem dX2_sort_25 : decode cX2_sort 25 = .ok (.istore 6, 2) := by decide +kernel
theorem dX2_sort_27 : decode cX2_sort 27 = .ok (.iload 6, 2) := by decide +kernel
theorem dX2_sort_29 : decode cX2_sort 29 = .ok (.aload_n 0, 1) := by decide +kernel
theorem dX2_sort_30 : decode cX2_sort 30 = .ok (.getfield 18, 3) := by decide +kernel
theorem dX2_sort_33 : decode cX2_sort 33 = .ok (.if_icmp .ge 79, 3) := by decide +kernel
theorem dX2_sort_36 : decode cX2_sort 36 = .ok (.iconst 0, 1) := by decide +kernel
theorem dX2_sort_37 : decode cX2_sort 37 = .ok (.istore 7, 2) := by decide +kernel
theorem dX2_sort_39 : decode cX2_sort 39 = .ok (.iload 7, 2) := by decide +kernel
theorem dX2_sort_41 : decode cX2_sort 41 = .ok (.iload 5, 2) := by decide +kernel
theorem dX2_sort_43 : decode cX2_sort 43 = .ok (.if_icmp .ge 25, 3) := by decide +kernel
theorem dX2_sort_46 : decode cX2_sort 46 = .ok (.aload_n 0, 1) := by decide +kernel
theorem dX2_sort_47 : decode cX2_sort 47 = .ok (.aload_n 1, 1) := by decide +kernel
theorem dX2_sort_48 : decode cX2_sort 48 = .ok (.aload_n 2, 1) := by decide +kernel
theorem dX2_sort_49 : decode cX2_sort 49 = .ok (.iload 7, 2) := by decide +kernel
theorem dX2_sort_51 : decode cX2_sort 51 = .ok (.iload 6, 2) := by decide +kernel
theorem dX2_sort_53 : decode cX2_sort 53 = .ok (.iload_n 3, 1) := by decide +kernel
theorem dX2_sort_54 : decode cX2_sort 54 = .ok (.aload 4, 2) := by decide +kernel
theorem dX2_sort_56 : decode cX2_sort 56 = .ok (.invokevirtual 34, 3) := by decide +kernel
theorem dX2_sort_59 : decode cX2_sort 59 = .ok (.ifCond .ne 9, 3) := by decide +kernel
theorem dX2_sort_62 : decode cX2_sort 62 = .ok (.iinc 7 1, 3) := by decide +kernel
theorem dX2_sort_65 : decode cX2_sort 65 = .ok (.goto (-26), 3) := by decide +kernel
theorem dX2_sort_68 : decode cX2_sort 68 = .ok (.iload 7, 2) := by decide +kernel
theorem dX2_sort_70 : decode cX2_sort 70 = .ok (.iload 5, 2) := by decide +kernel
theorem dX2_sort_72 : decode cX2_sort 72 = .ok (.if_icmp .ne 25, 3) := by decide +kernel
theorem dX2_sort_75 : decode cX2_sort 75 = .ok (.iload 5, 2) := by decide +kernel
theorem dX2_sort_77 : decode cX2_sort 77 = .ok (.aload_n 0, 1) := by decide +kernel
theorem dX2_sort_78 : decode cX2_sort 78 = .ok (.getfield 15, 3) := by decide +kernel
theorem dX2_sort_81 : decode cX2_sort 81 = .ok (.arraylength, 1) := by decide +kernel
theorem dX2_sort_82 : decode cX2_sort 82 = .ok (.if_icmp .ge 15, 3) := by decide +kernel
theorem dX2_sort_85 : decode cX2_sort 85 = .ok (.aload_n 0, 1) := by decide +kernel
theorem dX2_sort_86 : decode cX2_sort 86 = .ok (.getfield 15, 3) := by decide +kernel
theorem dX2_sort_89 : decode cX2_sort 89 = .ok (.iload 5, 2) := by decide +kernel
theorem dX2_sort_91 : decode cX2_sort 91 = .ok (.iload 6, 2) := by decide +kernel
theorem dX2_sort_93 : decode cX2_sort 93 = .ok (.iastore, 1) := by decide +kernel
theorem dX2_sort_94 : decode cX2_sort 94 = .ok (.iinc 5 1, 3) := by decide +kernel
theorem dX2_sort_97 : decode cX2_sort 97 = .ok (.aload_n 0, 1) := by decide +kernel
theorem dX2_sort_98 : decode cX2_sort 98 = .ok (.getfield 9, 3) := by decide +kernel
theorem dX2_sort_101 : decode cX2_sort 101 = .ok (.iload 6, 2) := by decide +kernel
theorem dX2_sort_103 : decode cX2_sort 103 = .ok (.iload 7, 2) := by decide +kernel
theorem dX2_sort_105 : decode cX2_sort 105 = .ok (.iastore, 1) := by decide +kernel
theorem dX2_sort_106 : decode cX2_sort 106 = .ok (.iinc 6 1, 3) := by decide +kernel
theorem dX2_sort_109 : decode cX2_sort 109 = .ok (.goto (-82), 3) := by decide +kernel
theorem dX2_sort_112 : decode cX2_sort 112 = .ok (.iload 5, 2) := by decide +kernel
theorem dX2_sort_114 : decode cX2_sort 114 = .ok (.ireturn, 1) := by decide +kernel
theorem dX2_isLikeExample_0 : decode cX2_isLikeExample 0 = .ok (.iload_n 3, 1) := by decide +kernel
theorem dX2_isLikeExample_1 : decode cX2_isLikeExample 1 = .ok (.ifCond .lt 21, 3) := by decide +kernel
theorem dX2_isLikeExample_4 : decode cX2_isLikeExample 4 = .ok (.iload_n 3, 1) := by decide +kernel
theorem dX2_isLikeExample_5 : decode cX2_isLikeExample 5 = .ok (.aload_n 0, 1) := by decide +kernel
theorem dX2_isLikeExample_6 : decode cX2_isLikeExample 6 = .ok (.getfield 15, 3) := by decide +kernel
theorem dX2_isLikeExample_9 : decode cX2_isLikeExample 9 = .ok (.arraylength, 1) := by decide +kernel
theorem dX2_isLikeExample_10 : decode cX2_isLikeExample 10 = .ok (.if_icmp .ge 12, 3) := by decide +kernel
theorem dX2_isLikeExample_13 : decode cX2_isLikeExample 13 = .ok (.aload_n 0, 1) := by decide +kernel
theorem dX2_isLikeExample_14 : decode cX2_isLikeExample 14 = .ok (.getfield 15, 3) := by decide +kernel
theorem dX2_isLikeExample_17 : decode cX2_isLikeExample 17 = .ok (.iload_n 3, 1) := by decide +kernel
theorem dX2_isLikeExample_18 : decode cX2_isLikeExample 18 = .ok (.iaload, 1) := by decide +kernel
theorem dX2_isLikeExample_19 : decode cX2_isLikeExample 19 = .ok (.goto 4, 3) := by decide +kernel
theorem dX2_isLikeExample_22 : decode cX2_isLikeExample 22 = .ok (.iconst 0, 1) := by decide +kernel
theorem dX2_isLikeExample_23 : decode cX2_isLikeExample 23 = .ok (.istore 7, 2) := by decide +kernel
theorem dX2_isLikeExample_25 : decode cX2_isLikeExample 25 = .ok (.aload_n 1, 1) := by decide +kernel
theorem dX2_isLikeExample_26 : decode cX2_isLikeExample 26 = .ok (.invokevirtual 22, 3) := by decide +kernel
theorem dX2_isLikeExample_29 : decode cX2_isLikeExample 29 = .ok (.istore 8, 2) := by decide +kernel
theorem dX2_isLikeExample_31 : decode cX2_isLikeExample 31 = .ok (.iload 7, 2) := by decide +kernel
theorem dX2_isLikeExample_33 : decode cX2_isLikeExample 33 = .ok (.iload 8, 2) := by decide +kernel
theorem dX2_isLikeExample_35 : decode cX2_isLikeExample 35 = .ok (.if_icmp .ge 7, 3) := by decide +kernel
theorem dX2_isLikeExample_38 : decode cX2_isLikeExample 38 = .ok (.iconst 1, 1) := by decide +kernel
theorem dX2_isLikeExample_39 : decode cX2_isLikeExample 39 = .ok (.goto 4, 3) := by decide +kernel
theorem dX2_isLikeExample_42 : decode cX2_isLikeExample 42 = .ok (.iconst 0, 1) := by decide +kernel
theorem dX2_isLikeExample_43 : decode cX2_isLikeExample 43 = .ok (.istore 9, 2) := by decide +kernel
theorem dX2_isLikeExample_45 : decode cX2_isLikeExample 45 = .ok (.iload 4, 2) := by decide +kernel
theorem dX2_isLikeExample_47 : decode cX2_isLikeExample 47 = .ok (.iload 8, 2) := by decide +kernel
theorem dX2_isLikeExample_49 : decode cX2_isLikeExample 49 = .ok (.if_icmp .ge 7, 3) := by decide +kernel
theorem dX2_isLikeExample_52 : decode cX2_isLikeExample 52 = .ok (.iconst 1, 1) := by decide +kernel
theorem dX2_isLikeExample_53 : decode cX2_isLikeExample 53 = .ok (.goto 4, 3) := by decide +kernel
theorem dX2_isLikeExample_56 : decode cX2_isLikeExample 56 = .ok (.iconst 0, 1) := by decide +kernel
theorem dX2_isLikeExample_57 : decode cX2_isLikeExample 57 = .ok (.istore 10, 2) := by decide +kernel
theorem dX2_isLikeExample_59 : decode cX2_isLikeExample 59 = .ok (.aload 6, 2) := by decide +kernel
theorem dX2_isLikeExample_61 : decode cX2_isLikeExample 61 = .ok (.iload 9, 2) := by decide +kernel
theorem dX2_isLikeExample_63 : decode cX2_isLikeExample 63 = .ok (.ifCond .eq 7, 3) := by decide +kernel
theorem dX2_isLikeExample_66 : decode cX2_isLikeExample 66 = .ok (.aload_n 1, 1) := by decide +kernel
theorem dX2_isLikeExample_67 : decode cX2_isLikeExample 67 = .ok (.goto 4, 3) := by decide +kernel
theorem dX2_isLikeExample_70 : decode cX2_isLikeExample 70 = .ok (.aload_n 2, 1) := by decide +kernel
theorem dX2_isLikeExample_71 : decode cX2_isLikeExample 71 = .ok (.iload 10, 2) := by decide +kernel
theorem dX2_isLikeExample_73 : decode cX2_isLikeExample 73 = .ok (.ifCond .eq 7, 3) := by decide +kernel
theorem dX2_isLikeExample_76 : decode cX2_isLikeExample 76 = .ok (.aload_n 1, 1) := by decide +kernel
theorem dX2_isLikeExample_77 : decode cX2_isLikeExample 77 = .ok (.goto 4, 3) := by decide +kernel
theorem dX2_isLikeExample_80 : decode cX2_isLikeExample 80 = .ok (.aload_n 2, 1) := by decide +kernel
theorem dX2_isLikeExample_81 : decode cX2_isLikeExample 81 = .ok (.invokevirtual 38, 3) := by decide +kernel
theorem dX2_isLikeExample_84 : decode cX2_isLikeExample 84 = .ok (.iload 9, 2) := by decide +kernel
theorem dX2_isLikeExample_86 : decode cX2_isLikeExample 86 = .ok (.ifCond .eq 8, 3) := by decide +kernel
theorem dX2_isLikeExample_89 : decode cX2_isLikeExample 89 = .ok (.iload 7, 2) := by decide +kernel
theorem dX2_isLikeExample_91 : decode cX2_isLikeExample 91 = .ok (.goto 8, 3) := by decide +kernel
theorem dX2_isLikeExample_94 : decode cX2_isLikeExample 94 = .ok (.iload 7, 2) := by decide +kernel
theorem dX2_isLikeExample_96 : decode cX2_isLikeExample 96 = .ok (.iload 8, 2) := by decide +kernel
theorem dX2_isLikeExample_98 : decode cX2_isLikeExample 98 = .ok (.isub, 1) := by decide +kernel
theorem dX2_isLikeExample_99 : decode cX2_isLikeExample 99 = .ok (.istore 11, 2) := by decide +kernel
theorem dX2_isLikeExample_101 : decode cX2_isLikeExample 101 = .ok (.iload 10, 2) := by decide +kernel
theorem dX2_isLikeExample_103 : decode cX2_isLikeExample 103 = .ok (.ifCond .eq 8, 3) := by decide +kernel
theorem dX2_isLikeExample_106 : decode cX2_isLikeExample 106 = .ok (.iload 4, 2) := by decide +kernel
theorem dX2_isLikeExample_108 : decode cX2_isLikeExample 108 = .ok (.goto 8, 3) := by decide +kernel
theorem dX2_isLikeExample_111 : decode cX2_isLikeExample 111 = .ok (.iload 4, 2) := by decide +kernel
theorem dX2_isLikeExample_113 : decode cX2_isLikeExample 113 = .ok (.iload 8, 2) := by decide +kernel
theorem dX2_isLikeExample_115 : decode cX2_isLikeExample 115 = .ok (.isub, 1) := by decide +kernel
theorem dX2_isLikeExample_116 : decode cX2_isLikeExample 116 = .ok (.istore 12, 2) := by decide +kernel
theorem dX2_isLikeExample_118 : decode cX2_isLikeExample 118 = .ok (.aload 6, 2) := by decide +kernel
theorem dX2_isLikeExample_120 : decode cX2_isLikeExample 120 = .ok (.iconst 0, 1) := by decide +kernel
theorem dX2_isLikeExample_121 : decode cX2_isLikeExample 121 = .ok (.iload 11, 2) := by decide +kernel
theorem dX2_isLikeExample_123 : decode cX2_isLikeExample 123 = .ok (.iload 12, 2) := by decide +kernel
theorem dX2_isLikeExample_125 : decode cX2_isLikeExample 125 = .ok (.invokevirtual 44, 3) := by decide +kernel
theorem dX2_isLikeExample_128 : decode cX2_isLikeExample 128 = .ok (.ifCond .eq 30, 3) := by decide +kernel
theorem dX2_isLikeExample_131 : decode cX2_isLikeExample 131 = .ok (.aload 6, 2) := by decide +kernel
theorem dX2_isLikeExample_133 : decode cX2_isLikeExample 133 = .ok (.iconst 0, 1) := by decide +kernel
theorem dX2_isLikeExample_134 : decode cX2_isLikeExample 134 = .ok (.iload 11, 2) := by decide +kernel
theorem dX2_isLikeExample_136 : decode cX2_isLikeExample 136 = .ok (.iload 12, 2) := by decide +kernel
theorem dX2_isLikeExample_138 : decode cX2_isLikeExample 138 = .ok (.invokevirtual 48, 3) := by decide +kernel
theorem dX2_isLikeExample_141 : decode cX2_isLikeExample 141 = .ok (.ifCond .eq 17, 3) := by decide +kernel
theorem dX2_isLikeExample_144 : decode cX2_isLikeExample 144 = .ok (.aload 6, 2) := by decide +kernel
theorem dX2_isLikeExample_146 : decode cX2_isLikeExample 146 = .ok (.iload 5, 2) := by decide +kernel
theorem dX2_isLikeExample_148 : decode cX2_isLikeExample 148 = .ok (.invokevirtual 51, 3) := by decide +kernel
theorem dX2_isLikeExample_151 : decode cX2_isLikeExample 151 = .ok (.ifCond .eq 7, 3) := by decide +kernel
theorem dX2_isLikeExample_154 : decode cX2_isLikeExample 154 = .ok (.iconst 1, 1) := by decide +kernel
theorem dX2_isLikeExample_155 : decode cX2_isLikeExample 155 = .ok (.goto 4, 3) := by decide +kernel
theorem dX2_isLikeExample_158 : decode cX2_isLikeExample 158 = .ok (.iconst 0, 1) := by decide +kernel
theorem dX2_isLikeExample_159 : decode cX2_isLikeExample 159 = .ok (.ireturn, 1) := by decide +kernel
theorem dX3_init_0 : decode cX3_init 0 = .ok (.aload_n 0, 1) := by decide +kernel
theorem dX3_init_1 : decode cX3_init 1 = .ok (.invokespecial 3, 3) := by decide +kernel
theorem dX3_init_4 : decode cX3_init 4 = .ok (.aload_n 0, 1) := by decide +kernel
theorem dX3_init_5 : decode cX3_init 5 = .ok (.new 9, 3) := by decide +kernel
theorem dX3_init_8 : decode cX3_init 8 = .ok (.dup, 1) := by decide +kernel
theorem dX3_init_9 : decode cX3_init 9 = .ok (.invokespecial 11, 3) := by decide +kernel
theorem dX3_init_12 : decode cX3_init 12 = .ok (.putfield 12, 3) := by decide +kernel
theorem dX3_init_15 : decode cX3_init 15 = .ok (.aload_n 0, 1) := by decide +kernel
theorem dX3_init_16 : decode cX3_init 16 = .ok (.new 9, 3) := by decide +kernel
theorem dX3_init_19 : decode cX3_init 19 = .ok (.dup, 1) := by decide +kernel
theorem dX3_init_20 : decode cX3_init 20 = .ok (.invokespecial 11, 3) := by decide +kernel
theorem dX3_init_23 : decode cX3_init 23 = .ok (.putfield 18, 3) := by decide +kernel
theorem dX3_init_26 : decode cX3_init 26 = .ok (.aload_n 0, 1) := by decide +kernel
theorem dX3_init_27 : decode cX3_init 27 = .ok (.bipush 12, 2) := by decide +kernel
theorem dX3_init_29 : decode cX3_init 29 = .ok (.newarray .int, 2) := by decide +kernel
theorem dX3_init_31 : decode cX3_init 31 = .ok (.putfield 21, 3) := by decide +kernel
theorem dX3_init_34 : decode cX3_init 34 = .ok (.aload_n 0, 1) := by decide +kernel
theorem dX3_init_35 : decode cX3_init 35 = .ok (.bipush 72, 2) := by decide +kernel
theorem dX3_init_37 : decode cX3_init 37 = .ok (.newarray .int, 2) := by decide +kernel
theorem dX3_init_39 : decode cX3_init 39 = .ok (.putfield 25, 3) := by decide +kernel
theorem dX3_init_42 : decode cX3_init 42 = .ok (.aload_n 0, 1) := by decide +kernel
theorem dX3_init_43 : decode cX3_init 43 = .ok (.bipush 6, 2) := by decide +kernel
theorem dX3_init_45 : decode cX3_init 45 = .ok (.newarray .int, 2) := by decide +kernel
theorem dX3_init_47 : decode cX3_init 47 = .ok (.putfield 28, 3) := by decide +kernel
theorem dX3_init_50 : decode cX3_init 50 = .ok (.aload_n 0, 1) := by decide +kernel
theorem dX3_init_51 : decode cX3_init 51 = .ok (.iconst 0, 1) := by decide +kernel
theorem dX3_init_52 : decode cX3_init 52 = .ok (.putfield 31, 3) := by decide +kernel
theorem dX3_init_55 : decode cX3_init 55 = .ok (.aload_n 0, 1) := by decide +kernel
theorem dX3_init_56 : decode cX3_init 56 = .ok (.bipush 36, 2) := by decide +kernel
theorem dX3_init_58 : decode cX3_init 58 = .ok (.newarray .int, 2) := by decide +kernel
theorem dX3_init_60 : decode cX3_init 60 = .ok (.putfield 35, 3) := by decide +kernel
theorem dX3_init_63 : decode cX3_init 63 = .ok (.return_, 1) := by decide +kernel
theorem dX3_begin_0 : decode cX3_begin 0 = .ok (.aload_n 0, 1) := by decide +kernel
theorem dX3_begin_1 : decode cX3_begin 1 = .ok (.getfield 12, 3) := by decide +kernel
theorem dX3_begin_4 : decode cX3_begin 4 = .ok (.aload_n 1, 1) := by decide +kernel
theorem dX3_begin_5 : decode cX3_begin 5 = .ok (.invokevirtual 38, 3) := by decide +kernel
theorem dX3_begin_8 : decode cX3_begin 8 = .ok (.aload_n 0, 1) := by decide +kernel
theorem dX3_begin_9 : decode cX3_begin 9 = .ok (.getfield 18, 3) := by decide +kernel
theorem dX3_begin_12 : decode cX3_begin 12 = .ok (.aload_n 2, 1) := by decide +kernel
theorem dX3_begin_13 : decode cX3_begin 13 = .ok (.invokevirtual 38, 3) := by decide +kernel
theorem dX3_begin_16 : decode cX3_begin 16 = .ok (.aload_n 0, 1) := by decide +kernel
theorem dX3_begin_17 : decode cX3_begin 17 = .ok (.iconst 0, 1) := by decide +kernel
theorem dX3_begin_18 : decode cX3_begin 18 = .ok (.putfield 31, 3) := by decide +kernel
theorem dX3_begin_21 : decode cX3_begin 21 = .ok (.aload_n 0, 1) := by decide +kernel
theorem dX3_begin_22 : decode cX3_begin 22 = .ok (.aload_n 0, 1) := by decide +kernel
theorem dX3_begin_23 : decode cX3_begin 23 = .ok (.getfield 12, 3) := by decide +kernel
theorem dX3_begin_26 : decode cX3_begin 26 = .ok (.iconst 0, 1) := by decide +kernel
theorem dX3_begin_27 : decode cX3_begin 27 = .ok (.invokevirtual 42, 3) := by decide +kernel
theorem dX3_begin_30 : decode cX3_begin 30 = .ok (.aload_n 0, 1) := by decide +kernel
theorem dX3_begin_31 : decode cX3_begin 31 = .ok (.aload_n 0, 1) := by decide +kernel
theorem dX3_begin_32 : decode cX3_begin 32 = .ok (.getfield 18, 3) := by decide +kernel
theorem dX3_begin_35 : decode cX3_begin 35 = .ok (.bipush 6, 2) := by decide +kernel
theorem dX3_begin_37 : decode cX3_begin 37 = .ok (.invokevirtual 42, 3) := by decide +kernel
theorem dX3_begin_40 : decode cX3_begin 40 = .ok (.return_, 1) := by decide +kernel
theorem dX3_lookAt_0 : decode cX3_lookAt 0 = .ok (.iconst 0, 1) := by decide +kernel
theorem dX3_lookAt_1 : decode cX3_lookAt 1 = .ok (.istore_n 3, 1) := by decide +kernel
theorem dX3_lookAt_2 : decode cX3_lookAt 2 = .ok (.iload_n 3, 1) := by decide +kernel
theorem dX3_lookAt_3 : decode cX3_lookAt 3 = .ok (.bipush 6, 2) := by decide +kernel
theorem dX3_lookAt_5 : decode cX3_lookAt 5 = .ok (.if_icmp .ge 87, 3) := by decide +kernel
theorem dX3_lookAt_8 : decode cX3_lookAt 8 = .ok (.iload_n 2, 1) := by decide +kernel
theorem dX3_lookAt_9 : decode cX3_lookAt 9 = .ok (.iload_n 3, 1) := by decide +kernel
theorem dX3_lookAt_10 : decode cX3_lookAt 10 = .ok (.iadd, 1) := by decide +kernel
theorem dX3_lookAt_11 : decode cX3_lookAt 11 = .ok (.aload_n 0, 1) := by decide +kernel
theorem dX3_lookAt_12 : decode cX3_lookAt 12 = .ok (.getfield 21, 3) := by decide +kernel
theorem dX3_lookAt_15 : decode cX3_lookAt 15 = .ok (.arraylength, 1) := by decide +kernel
theorem dX3_lookAt_16 : decode cX3_lookAt 16 = .ok (.if_icmp .ge 76, 3) := by decide +kernel
theorem dX3_lookAt_19 : decode cX3_lookAt 19 = .ok (.aload_n 0, 1) := by decide +kernel
theorem dX3_lookAt_20 : decode cX3_lookAt 20 = .ok (.getfield 21, 3) := by decide +kernel
theorem dX3_lookAt_23 : decode cX3_lookAt 23 = .ok (.iload_n 2, 1) := by decide +kernel
theorem dX3_lookAt_24 : decode cX3_lookAt 24 = .ok (.iload_n 3, 1) := by decide +kernel
theorem dX3_lookAt_25 : decode cX3_lookAt 25 = .ok (.iadd, 1) := by decide +kernel
theorem dX3_lookAt_26 : decode cX3_lookAt 26 = .ok (.aload_n 1, 1) := by decide +kernel
theorem dX3_lookAt_27 : decode cX3_lookAt 27 = .ok (.iload_n 3, 1) := by decide +kernel
theorem dX3_lookAt_28 : decode cX3_lookAt 28 = .ok (.invokevirtual 46, 3) := by decide +kernel
theorem dX3_lookAt_31 : decode cX3_lookAt 31 = .ok (.iastore, 1) := by decide +kernel
theorem dX3_lookAt_32 : decode cX3_lookAt 32 = .ok (.iload_n 2, 1) := by decide +kernel
theorem dX3_lookAt_33 : decode cX3_lookAt 33 = .ok (.iload_n 3, 1) := by decide +kernel
theorem dX3_lookAt_34 : decode cX3_lookAt 34 = .ok (.iadd, 1) := by decide +kernel
theorem dX3_lookAt_35 : decode cX3_lookAt 35 = .ok (.bipush 6, 2) := by decide +kernel
theorem dX3_lookAt_37 : decode cX3_lookAt 37 = .ok (.imul, 1) := by decide +kernel
theorem dX3_lookAt_38 : decode cX3_lookAt 38 = .ok (.istore 4, 2) := by decide +kernel
theorem dX3_lookAt_40 : decode cX3_lookAt 40 = .ok (.iconst 0, 1) := by decide +kernel
theorem dX3_lookAt_41 : decode cX3_lookAt 41 = .ok (.istore 5, 2) := by decide +kernel
theorem dX3_lookAt_43 : decode cX3_lookAt 43 = .ok (.iload 5, 2) := by decide +kernel
theorem dX3_lookAt_45 : decode cX3_lookAt 45 = .ok (.bipush 6, 2) := by decide +kernel
theorem dX3_lookAt_47 : decode cX3_lookAt 47 = .ok (.if_icmp .ge 39, 3) := by decide +kernel
theorem dX3_lookAt_50 : decode cX3_lookAt 50 = .ok (.iload 4, 2) := by decide +kernel
theorem dX3_lookAt_52 : decode cX3_lookAt 52 = .ok (.iload 5, 2) := by decide +kernel
theorem dX3_lookAt_54 : decode cX3_lookAt 54 = .ok (.iadd, 1) := by decide +kernel
theorem dX3_lookAt_55 : decode cX3_lookAt 55 = .ok (.aload_n 0, 1) := by decide +kernel
theorem dX3_lookAt_56 : decode cX3_lookAt 56 = .ok (.getfield 25, 3) := by decide +kernel
theorem dX3_lookAt_59 : decode cX3_lookAt 59 = .ok (.arraylength, 1) := by decide +kernel
theorem dX3_lookAt_60 : decode cX3_lookAt 60 = .ok (.if_icmp .ge 26, 3) := by decide +kernel
theorem dX3_lookAt_63 : decode cX3_lookAt 63 = .ok (.aload_n 0, 1) := by decide +kernel
theorem dX3_lookAt_64 : decode cX3_lookAt 64 = .ok (.getfield 25, 3) := by decide +kernel
theorem dX3_lookAt_67 : decode cX3_lookAt 67 = .ok (.iload 4, 2) := by decide +kernel
theorem dX3_lookAt_69 : decode cX3_lookAt 69 = .ok (.iload 5, 2) := by decide +kernel
theorem dX3_lookAt_71 : decode cX3_lookAt 71 = .ok (.iadd, 1) := by decide +kernel
theorem dX3_lookAt_72 : decode cX3_lookAt 72 = .ok (.aload_n 1, 1) := by decide +kernel
theorem dX3_lookAt_73 : decode cX3_lookAt 73 = .ok (.iload_n 3, 1) := by decide +kernel
theorem dX3_lookAt_74 : decode cX3_lookAt 74 = .ok (.iload 5, 2) := by decide +kernel
theorem dX3_lookAt_76 : decode cX3_lookAt 76 = .ok (.invokevirtual 49, 3) := by decide +kernel
theorem dX3_lookAt_79 : decode cX3_lookAt 79 = .ok (.iastore, 1) := by decide +kernel
theorem dX3_lookAt_80 : decode cX3_lookAt 80 = .ok (.iinc 5 1, 3) := by decide +kernel
theorem dX3_lookAt_83 : decode cX3_lookAt 83 = .ok (.goto (-40), 3) := by decide +kernel
theorem dX3_lookAt_86 : decode cX3_lookAt 86 = .ok (.iinc 3 1, 3) := by decide +kernel
theorem dX3_lookAt_89 : decode cX3_lookAt 89 = .ok (.goto (-87), 3) := by decide +kernel
theorem dX3_lookAt_92 : decode cX3_lookAt 92 = .ok (.return_, 1) := by decide +kernel
theorem dX3_worldOn_0 : decode cX3_worldOn 0 = .ok (.iload_n 1, 1) := by decide +kernel
theorem dX3_worldOn_1 : decode cX3_worldOn 1 = .ok (.ifCond .ne 10, 3) := by decide +kernel
theorem dX3_worldOn_4 : decode cX3_worldOn 4 = .ok (.aload_n 0, 1) := by decide +kernel
theorem dX3_worldOn_5 : decode cX3_worldOn 5 = .ok (.getfield 12, 3) := by decide +kernel
theorem dX3_worldOn_8 : decode cX3_worldOn 8 = .ok (.goto 7, 3) := by decide +kernel
theorem dX3_worldOn_11 : decode cX3_worldOn 11 = .ok (.aload_n 0, 1) := by decide +kernel
theorem dX3_worldOn_12 : decode cX3_worldOn 12 = .ok (.getfield 18, 3) := by decide +kernel
theorem dX3_worldOn_15 : decode cX3_worldOn 15 = .ok (.areturn, 1) := by decide +kernel
theorem dX3_length_0 : decode cX3_length 0 = .ok (.aload_n 0, 1) := by decide +kernel
theorem dX3_length_1 : decode cX3_length 1 = .ok (.getfield 31, 3) := by decide +kernel
theorem dX3_length_4 : decode cX3_length 4 = .ok (.ireturn, 1) := by decide +kernel
theorem dX3_rowThing_0 : decode cX3_rowThing 0 = .ok (.iload_n 1, 1) := by decide +kernel
theorem dX3_rowThing_1 : decode cX3_rowThing 1 = .ok (.iconst 3, 1) := by decide +kernel
theorem dX3_rowThing_2 : decode cX3_rowThing 2 = .ok (.imul, 1) := by decide +kernel
theorem dX3_rowThing_3 : decode cX3_rowThing 3 = .ok (.iload_n 2, 1) := by decide +kernel
theorem dX3_rowThing_4 : decode cX3_rowThing 4 = .ok (.iadd, 1) := by decide +kernel
theorem dX3_rowThing_5 : decode cX3_rowThing 5 = .ok (.istore_n 3, 1) := by decide +kernel
theorem dX3_rowThing_6 : decode cX3_rowThing 6 = .ok (.iload_n 2, 1) := by decide +kernel
theorem dX3_rowThing_7 : decode cX3_rowThing 7 = .ok (.ifCond .lt 33, 3) := by decide +kernel
theorem dX3_rowThing_10 : decode cX3_rowThing 10 = .ok (.iload_n 2, 1) := by decide +kernel
theorem dX3_rowThing_11 : decode cX3_rowThing 11 = .ok (.aload_n 0, 1) := by decide +kernel
theorem dX3_rowThing_12 : decode cX3_rowThing 12 = .ok (.getfield 31, 3) := by decide +kernel
theorem dX3_rowThing_15 : decode cX3_rowThing 15 = .ok (.if_icmp .ge 25, 3) := by decide +kernel
theorem dX3_rowThing_18 : decode cX3_rowThing 18 = .ok (.iload_n 3, 1) := by decide +kernel
theorem dX3_rowThing_19 : decode cX3_rowThing 19 = .ok (.ifCond .lt 21, 3) := by decide +kernel
theorem dX3_rowThing_22 : decode cX3_rowThing 22 = .ok (.iload_n 3, 1) := by decide +kernel
theorem dX3_rowThing_23 : decode cX3_rowThing 23 = .ok (.aload_n 0, 1) := by decide +kernel
theorem dX3_rowThing_24 : decode cX3_rowThing 24 = .ok (.getfield 28, 3) := by decide +kernel
theorem dX3_rowThing_27 : decode cX3_rowThing 27 = .ok (.arraylength, 1) := by decide +kernel
theorem dX3_rowThing_28 : decode cX3_rowThing 28 = .ok (.if_icmp .ge 12, 3) := by decide +kernel
theorem dX3_rowThing_31 : decode cX3_rowThing 31 = .ok (.aload_n 0, 1) := by decide +kernel
theorem dX3_rowThing_32 : decode cX3_rowThing 32 = .ok (.getfield 28, 3) := by decide +kernel
theorem dX3_rowThing_35 : decode cX3_rowThing 35 = .ok (.iload_n 3, 1) := by decide +kernel
theorem dX3_rowThing_36 : decode cX3_rowThing 36 = .ok (.iaload, 1) := by decide +kernel
theorem dX3_rowThing_37 : decode cX3_rowThing 37 = .ok (.goto 4, 3) := by decide +kernel
theorem dX3_rowThing_40 : decode cX3_rowThing 40 = .ok (.iconst 0, 1) := by decide +kernel
theorem dX3_rowThing_41 : decode cX3_rowThing 41 = .ok (.ireturn, 1) := by decide +kernel
theorem dX3_lengthen_0 : decode cX3_lengthen 0 = .ok (.aload_n 0, 1) := by decide +kernel
theorem dX3_lengthen_1 : decode cX3_lengthen 1 = .ok (.getfield 31, 3) := by decide +kernel
theorem dX3_lengthen_4 : decode cX3_lengthen 4 = .ok (.ifCond .lt 11, 3) := by decide +kernel
theorem dX3_lengthen_7 : decode cX3_lengthen 7 = .ok (.aload_n 0, 1) := by decide +kernel
theorem dX3_lengthen_8 : decode cX3_lengthen 8 = .ok (.getfield 31, 3) := by decide +kernel
theorem dX3_lengthen_11 : decode cX3_lengthen 11 = .ok (.iconst 3, 1) := by decide +kernel
theorem dX3_lengthen_12 : decode cX3_lengthen 12 = .ok (.if_icmp .lt 5, 3) := by decide +kernel
theorem dX3_lengthen_15 : decode cX3_lengthen 15 = .ok (.iconst 0, 1) := by decide +kernel
theorem dX3_lengthen_16 : decode cX3_lengthen 16 = .ok (.ireturn, 1) := by decide +kernel
theorem dX3_lengthen_17 : decode cX3_lengthen 17 = .ok (.aload_n 0, 1) := by decide +kernel
theorem dX3_lengthen_18 : decode cX3_lengthen 18 = .ok (.getfield 28, 3) := by decide +kernel
theorem dX3_lengthen_21 : decode cX3_lengthen 21 = .ok (.aload_n 0, 1) := by decide +kernel
theorem dX3_lengthen_22 : decode cX3_lengthen 22 = .ok (.getfield 31, 3) := by decide +kernel
theorem dX3_lengthen_25 : decode cX3_lengthen 25 = .ok (.iload_n 1, 1) := by decide +kernel
theorem dX3_lengthen_26 : decode cX3_lengthen 26 = .ok (.ifCond .ne 7, 3) := by decide +kernel
theorem dX3_lengthen_29 : decode cX3_lengthen 29 = .ok (.iload_n 2, 1) := by decide +kernel
theorem dX3_lengthen_30 : decode cX3_lengthen 30 = .ok (.goto 4, 3) := by decide +kernel
theorem dX3_lengthen_33 : decode cX3_lengthen 33 = .ok (.iload_n 3, 1) := by decide +kernel
theorem dX3_lengthen_34 : decode cX3_lengthen 34 = .ok (.iastore, 1) := by decide +kernel
theorem dX3_lengthen_35 : decode cX3_lengthen 35 = .ok (.aload_n 0, 1) := by decide +kernel
theorem dX3_lengthen_36 : decode cX3_lengthen 36 = .ok (.getfield 28, 3) := by decide +kernel
theorem dX3_lengthen_39 : decode cX3_lengthen 39 = .ok (.iconst 3, 1) := by decide +kernel
theorem dX3_lengthen_40 : decode cX3_lengthen 40 = .ok (.aload_n 0, 1) := by decide +kernel
theorem dX3_lengthen_41 : decode cX3_lengthen 41 = .ok (.getfield 31, 3) := by decide +kernel
theorem dX3_lengthen_44 : decode cX3_lengthen 44 = .ok (.iadd, 1) := by decide +kernel
theorem dX3_lengthen_45 : decode cX3_lengthen 45 = .ok (.iload_n 1, 1) := by decide +kernel
theorem dX3_lengthen_46 : decode cX3_lengthen 46 = .ok (.ifCond .ne 7, 3) := by decide +kernel
theorem dX3_lengthen_49 : decode cX3_lengthen 49 = .ok (.iload_n 3, 1) := by decide +kernel
theorem dX3_lengthen_50 : decode cX3_lengthen 50 = .ok (.goto 4, 3) := by decide +kernel
theorem dX3_lengthen_53 : decode cX3_lengthen 53 = .ok (.iload_n 2, 1) := by decide +kernel
theorem dX3_lengthen_54 : decode cX3_lengthen 54 = .ok (.iastore, 1) := by decide +kernel
theorem dX3_lengthen_55 : decode cX3_lengthen 55 = .ok (.aload_n 0, 1) := by decide +kernel
theorem dX3_lengthen_56 : decode cX3_lengthen 56 = .ok (.dup, 1) := by decide +kernel
theorem dX3_lengthen_57 : decode cX3_lengthen 57 = .ok (.getfield 31, 3) := by decide +kernel
theorem dX3_lengthen_60 : decode cX3_lengthen 60 = .ok (.iconst 1, 1) := by decide +kernel
theorem dX3_lengthen_61 : decode cX3_lengthen 61 = .ok (.iadd, 1) := by decide +kernel
theorem dX3_lengthen_62 : decode cX3_lengthen 62 = .ok (.putfield 31, 3) := by decide +kernel
theorem dX3_lengthen_65 : decode cX3_lengthen 65 = .ok (.iconst 1, 1) := by decide +kernel
theorem dX3_lengthen_66 : decode cX3_lengthen 66 = .ok (.ireturn, 1) := by decide +kernel
theorem dX3_shorten_0 : decode cX3_shorten 0 = .ok (.aload_n 0, 1) := by decide +kernel
theorem dX3_shorten_1 : decode cX3_shorten 1 = .ok (.iconst 0, 1) := by decide +kernel
theorem dX3_shorten_2 : decode cX3_shorten 2 = .ok (.aload_n 0, 1) := by decide +kernel
theorem dX3_shorten_3 : decode cX3_shorten 3 = .ok (.getfield 31, 3) := by decide +kernel
theorem dX3_shorten_6 : decode cX3_shorten 6 = .ok (.iconst 1, 1) := by decide +kernel
theorem dX3_shorten_7 : decode cX3_shorten 7 = .ok (.isub, 1) := by decide +kernel
theorem dX3_shorten_8 : decode cX3_shorten 8 = .ok (.invokestatic 53, 3) := by decide +kernel
theorem dX3_shorten_11 : decode cX3_shorten 11 = .ok (.putfield 31, 3) := by decide +kernel
theorem dX3_shorten_14 : decode cX3_shorten 14 = .ok (.return_, 1) := by decide +kernel
theorem dX3_typeOf_0 : decode cX3_typeOf 0 = .ok (.iload_n 1, 1) := by decide +kernel
theorem dX3_typeOf_1 : decode cX3_typeOf 1 = .ok (.bipush 6, 2) := by decide +kernel
theorem dX3_typeOf_3 : decode cX3_typeOf 3 = .ok (.imul, 1) := by decide +kernel
theorem dX3_typeOf_4 : decode cX3_typeOf 4 = .ok (.iload_n 2, 1) := by decide +kernel
theorem dX3_typeOf_5 : decode cX3_typeOf 5 = .ok (.iadd, 1) := by decide +kernel
theorem dX3_typeOf_6 : decode cX3_typeOf 6 = .ok (.istore_n 3, 1) := by decide +kernel
theorem dX3_typeOf_7 : decode cX3_typeOf 7 = .ok (.iload_n 3, 1) := by decide +kernel
theorem dX3_typeOf_8 : decode cX3_typeOf 8 = .ok (.ifCond .lt 12, 3) := by decide +kernel
theorem dX3_typeOf_11 : decode cX3_typeOf 11 = .ok (.iload_n 3, 1) := by decide +kernel
theorem dX3_typeOf_12 : decode cX3_typeOf 12 = .ok (.aload_n 0, 1) := by decide +kernel
theorem dX3_typeOf_13 : decode cX3_typeOf 13 = .ok (.getfield 21, 3) := by decide +kernel
theorem dX3_typeOf_16 : decode cX3_typeOf 16 = .ok (.arraylength, 1) := by decide +kernel
theorem dX3_typeOf_17 : decode cX3_typeOf 17 = .ok (.if_icmp .lt 5, 3) := by decide +kernel
theorem dX3_typeOf_20 : decode cX3_typeOf 20 = .ok (.iconst 0, 1) := by decide +kernel
theorem dX3_typeOf_21 : decode cX3_typeOf 21 = .ok (.ireturn, 1) := by decide +kernel
theorem dX3_typeOf_22 : decode cX3_typeOf 22 = .ok (.aload_n 0, 1) := by decide +kernel
theorem dX3_typeOf_23 : decode cX3_typeOf 23 = .ok (.getfield 21, 3) := by decide +kernel
theorem dX3_typeOf_26 : decode cX3_typeOf 26 = .ok (.iload_n 3, 1) := by decide +kernel
theorem dX3_typeOf_27 : decode cX3_typeOf 27 = .ok (.iaload, 1) := by decide +kernel
theorem dX3_typeOf_28 : decode cX3_typeOf 28 = .ok (.istore 4, 2) := by decide +kernel
theorem dX3_typeOf_30 : decode cX3_typeOf 30 = .ok (.iload_n 1, 1) := by decide +kernel
theorem dX3_typeOf_31 : decode cX3_typeOf 31 = .ok (.iconst 3, 1) := by decide +kernel
theorem dX3_typeOf_32 : decode cX3_typeOf 32 = .ok (.imul, 1) := by decide +kernel
theorem dX3_typeOf_33 : decode cX3_typeOf 33 = .ok (.istore 5, 2) := by decide +kernel
theorem dX3_typeOf_35 : decode cX3_typeOf 35 = .ok (.iconst 0, 1) := by decide +kernel
theorem dX3_typeOf_36 : decode cX3_typeOf 36 = .ok (.istore 6, 2) := by decide +kernel
theorem dX3_typeOf_38 : decode cX3_typeOf 38 = .ok (.iload 6, 2) := by decide +kernel
theorem dX3_typeOf_40 : decode cX3_typeOf 40 = .ok (.aload_n 0, 1) := by decide +kernel
theorem dX3_typeOf_41 : decode cX3_typeOf 41 = .ok (.getfield 31, 3) := by decide +kernel
theorem dX3_typeOf_44 : decode cX3_typeOf 44 = .ok (.if_icmp .ge 78, 3) := by decide +kernel
theorem dX3_typeOf_47 : decode cX3_typeOf 47 = .ok (.iload 5, 2) := by decide +kernel
theorem dX3_typeOf_49 : decode cX3_typeOf 49 = .ok (.ifCond .lt 73, 3) := by decide +kernel
theorem dX3_typeOf_52 : decode cX3_typeOf 52 = .ok (.iload 5, 2) := by decide +kernel
theorem dX3_typeOf_54 : decode cX3_typeOf 54 = .ok (.iload 6, 2) := by decide +kernel
theorem dX3_typeOf_56 : decode cX3_typeOf 56 = .ok (.iadd, 1) := by decide +kernel
theorem dX3_typeOf_57 : decode cX3_typeOf 57 = .ok (.aload_n 0, 1) := by decide +kernel
theorem dX3_typeOf_58 : decode cX3_typeOf 58 = .ok (.getfield 28, 3) := by decide +kernel
theorem dX3_typeOf_61 : decode cX3_typeOf 61 = .ok (.arraylength, 1) := by decide +kernel
theorem dX3_typeOf_62 : decode cX3_typeOf 62 = .ok (.if_icmp .ge 60, 3) := by decide +kernel
theorem dX3_typeOf_65 : decode cX3_typeOf 65 = .ok (.iload_n 3, 1) := by decide +kernel
theorem dX3_typeOf_66 : decode cX3_typeOf 66 = .ok (.bipush 6, 2) := by decide +kernel
theorem dX3_typeOf_68 : decode cX3_typeOf 68 = .ok (.imul, 1) := by decide +kernel
theorem dX3_typeOf_69 : decode cX3_typeOf 69 = .ok (.aload_n 0, 1) := by decide +kernel
theorem dX3_typeOf_70 : decode cX3_typeOf 70 = .ok (.getfield 28, 3) := by decide +kernel
theorem dX3_typeOf_73 : decode cX3_typeOf 73 = .ok (.iload 5, 2) := by decide +kernel
theorem dX3_typeOf_75 : decode cX3_typeOf 75 = .ok (.iload 6, 2) := by decide +kernel
theorem dX3_typeOf_77 : decode cX3_typeOf 77 = .ok (.iadd, 1) := by decide +kernel
theorem dX3_typeOf_78 : decode cX3_typeOf 78 = .ok (.iaload, 1) := by decide +kernel
theorem dX3_typeOf_79 : decode cX3_typeOf 79 = .ok (.iadd, 1) := by decide +kernel
theorem dX3_typeOf_80 : decode cX3_typeOf 80 = .ok (.istore 7, 2) := by decide +kernel
theorem dX3_typeOf_82 : decode cX3_typeOf 82 = .ok (.iload 7, 2) := by decide +kernel
theorem dX3_typeOf_84 : decode cX3_typeOf 84 = .ok (.ifCond .lt 32, 3) := by decide +kernel
theorem dX3_typeOf_87 : decode cX3_typeOf 87 = .ok (.iload 7, 2) := by decide +kernel
theorem dX3_typeOf_89 : decode cX3_typeOf 89 = .ok (.aload_n 0, 1) := by decide +kernel
theorem dX3_typeOf_90 : decode cX3_typeOf 90 = .ok (.getfield 25, 3) := by decide +kernel
theorem dX3_typeOf_93 : decode cX3_typeOf 93 = .ok (.arraylength, 1) := by decide +kernel
theorem dX3_typeOf_94 : decode cX3_typeOf 94 = .ok (.if_icmp .ge 22, 3) := by decide +kernel
theorem dX3_typeOf_97 : decode cX3_typeOf 97 = .ok (.iload 4, 2) := by decide +kernel
theorem dX3_typeOf_99 : decode cX3_typeOf 99 = .ok (.aload_n 0, 1) := by decide +kernel
theorem dX3_typeOf_100 : decode cX3_typeOf 100 = .ok (.getfield 25, 3) := by decide +kernel
theorem dX3_typeOf_103 : decode cX3_typeOf 103 = .ok (.iload 7, 2) := by decide +kernel
theorem dX3_typeOf_105 : decode cX3_typeOf 105 = .ok (.iaload, 1) := by decide +kernel
theorem dX3_typeOf_106 : decode cX3_typeOf 106 = .ok (.iconst 3, 1) := by decide +kernel
theorem dX3_typeOf_107 : decode cX3_typeOf 107 = .ok (.iload 6, 2) := by decide +kernel
theorem dX3_typeOf_109 : decode cX3_typeOf 109 = .ok (.iconst 1, 1) := by decide +kernel
theorem dX3_typeOf_110 : decode cX3_typeOf 110 = .ok (.iadd, 1) := by decide +kernel
theorem dX3_typeOf_111 : decode cX3_typeOf 111 = .ok (.imul, 1) := by decide +kernel
theorem dX3_typeOf_112 : decode cX3_typeOf 112 = .ok (.ishl, 1) := by decide +kernel
theorem dX3_typeOf_113 : decode cX3_typeOf 113 = .ok (.ior, 1) := by decide +kernel
theorem dX3_typeOf_114 : decode cX3_typeOf 114 = .ok (.istore 4, 2) := by decide +kernel
theorem dX3_typeOf_116 : decode cX3_typeOf 116 = .ok (.iinc 6 1, 3) := by decide +kernel
theorem dX3_typeOf_119 : decode cX3_typeOf 119 = .ok (.goto (-81), 3) := by decide +kernel
theorem dX3_typeOf_122 : decode cX3_typeOf 122 = .ok (.iload 4, 2) := by decide +kernel
theorem dX3_typeOf_124 : decode cX3_typeOf 124 = .ok (.ireturn, 1) := by decide +kernel
theorem dX3_staysAlike_0 : decode cX3_staysAlike 0 = .ok (.aload_n 0, 1) := by decide +kernel
theorem dX3_staysAlike_1 : decode cX3_staysAlike 1 = .ok (.iload_n 1, 1) := by decide +kernel
theorem dX3_staysAlike_2 : decode cX3_staysAlike 2 = .ok (.iload_n 2, 1) := by decide +kernel
theorem dX3_staysAlike_3 : decode cX3_staysAlike 3 = .ok (.invokevirtual 58, 3) := by decide +kernel
theorem dX3_staysAlike_6 : decode cX3_staysAlike 6 = .ok (.aload_n 0, 1) := by decide +kernel
theorem dX3_staysAlike_7 : decode cX3_staysAlike 7 = .ok (.iconst 1, 1) := by decide +kernel
theorem dX3_staysAlike_8 : decode cX3_staysAlike 8 = .ok (.iload_n 1, 1) := by decide +kernel
theorem dX3_staysAlike_9 : decode cX3_staysAlike 9 = .ok (.isub, 1) := by decide +kernel
theorem dX3_staysAlike_10 : decode cX3_staysAlike 10 = .ok (.iload_n 3, 1) := by decide +kernel
theorem dX3_staysAlike_11 : decode cX3_staysAlike 11 = .ok (.invokevirtual 58, 3) := by decide +kernel
theorem dX3_staysAlike_14 : decode cX3_staysAlike 14 = .ok (.if_icmp .ne 7, 3) := by decide +kernel
theorem dX3_staysAlike_17 : decode cX3_staysAlike 17 = .ok (.iconst 1, 1) := by decide +kernel
theorem dX3_staysAlike_18 : decode cX3_staysAlike 18 = .ok (.goto 4, 3) := by decide +kernel
theorem dX3_staysAlike_21 : decode cX3_staysAlike 21 = .ok (.iconst 0, 1) := by decide +kernel
theorem dX3_staysAlike_22 : decode cX3_staysAlike 22 = .ok (.ireturn, 1) := by decide +kernel
theorem dX3_keeperWins_0 : decode cX3_keeperWins 0 = .ok (.iload_n 1, 1) := by decide +kernel
theorem dX3_keeperWins_1 : decode cX3_keeperWins 1 = .ok (.ifCond .le 18, 3) := by decide +kernel
theorem dX3_keeperWins_4 : decode cX3_keeperWins 4 = .ok (.aload_n 0, 1) := by decide +kernel
theorem dX3_keeperWins_5 : decode cX3_keeperWins 5 = .ok (.getfield 31, 3) := by decide +kernel
theorem dX3_keeperWins_8 : decode cX3_keeperWins 8 = .ok (.ifCond .lt 11, 3) := by decide +kernel
theorem dX3_keeperWins_11 : decode cX3_keeperWins 11 = .ok (.aload_n 0, 1) := by decide +kernel
theorem dX3_keeperWins_12 : decode cX3_keeperWins 12 = .ok (.getfield 31, 3) := by decide +kernel
theorem dX3_keeperWins_15 : decode cX3_keeperWins 15 = .ok (.iconst 3, 1) := by decide +kernel
theorem dX3_keeperWins_16 : decode cX3_keeperWins 16 = .ok (.if_icmp .lt 5, 3) := by decide +kernel
theorem dX3_keeperWins_19 : decode cX3_keeperWins 19 = .ok (.iconst 1, 1) := by decide +kernel
theorem dX3_keeperWins_20 : decode cX3_keeperWins 20 = .ok (.ireturn, 1) := by decide +kernel
theorem dX3_keeperWins_21 : decode cX3_keeperWins 21 = .ok (.aload_n 0, 1) := by decide +kernel
theorem dX3_keeperWins_22 : decode cX3_keeperWins 22 = .ok (.getfield 31, 3) := by decide +kernel
theorem dX3_keeperWins_25 : decode cX3_keeperWins 25 = .ok (.iconst 2, 1) := by decide +kernel
theorem dX3_keeperWins_26 : decode cX3_keeperWins 26 = .ok (.imul, 1) := by decide +kernel
theorem dX3_keeperWins_27 : decode cX3_keeperWins 27 = .ok (.bipush 6, 2) := by decide +kernel
theorem dX3_keeperWins_29 : decode cX3_keeperWins 29 = .ok (.imul, 1) := by decide +kernel
theorem dX3_keeperWins_30 : decode cX3_keeperWins 30 = .ok (.istore_n 2, 1) := by decide +kernel
theorem dX3_keeperWins_31 : decode cX3_keeperWins 31 = .ok (.aload_n 0, 1) := by decide +kernel
theorem dX3_keeperWins_32 : decode cX3_keeperWins 32 = .ok (.iload_n 2, 1) := by decide +kernel
theorem dX3_keeperWins_33 : decode cX3_keeperWins 33 = .ok (.invokevirtual 61, 3) := by decide +kernel
theorem dX3_keeperWins_36 : decode cX3_keeperWins 36 = .ok (.iconst 0, 1) := by decide +kernel
theorem dX3_keeperWins_37 : decode cX3_keeperWins 37 = .ok (.istore_n 3, 1) := by decide +kernel
theorem dX3_keeperWins_38 : decode cX3_keeperWins 38 = .ok (.iconst 0, 1) := by decide +kernel
theorem dX3_keeperWins_39 : decode cX3_keeperWins 39 = .ok (.istore 4, 2) := by decide +kernel
theorem dX3_keeperWins_41 : decode cX3_keeperWins 41 = .ok (.iload 4, 2) := by decide +kernel
theorem dX3_keeperWins_43 : decode cX3_keeperWins 43 = .ok (.aload_n 0, 1) := by decide +kernel
theorem dX3_keeperWins_44 : decode cX3_keeperWins 44 = .ok (.getfield 12, 3) := by decide +kernel
theorem dX3_keeperWins_47 : decode cX3_keeperWins 47 = .ok (.invokevirtual 65, 3) := by decide +kernel
theorem dX3_keeperWins_50 : decode cX3_keeperWins 50 = .ok (.if_icmp .ge 32, 3) := by decide +kernel
theorem dX3_keeperWins_53 : decode cX3_keeperWins 53 = .ok (.aload_n 0, 1) := by decide +kernel
theorem dX3_keeperWins_54 : decode cX3_keeperWins 54 = .ok (.iload_n 2, 1) := by decide +kernel
theorem dX3_keeperWins_55 : decode cX3_keeperWins 55 = .ok (.iload 4, 2) := by decide +kernel
theorem dX3_keeperWins_57 : decode cX3_keeperWins 57 = .ok (.iload_n 3, 1) := by decide +kernel
theorem dX3_keeperWins_58 : decode cX3_keeperWins 58 = .ok (.iload_n 1, 1) := by decide +kernel
theorem dX3_keeperWins_59 : decode cX3_keeperWins 59 = .ok (.invokevirtual 69, 3) := by decide +kernel
theorem dX3_keeperWins_62 : decode cX3_keeperWins 62 = .ok (.istore 5, 2) := by decide +kernel
theorem dX3_keeperWins_64 : decode cX3_keeperWins 64 = .ok (.iload 5, 2) := by decide +kernel
theorem dX3_keeperWins_66 : decode cX3_keeperWins 66 = .ok (.ifCond .ne 5, 3) := by decide +kernel
theorem dX3_keeperWins_69 : decode cX3_keeperWins 69 = .ok (.iconst 0, 1) := by decide +kernel
theorem dX3_keeperWins_70 : decode cX3_keeperWins 70 = .ok (.ireturn, 1) := by decide +kernel
theorem dX3_keeperWins_71 : decode cX3_keeperWins 71 = .ok (.iload_n 3, 1) := by decide +kernel
theorem dX3_keeperWins_72 : decode cX3_keeperWins 72 = .ok (.iload 5, 2) := by decide +kernel
theorem dX3_keeperWins_74 : decode cX3_keeperWins 74 = .ok (.ior, 1) := by decide +kernel
theorem dX3_keeperWins_75 : decode cX3_keeperWins 75 = .ok (.istore_n 3, 1) := by decide +kernel
theorem dX3_keeperWins_76 : decode cX3_keeperWins 76 = .ok (.iinc 4 1, 3) := by decide +kernel
theorem dX3_keeperWins_79 : decode cX3_keeperWins 79 = .ok (.goto (-38), 3) := by decide +kernel
theorem dX3_keeperWins_82 : decode cX3_keeperWins 82 = .ok (.iload_n 3, 1) := by decide +kernel
theorem dX3_keeperWins_83 : decode cX3_keeperWins 83 = .ok (.iconst 1, 1) := by decide +kernel
theorem dX3_keeperWins_84 : decode cX3_keeperWins 84 = .ok (.aload_n 0, 1) := by decide +kernel
theorem dX3_keeperWins_85 : decode cX3_keeperWins 85 = .ok (.getfield 18, 3) := by decide +kernel
theorem dX3_keeperWins_88 : decode cX3_keeperWins 88 = .ok (.invokevirtual 65, 3) := by decide +kernel
theorem dX3_keeperWins_91 : decode cX3_keeperWins 91 = .ok (.ishl, 1) := by decide +kernel
theorem dX3_keeperWins_92 : decode cX3_keeperWins 92 = .ok (.iconst 1, 1) := by decide +kernel
theorem dX3_keeperWins_93 : decode cX3_keeperWins 93 = .ok (.isub, 1) := by decide +kernel
theorem dX3_keeperWins_94 : decode cX3_keeperWins 94 = .ok (.if_icmp .ne 7, 3) := by decide +kernel
theorem dX3_keeperWins_97 : decode cX3_keeperWins 97 = .ok (.iconst 1, 1) := by decide +kernel
theorem dX3_keeperWins_98 : decode cX3_keeperWins 98 = .ok (.goto 4, 3) := by decide +kernel
theorem dX3_keeperWins_101 : decode cX3_keeperWins 101 = .ok (.iconst 0, 1) := by decide +kernel
theorem dX3_keeperWins_102 : decode cX3_keeperWins 102 = .ok (.ireturn, 1) := by decide +kernel
theorem dX3_fillTypes_0 : decode cX3_fillTypes 0 = .ok (.iconst 0, 1) := by decide +kernel
theorem dX3_fillTypes_1 : decode cX3_fillTypes 1 = .ok (.istore_n 2, 1) := by decide +kernel
theorem dX3_fillTypes_2 : decode cX3_fillTypes 2 = .ok (.iload_n 2, 1) := by decide +kernel
theorem dX3_fillTypes_3 : decode cX3_fillTypes 3 = .ok (.aload_n 0, 1) := by decide +kernel
theorem dX3_fillTypes_4 : decode cX3_fillTypes 4 = .ok (.getfield 12, 3) := by decide +kernel
theorem dX3_fillTypes_7 : decode cX3_fillTypes 7 = .ok (.invokevirtual 65, 3) := by decide +kernel
theorem dX3_fillTypes_10 : decode cX3_fillTypes 10 = .ok (.if_icmp .ge 34, 3) := by decide +kernel
theorem dX3_fillTypes_13 : decode cX3_fillTypes 13 = .ok (.iload_n 1, 1) := by decide +kernel
theorem dX3_fillTypes_14 : decode cX3_fillTypes 14 = .ok (.iload_n 2, 1) := by decide +kernel
theorem dX3_fillTypes_15 : decode cX3_fillTypes 15 = .ok (.iadd, 1) := by decide +kernel
theorem dX3_fillTypes_16 : decode cX3_fillTypes 16 = .ok (.aload_n 0, 1) := by decide +kernel
theorem dX3_fillTypes_17 : decode cX3_fillTypes 17 = .ok (.getfield 35, 3) := by decide +kernel
theorem dX3_fillTypes_20 : decode cX3_fillTypes 20 = .ok (.arraylength, 1) := by decide +kernel
theorem dX3_fillTypes_21 : decode cX3_fillTypes 21 = .ok (.if_icmp .ge 23, 3) := by decide +kernel
theorem dX3_fillTypes_24 : decode cX3_fillTypes 24 = .ok (.aload_n 0, 1) := by decide +kernel
theorem dX3_fillTypes_25 : decode cX3_fillTypes 25 = .ok (.getfield 35, 3) := by decide +kernel
theorem dX3_fillTypes_28 : decode cX3_fillTypes 28 = .ok (.iload_n 1, 1) := by decide +kernel
theorem dX3_fillTypes_29 : decode cX3_fillTypes 29 = .ok (.iload_n 2, 1) := by decide +kernel
theorem dX3_fillTypes_30 : decode cX3_fillTypes 30 = .ok (.iadd, 1) := by decide +kernel
theorem dX3_fillTypes_31 : decode cX3_fillTypes 31 = .ok (.aload_n 0, 1) := by decide +kernel
theorem dX3_fillTypes_32 : decode cX3_fillTypes 32 = .ok (.iconst 0, 1) := by decide +kernel
theorem dX3_fillTypes_33 : decode cX3_fillTypes 33 = .ok (.iload_n 2, 1) := by decide +kernel
theorem dX3_fillTypes_34 : decode cX3_fillTypes 34 = .ok (.invokevirtual 58, 3) := by decide +kernel
theorem dX3_fillTypes_37 : decode cX3_fillTypes 37 = .ok (.iastore, 1) := by decide +kernel
theorem dX3_fillTypes_38 : decode cX3_fillTypes 38 = .ok (.iinc 2 1, 3) := by decide +kernel
theorem dX3_fillTypes_41 : decode cX3_fillTypes 41 = .ok (.goto (-39), 3) := by decide +kernel
theorem dX3_fillTypes_44 : decode cX3_fillTypes 44 = .ok (.iconst 0, 1) := by decide +kernel
theorem dX3_fillTypes_45 : decode cX3_fillTypes 45 = .ok (.istore_n 2, 1) := by decide +kernel
theorem dX3_fillTypes_46 : decode cX3_fillTypes 46 = .ok (.iload_n 2, 1) := by decide +kernel
theorem dX3_fillTypes_47 : decode cX3_fillTypes 47 = .ok (.aload_n 0, 1) := by decide +kernel
theorem dX3_fillTypes_48 : decode cX3_fillTypes 48 = .ok (.getfield 18, 3) := by decide +kernel
theorem dX3_fillTypes_51 : decode cX3_fillTypes 51 = .ok (.invokevirtual 65, 3) := by decide +kernel
theorem dX3_fillTypes_54 : decode cX3_fillTypes 54 = .ok (.if_icmp .ge 40, 3) := by decide +kernel
theorem dX3_fillTypes_57 : decode cX3_fillTypes 57 = .ok (.iload_n 1, 1) := by decide +kernel
theorem dX3_fillTypes_58 : decode cX3_fillTypes 58 = .ok (.bipush 6, 2) := by decide +kernel
theorem dX3_fillTypes_60 : decode cX3_fillTypes 60 = .ok (.iadd, 1) := by decide +kernel
theorem dX3_fillTypes_61 : decode cX3_fillTypes 61 = .ok (.iload_n 2, 1) := by decide +kernel
theorem dX3_fillTypes_62 : decode cX3_fillTypes 62 = .ok (.iadd, 1) := by decide +kernel
theorem dX3_fillTypes_63 : decode cX3_fillTypes 63 = .ok (.aload_n 0, 1) := by decide +kernel
theorem dX3_fillTypes_64 : decode cX3_fillTypes 64 = .ok (.getfield 35, 3) := by decide +kernel
theorem dX3_fillTypes_67 : decode cX3_fillTypes 67 = .ok (.arraylength, 1) := by decide +kernel
theorem dX3_fillTypes_68 : decode cX3_fillTypes 68 = .ok (.if_icmp .ge 26, 3) := by decide +kernel
theorem dX3_fillTypes_71 : decode cX3_fillTypes 71 = .ok (.aload_n 0, 1) := by decide +kernel
theorem dX3_fillTypes_72 : decode cX3_fillTypes 72 = .ok (.getfield 35, 3) := by decide +kernel
theorem dX3_fillTypes_75 : decode cX3_fillTypes 75 = .ok (.iload_n 1, 1) := by decide +kernel
theorem dX3_fillTypes_76 : decode cX3_fillTypes 76 = .ok (.bipush 6, 2) := by decide +kernel
theorem dX3_fillTypes_78 : decode cX3_fillTypes 78 = .ok (.iadd, 1) := by decide +kernel
theorem dX3_fillTypes_79 : decode cX3_fillTypes 79 = .ok (.iload_n 2, 1) := by decide +kernel
theorem dX3_fillTypes_80 : decode cX3_fillTypes 80 = .ok (.iadd, 1) := by decide +kernel
theorem dX3_fillTypes_81 : decode cX3_fillTypes 81 = .ok (.aload_n 0, 1) := by decide +kernel
theorem dX3_fillTypes_82 : decode cX3_fillTypes 82 = .ok (.iconst 1, 1) := by decide +kernel
theorem dX3_fillTypes_83 : decode cX3_fillTypes 83 = .ok (.iload_n 2, 1) := by decide +kernel
theorem dX3_fillTypes_84 : decode cX3_fillTypes 84 = .ok (.invokevirtual 58, 3) := by decide +kernel
theorem dX3_fillTypes_87 : decode cX3_fillTypes 87 = .ok (.iastore, 1) := by decide +kernel
theorem dX3_fillTypes_88 : decode cX3_fillTypes 88 = .ok (.iinc 2 1, 3) := by decide +kernel
theorem dX3_fillTypes_91 : decode cX3_fillTypes 91 = .ok (.goto (-45), 3) := by decide +kernel
theorem dX3_fillTypes_94 : decode cX3_fillTypes 94 = .ok (.return_, 1) := by decide +kernel
theorem dX3_fittingReplies_0 : decode cX3_fittingReplies 0 = .ok (.iconst 0, 1) := by decide +kernel
theorem dX3_fittingReplies_1 : decode cX3_fittingReplies 1 = .ok (.istore 5, 2) := by decide +kernel
theorem dX3_fittingReplies_3 : decode cX3_fittingReplies 3 = .ok (.iconst 0, 1) := by decide +kernel
theorem dX3_fittingReplies_4 : decode cX3_fittingReplies 4 = .ok (.istore 6, 2) := by decide +kernel
theorem dX3_fittingReplies_6 : decode cX3_fittingReplies 6 = .ok (.iload 6, 2) := by decide +kernel
theorem dX3_fittingReplies_8 : decode cX3_fittingReplies 8 = .ok (.aload_n 0, 1) := by decide +kernel
theorem dX3_fittingReplies_9 : decode cX3_fittingReplies 9 = .ok (.getfield 18, 3) := by decide +kernel
theorem dX3_fittingReplies_12 : decode cX3_fittingReplies 12 = .ok (.invokevirtual 65, 3) := by decide +kernel
theorem dX3_fittingReplies_15 : decode cX3_fittingReplies 15 = .ok (.if_icmp .ge 74, 3) := by decide +kernel
theorem dX3_fittingReplies_18 : decode cX3_fittingReplies 18 = .ok (.iload 5, 2) := by decide +kernel
theorem dX3_fittingReplies_20 : decode cX3_fittingReplies 20 = .ok (.ifCond .eq 12, 3) := by decide +kernel
theorem dX3_fittingReplies_23 : decode cX3_fittingReplies 23 = .ok (.iload_n 3, 1) := by decide +kernel
theorem dX3_fittingReplies_24 : decode cX3_fittingReplies 24 = .ok (.iload 6, 2) := by decide +kernel
theorem dX3_fittingReplies_26 : decode cX3_fittingReplies 26 = .ok (.ishr, 1) := by decide +kernel
theorem dX3_fittingReplies_27 : decode cX3_fittingReplies 27 = .ok (.iconst 1, 1) := by decide +kernel
theorem dX3_fittingReplies_28 : decode cX3_fittingReplies 28 = .ok (.iand, 1) := by decide +kernel
theorem dX3_fittingReplies_29 : decode cX3_fittingReplies 29 = .ok (.ifCond .ne 7, 3) := by decide +kernel
theorem dX3_fittingReplies_32 : decode cX3_fittingReplies 32 = .ok (.iconst 1, 1) := by decide +kernel
theorem dX3_fittingReplies_33 : decode cX3_fittingReplies 33 = .ok (.goto 4, 3) := by decide +kernel
theorem dX3_fittingReplies_36 : decode cX3_fittingReplies 36 = .ok (.iconst 0, 1) := by decide +kernel
theorem dX3_fittingReplies_37 : decode cX3_fittingReplies 37 = .ok (.istore 7, 2) := by decide +kernel
theorem dX3_fittingReplies_39 : decode cX3_fittingReplies 39 = .ok (.iload 7, 2) := by decide +kernel
theorem dX3_fittingReplies_41 : decode cX3_fittingReplies 41 = .ok (.ifCond .eq 42, 3) := by decide +kernel
theorem dX3_fittingReplies_44 : decode cX3_fittingReplies 44 = .ok (.aload_n 0, 1) := by decide +kernel
theorem dX3_fittingReplies_45 : decode cX3_fittingReplies 45 = .ok (.iload_n 1, 1) := by decide +kernel
theorem dX3_fittingReplies_46 : decode cX3_fittingReplies 46 = .ok (.iload_n 2, 1) := by decide +kernel
theorem dX3_fittingReplies_47 : decode cX3_fittingReplies 47 = .ok (.iadd, 1) := by decide +kernel
theorem dX3_fittingReplies_48 : decode cX3_fittingReplies 48 = .ok (.iload_n 1, 1) := by decide +kernel
theorem dX3_fittingReplies_49 : decode cX3_fittingReplies 49 = .ok (.bipush 6, 2) := by decide +kernel
theorem dX3_fittingReplies_51 : decode cX3_fittingReplies 51 = .ok (.iadd, 1) := by decide +kernel
theorem dX3_fittingReplies_52 : decode cX3_fittingReplies 52 = .ok (.iload 6, 2) := by decide +kernel
theorem dX3_fittingReplies_54 : decode cX3_fittingReplies 54 = .ok (.iadd, 1) := by decide +kernel
theorem dX3_fittingReplies_55 : decode cX3_fittingReplies 55 = .ok (.invokevirtual 73, 3) := by decide +kernel
theorem dX3_fittingReplies_58 : decode cX3_fittingReplies 58 = .ok (.ifCond .eq 25, 3) := by decide +kernel
theorem dX3_fittingReplies_61 : decode cX3_fittingReplies 61 = .ok (.aload_n 0, 1) := by decide +kernel
theorem dX3_fittingReplies_62 : decode cX3_fittingReplies 62 = .ok (.iconst 0, 1) := by decide +kernel
theorem dX3_fittingReplies_63 : decode cX3_fittingReplies 63 = .ok (.iload_n 2, 1) := by decide +kernel
theorem dX3_fittingReplies_64 : decode cX3_fittingReplies 64 = .ok (.iload 6, 2) := by decide +kernel
theorem dX3_fittingReplies_66 : decode cX3_fittingReplies 66 = .ok (.iload 4, 2) := by decide +kernel
theorem dX3_fittingReplies_68 : decode cX3_fittingReplies 68 = .ok (.invokevirtual 77, 3) := by decide +kernel
theorem dX3_fittingReplies_71 : decode cX3_fittingReplies 71 = .ok (.ifCond .eq 12, 3) := by decide +kernel
theorem dX3_fittingReplies_74 : decode cX3_fittingReplies 74 = .ok (.iload 5, 2) := by decide +kernel
theorem dX3_fittingReplies_76 : decode cX3_fittingReplies 76 = .ok (.iconst 1, 1) := by decide +kernel
theorem dX3_fittingReplies_77 : decode cX3_fittingReplies 77 = .ok (.iload 6, 2) := by decide +kernel
theorem dX3_fittingReplies_79 : decode cX3_fittingReplies 79 = .ok (.ishl, 1) := by decide +kernel
theorem dX3_fittingReplies_80 : decode cX3_fittingReplies 80 = .ok (.ior, 1) := by decide +kernel
theorem dX3_fittingReplies_81 : decode cX3_fittingReplies 81 = .ok (.istore 5, 2) := by decide +kernel
theorem dX3_fittingReplies_83 : decode cX3_fittingReplies 83 = .ok (.iinc 6 1, 3) := by decide +kernel
theorem dX3_fittingReplies_86 : decode cX3_fittingReplies 86 = .ok (.goto (-80), 3) := by decide +kernel
theorem dX3_fittingReplies_89 : decode cX3_fittingReplies 89 = .ok (.iload 5, 2) := by decide +kernel
theorem dX3_fittingReplies_91 : decode cX3_fittingReplies 91 = .ok (.ireturn, 1) := by decide +kernel
theorem dX3_sameType_0 : decode cX3_sameType 0 = .ok (.iload_n 1, 1) := by decide +kernel
theorem dX3_sameType_1 : decode cX3_sameType 1 = .ok (.ifCond .lt 44, 3) := by decide +kernel
theorem dX3_sameType_4 : decode cX3_sameType 4 = .ok (.iload_n 2, 1) := by decide +kernel
theorem dX3_sameType_5 : decode cX3_sameType 5 = .ok (.ifCond .lt 40, 3) := by decide +kernel
theorem dX3_sameType_8 : decode cX3_sameType 8 = .ok (.iload_n 1, 1) := by decide +kernel
theorem dX3_sameType_9 : decode cX3_sameType 9 = .ok (.aload_n 0, 1) := by decide +kernel
theorem dX3_sameType_10 : decode cX3_sameType 10 = .ok (.getfield 35, 3) := by decide +kernel
theorem dX3_sameType_13 : decode cX3_sameType 13 = .ok (.arraylength, 1) := by decide +kernel
theorem dX3_sameType_14 : decode cX3_sameType 14 = .ok (.if_icmp .ge 31, 3) := by decide +kernel
theorem dX3_sameType_17 : decode cX3_sameType 17 = .ok (.iload_n 2, 1) := by decide +kernel
theorem dX3_sameType_18 : decode cX3_sameType 18 = .ok (.aload_n 0, 1) := by decide +kernel
theorem dX3_sameType_19 : decode cX3_sameType 19 = .ok (.getfield 35, 3) := by decide +kernel
theorem dX3_sameType_22 : decode cX3_sameType 22 = .ok (.arraylength, 1) := by decide +kernel
theorem dX3_sameType_23 : decode cX3_sameType 23 = .ok (.if_icmp .ge 22, 3) := by decide +kernel
theorem dX3_sameType_26 : decode cX3_sameType 26 = .ok (.aload_n 0, 1) := by decide +kernel
theorem dX3_sameType_27 : decode cX3_sameType 27 = .ok (.getfield 35, 3) := by decide +kernel
theorem dX3_sameType_30 : decode cX3_sameType 30 = .ok (.iload_n 1, 1) := by decide +kernel
theorem dX3_sameType_31 : decode cX3_sameType 31 = .ok (.iaload, 1) := by decide +kernel
theorem dX3_sameType_32 : decode cX3_sameType 32 = .ok (.aload_n 0, 1) := by decide +kernel
theorem dX3_sameType_33 : decode cX3_sameType 33 = .ok (.getfield 35, 3) := by decide +kernel
theorem dX3_sameType_36 : decode cX3_sameType 36 = .ok (.iload_n 2, 1) := by decide +kernel
theorem dX3_sameType_37 : decode cX3_sameType 37 = .ok (.iaload, 1) := by decide +kernel
theorem dX3_sameType_38 : decode cX3_sameType 38 = .ok (.if_icmp .ne 7, 3) := by decide +kernel
theorem dX3_sameType_41 : decode cX3_sameType 41 = .ok (.iconst 1, 1) := by decide +kernel
theorem dX3_sameType_42 : decode cX3_sameType 42 = .ok (.goto 4, 3) := by decide +kernel
theorem dX3_sameType_45 : decode cX3_sameType 45 = .ok (.iconst 0, 1) := by decide +kernel
theorem dX3_sameType_46 : decode cX3_sameType 46 = .ok (.ireturn, 1) := by decide +kernel
theorem dX3_keeperWinsWith_0 : decode cX3_keeperWinsWith 0 = .ok (.iload 4, 2) := by decide +kernel
theorem dX3_keeperWinsWith_2 : decode cX3_keeperWinsWith 2 = .ok (.iconst 1, 1) := by decide +kernel
theorem dX3_keeperWinsWith_3 : decode cX3_keeperWinsWith 3 = .ok (.if_icmp .le 13, 3) := by decide +kernel
theorem dX3_keeperWinsWith_6 : decode cX3_keeperWinsWith 6 = .ok (.aload_n 0, 1) := by decide +kernel
theorem dX3_keeperWinsWith_7 : decode cX3_keeperWinsWith 7 = .ok (.iload_n 1, 1) := by decide +kernel
theorem dX3_keeperWinsWith_8 : decode cX3_keeperWinsWith 8 = .ok (.iload_n 2, 1) := by decide +kernel
theorem dX3_keeperWinsWith_9 : decode cX3_keeperWinsWith 9 = .ok (.iload_n 3, 1) := by decide +kernel
theorem dX3_keeperWinsWith_10 : decode cX3_keeperWinsWith 10 = .ok (.invokevirtual 81, 3) := by decide +kernel
theorem dX3_keeperWinsWith_13 : decode cX3_keeperWinsWith 13 = .ok (.ifCond .ne 5, 3) := by decide +kernel
theorem dX3_keeperWinsWith_16 : decode cX3_keeperWinsWith 16 = .ok (.iconst 1, 1) := by decide +kernel
theorem dX3_keeperWinsWith_17 : decode cX3_keeperWinsWith 17 = .ok (.ireturn, 1) := by decide +kernel
theorem dX3_keeperWinsWith_18 : decode cX3_keeperWinsWith 18 = .ok (.aload_n 0, 1) := by decide +kernel
theorem dX3_keeperWinsWith_19 : decode cX3_keeperWinsWith 19 = .ok (.iload 4, 2) := by decide +kernel
theorem dX3_keeperWinsWith_21 : decode cX3_keeperWinsWith 21 = .ok (.iconst 1, 1) := by decide +kernel
theorem dX3_keeperWinsWith_22 : decode cX3_keeperWinsWith 22 = .ok (.isub, 1) := by decide +kernel
theorem dX3_keeperWinsWith_23 : decode cX3_keeperWinsWith 23 = .ok (.invokevirtual 85, 3) := by decide +kernel
theorem dX3_keeperWinsWith_26 : decode cX3_keeperWinsWith 26 = .ok (.istore 5, 2) := by decide +kernel
theorem dX3_keeperWinsWith_28 : decode cX3_keeperWinsWith 28 = .ok (.aload_n 0, 1) := by decide +kernel
theorem dX3_keeperWinsWith_29 : decode cX3_keeperWinsWith 29 = .ok (.invokevirtual 89, 3) := by decide +kernel
theorem dX3_keeperWinsWith_32 : decode cX3_keeperWinsWith 32 = .ok (.iload 5, 2) := by decide +kernel
theorem dX3_keeperWinsWith_34 : decode cX3_keeperWinsWith 34 = .ok (.ireturn, 1) := by decide +kernel
theorem dX3_leastReply_0 : decode cX3_leastReply 0 = .ok (.iconst 0, 1) := by decide +kernel
theorem dX3_leastReply_1 : decode cX3_leastReply 1 = .ok (.istore 4, 2) := by decide +kernel
theorem dX3_leastReply_3 : decode cX3_leastReply 3 = .ok (.iload 4, 2) := by decide +kernel
theorem dX3_leastReply_5 : decode cX3_leastReply 5 = .ok (.aload_n 0, 1) := by decide +kernel
theorem dX3_leastReply_6 : decode cX3_leastReply 6 = .ok (.iconst 1, 1) := by decide +kernel
theorem dX3_leastReply_7 : decode cX3_leastReply 7 = .ok (.iload_n 1, 1) := by decide +kernel
theorem dX3_leastReply_8 : decode cX3_leastReply 8 = .ok (.isub, 1) := by decide +kernel
theorem dX3_leastReply_9 : decode cX3_leastReply 9 = .ok (.invokevirtual 92, 3) := by decide +kernel
theorem dX3_leastReply_12 : decode cX3_leastReply 12 = .ok (.invokevirtual 65, 3) := by decide +kernel
theorem dX3_leastReply_15 : decode cX3_leastReply 15 = .ok (.if_icmp .ge 35, 3) := by decide +kernel
theorem dX3_leastReply_18 : decode cX3_leastReply 18 = .ok (.aload_n 0, 1) := by decide +kernel
theorem dX3_leastReply_19 : decode cX3_leastReply 19 = .ok (.iload_n 1, 1) := by decide +kernel
theorem dX3_leastReply_20 : decode cX3_leastReply 20 = .ok (.iload_n 2, 1) := by decide +kernel
theorem dX3_leastReply_21 : decode cX3_leastReply 21 = .ok (.iload 4, 2) := by decide +kernel
theorem dX3_leastReply_23 : decode cX3_leastReply 23 = .ok (.invokevirtual 96, 3) := by decide +kernel
theorem dX3_leastReply_26 : decode cX3_leastReply 26 = .ok (.ifCond .eq 18, 3) := by decide +kernel
theorem dX3_leastReply_29 : decode cX3_leastReply 29 = .ok (.aload_n 0, 1) := by decide +kernel
theorem dX3_leastReply_30 : decode cX3_leastReply 30 = .ok (.iload_n 1, 1) := by decide +kernel
theorem dX3_leastReply_31 : decode cX3_leastReply 31 = .ok (.iload_n 2, 1) := by decide +kernel
theorem dX3_leastReply_32 : decode cX3_leastReply 32 = .ok (.iload 4, 2) := by decide +kernel
theorem dX3_leastReply_34 : decode cX3_leastReply 34 = .ok (.iload_n 3, 1) := by decide +kernel
theorem dX3_leastReply_35 : decode cX3_leastReply 35 = .ok (.invokevirtual 77, 3) := by decide +kernel
theorem dX3_leastReply_38 : decode cX3_leastReply 38 = .ok (.ifCond .eq 6, 3) := by decide +kernel
theorem dX3_leastReply_41 : decode cX3_leastReply 41 = .ok (.iload 4, 2) := by decide +kernel
theorem dX3_leastReply_43 : decode cX3_leastReply 43 = .ok (.ireturn, 1) := by decide +kernel
theorem dX3_leastReply_44 : decode cX3_leastReply 44 = .ok (.iinc 4 1, 3) := by decide +kernel
theorem dX3_leastReply_47 : decode cX3_leastReply 47 = .ok (.goto (-44), 3) := by decide +kernel
theorem dX3_leastReply_50 : decode cX3_leastReply 50 = .ok (.bipush (-9), 2) := by decide +kernel
theorem dX3_leastReply_52 : decode cX3_leastReply 52 = .ok (.ireturn, 1) := by decide +kernel
theorem dX3_firstPick_0 : decode cX3_firstPick 0 = .ok (.iconst 0, 1) := by decide +kernel
theorem dX3_firstPick_1 : decode cX3_firstPick 1 = .ok (.istore_n 3, 1) := by decide +kernel
theorem dX3_firstPick_2 : decode cX3_firstPick 2 = .ok (.iload_n 3, 1) := by decide +kernel
theorem dX3_firstPick_3 : decode cX3_firstPick 3 = .ok (.aload_n 0, 1) := by decide +kernel
theorem dX3_firstPick_4 : decode cX3_firstPick 4 = .ok (.iload_n 1, 1) := by decide +kernel
theorem dX3_firstPick_5 : decode cX3_firstPick 5 = .ok (.invokevirtual 92, 3) := by decide +kernel
theorem dX3_firstPick_8 : decode cX3_firstPick 8 = .ok (.invokevirtual 65, 3) := by decide +kernel
theorem dX3_firstPick_11 : decode cX3_firstPick 11 = .ok (.if_icmp .ge 23, 3) := by decide +kernel
theorem dX3_firstPick_14 : decode cX3_firstPick 14 = .ok (.aload_n 0, 1) := by decide +kernel
theorem dX3_firstPick_15 : decode cX3_firstPick 15 = .ok (.iload_n 1, 1) := by decide +kernel
theorem dX3_firstPick_16 : decode cX3_firstPick 16 = .ok (.iload_n 3, 1) := by decide +kernel
theorem dX3_firstPick_17 : decode cX3_firstPick 17 = .ok (.iload_n 2, 1) := by decide +kernel
theorem dX3_firstPick_18 : decode cX3_firstPick 18 = .ok (.invokevirtual 99, 3) := by decide +kernel
theorem dX3_firstPick_21 : decode cX3_firstPick 21 = .ok (.bipush (-9), 2) := by decide +kernel
theorem dX3_firstPick_23 : decode cX3_firstPick 23 = .ok (.if_icmp .ne 5, 3) := by decide +kernel
theorem dX3_firstPick_26 : decode cX3_firstPick 26 = .ok (.iload_n 3, 1) := by decide +kernel
theorem dX3_firstPick_27 : decode cX3_firstPick 27 = .ok (.ireturn, 1) := by decide +kernel
theorem dX3_firstPick_28 : decode cX3_firstPick 28 = .ok (.iinc 3 1, 3) := by decide +kernel
theorem dX3_firstPick_31 : decode cX3_firstPick 31 = .ok (.goto (-29), 3) := by decide +kernel
theorem dX3_firstPick_34 : decode cX3_firstPick 34 = .ok (.iconst 0, 1) := by decide +kernel
theorem dX3_firstPick_35 : decode cX3_firstPick 35 = .ok (.istore_n 3, 1) := by decide +kernel
theorem dX3_firstPick_36 : decode cX3_firstPick 36 = .ok (.iload_n 3, 1) := by decide +kernel
theorem dX3_firstPick_37 : decode cX3_firstPick 37 = .ok (.aload_n 0, 1) := by decide +kernel
theorem dX3_firstPick_38 : decode cX3_firstPick 38 = .ok (.iconst 1, 1) := by decide +kernel
theorem dX3_firstPick_39 : decode cX3_firstPick 39 = .ok (.iload_n 1, 1) := by decide +kernel
theorem dX3_firstPick_40 : decode cX3_firstPick 40 = .ok (.isub, 1) := by decide +kernel
theorem dX3_firstPick_41 : decode cX3_firstPick 41 = .ok (.invokevirtual 92, 3) := by decide +kernel
theorem dX3_firstPick_44 : decode cX3_firstPick 44 = .ok (.invokevirtual 65, 3) := by decide +kernel
theorem dX3_firstPick_47 : decode cX3_firstPick 47 = .ok (.if_icmp .ge 28, 3) := by decide +kernel
theorem dX3_firstPick_50 : decode cX3_firstPick 50 = .ok (.aload_n 0, 1) := by decide +kernel
theorem dX3_firstPick_51 : decode cX3_firstPick 51 = .ok (.iconst 1, 1) := by decide +kernel
theorem dX3_firstPick_52 : decode cX3_firstPick 52 = .ok (.iload_n 1, 1) := by decide +kernel
theorem dX3_firstPick_53 : decode cX3_firstPick 53 = .ok (.isub, 1) := by decide +kernel
theorem dX3_firstPick_54 : decode cX3_firstPick 54 = .ok (.iload_n 3, 1) := by decide +kernel
theorem dX3_firstPick_55 : decode cX3_firstPick 55 = .ok (.iload_n 2, 1) := by decide +kernel
theorem dX3_firstPick_56 : decode cX3_firstPick 56 = .ok (.invokevirtual 99, 3) := by decide +kernel
theorem dX3_firstPick_59 : decode cX3_firstPick 59 = .ok (.bipush (-9), 2) := by decide +kernel
theorem dX3_firstPick_61 : decode cX3_firstPick 61 = .ok (.if_icmp .ne 8, 3) := by decide +kernel
theorem dX3_firstPick_64 : decode cX3_firstPick 64 = .ok (.bipush 10, 2) := by decide +kernel
theorem dX3_firstPick_66 : decode cX3_firstPick 66 = .ok (.iload_n 3, 1) := by decide +kernel
theorem dX3_firstPick_67 : decode cX3_firstPick 67 = .ok (.iadd, 1) := by decide +kernel
theorem dX3_firstPick_68 : decode cX3_firstPick 68 = .ok (.ireturn, 1) := by decide +kernel
theorem dX3_firstPick_69 : decode cX3_firstPick 69 = .ok (.iinc 3 1, 3) := by decide +kernel
theorem dX3_firstPick_72 : decode cX3_firstPick 72 = .ok (.goto (-36), 3) := by decide +kernel
theorem dX3_firstPick_75 : decode cX3_firstPick 75 = .ok (.bipush (-9), 2) := by decide +kernel
theorem dX3_firstPick_77 : decode cX3_firstPick 77 = .ok (.ireturn, 1) := by decide +kernel
theorem dX3_leastRounds_0 : decode cX3_leastRounds 0 = .ok (.iconst 1, 1) := by decide +kernel
theorem dX3_leastRounds_1 : decode cX3_leastRounds 1 = .ok (.istore_n 1, 1) := by decide +kernel
theorem dX3_leastRounds_2 : decode cX3_leastRounds 2 = .ok (.iload_n 1, 1) := by decide +kernel
theorem dX3_leastRounds_3 : decode cX3_leastRounds 3 = .ok (.iconst 3, 1) := by decide +kernel
theorem dX3_leastRounds_4 : decode cX3_leastRounds 4 = .ok (.aload_n 0, 1) := by decide +kernel
theorem dX3_leastRounds_5 : decode cX3_leastRounds 5 = .ok (.getfield 31, 3) := by decide +kernel
theorem dX3_leastRounds_8 : decode cX3_leastRounds 8 = .ok (.isub, 1) := by decide +kernel
theorem dX3_leastRounds_9 : decode cX3_leastRounds 9 = .ok (.if_icmp .gt 19, 3) := by decide +kernel
theorem dX3_leastRounds_12 : decode cX3_leastRounds 12 = .ok (.aload_n 0, 1) := by decide +kernel
theorem dX3_leastRounds_13 : decode cX3_leastRounds 13 = .ok (.iload_n 1, 1) := by decide +kernel
theorem dX3_leastRounds_14 : decode cX3_leastRounds 14 = .ok (.invokevirtual 85, 3) := by decide +kernel
theorem dX3_leastRounds_17 : decode cX3_leastRounds 17 = .ok (.ifCond .ne 5, 3) := by decide +kernel
theorem dX3_leastRounds_20 : decode cX3_leastRounds 20 = .ok (.iload_n 1, 1) := by decide +kernel
theorem dX3_leastRounds_21 : decode cX3_leastRounds 21 = .ok (.ireturn, 1) := by decide +kernel
theorem dX3_leastRounds_22 : decode cX3_leastRounds 22 = .ok (.iinc 1 1, 3) := by decide +kernel
theorem dX3_leastRounds_25 : decode cX3_leastRounds 25 = .ok (.goto (-23), 3) := by decide +kernel
theorem dX3_leastRounds_28 : decode cX3_leastRounds 28 = .ok (.bipush (-9), 2) := by decide +kernel
theorem dX3_leastRounds_30 : decode cX3_leastRounds 30 = .ok (.ireturn, 1) := by decide +kernel
theorem dX4_init_0 : decode cX4_init 0 = .ok (.aload_n 0, 1) := by decide +kernel
theorem dX4_init_1 : decode cX4_init 1 = .ok (.invokespecial 3, 3) := by decide +kernel
theorem dX4_init_4 : decode cX4_init 4 = .ok (.aload_n 0, 1) := by decide +kernel
theorem dX4_init_5 : decode cX4_init 5 = .ok (.sipush 800, 3) := by decide +kernel
theorem dX4_init_8 : decode cX4_init 8 = .ok (.newarray .int, 2) := by decide +kernel
theorem dX4_init_10 : decode cX4_init 10 = .ok (.putfield 9, 3) := by decide +kernel
theorem dX4_init_13 : decode cX4_init 13 = .ok (.aload_n 0, 1) := by decide +kernel
theorem dX4_init_14 : decode cX4_init 14 = .ok (.iconst 0, 1) := by decide +kernel
theorem dX4_init_15 : decode cX4_init 15 = .ok (.putfield 15, 3) := by decide +kernel
theorem dX4_init_18 : decode cX4_init 18 = .ok (.return_, 1) := by decide +kernel
theorem dX4_signOf_0 : decode cX4_signOf 0 = .ok (.iload_n 0, 1) := by decide +kernel
theorem dX4_signOf_1 : decode cX4_signOf 1 = .ok (.sipush 255, 3) := by decide +kernel
theorem dX4_signOf_4 : decode cX4_signOf 4 = .ok (.iand, 1) := by decide +kernel
theorem dX4_signOf_5 : decode cX4_signOf 5 = .ok (.ireturn, 1) := by decide +kernel
theorem dX4_firstOf_0 : decode cX4_firstOf 0 = .ok (.iload_n 0, 1) := by decide +kernel
theorem dX4_firstOf_1 : decode cX4_firstOf 1 = .ok (.bipush 8, 2) := by decide +kernel
theorem dX4_firstOf_3 : decode cX4_firstOf 3 = .ok (.ishr, 1) := by decide +kernel
theorem dX4_firstOf_4 : decode cX4_firstOf 4 = .ok (.bipush 15, 2) := by decide +kernel
theorem dX4_firstOf_6 : decode cX4_firstOf 6 = .ok (.iand, 1) := by decide +kernel
theorem dX4_firstOf_7 : decode cX4_firstOf 7 = .ok (.ireturn, 1) := by decide +kernel
theorem dX4_secondOf_0 : decode cX4_secondOf 0 = .ok (.iload_n 0, 1) := by decide +kernel
theorem dX4_secondOf_1 : decode cX4_secondOf 1 = .ok (.bipush 12, 2) := by decide +kernel
theorem dX4_secondOf_3 : decode cX4_secondOf 3 = .ok (.ishr, 1) := by decide +kernel
theorem dX4_secondOf_4 : decode cX4_secondOf 4 = .ok (.bipush 15, 2) := by decide +kernel
theorem dX4_secondOf_6 : decode cX4_secondOf 6 = .ok (.iand, 1) := by decide +kernel
theorem dX4_secondOf_7 : decode cX4_secondOf 7 = .ok (.ireturn, 1) := by decide +kernel
theorem dX4_spanOf_0 : decode cX4_spanOf 0 = .ok (.iconst 1, 1) := by decide +kernel
theorem dX4_spanOf_1 : decode cX4_spanOf 1 = .ok (.iload_n 0, 1) := by decide +kernel
theorem dX4_spanOf_2 : decode cX4_spanOf 2 = .ok (.bipush 16, 2) := by decide +kernel
theorem dX4_spanOf_4 : decode cX4_spanOf 4 = .ok (.ishr, 1) := by decide +kernel
theorem dX4_spanOf_5 : decode cX4_spanOf 5 = .ok (.invokestatic 19, 3) := by decide +kernel
theorem dX4_spanOf_8 : decode cX4_spanOf 8 = .ok (.ireturn, 1) := by decide +kernel
theorem dX4_isList_0 : decode cX4_isList 0 = .ok (.iload_n 0, 1) := by decide +kernel
theorem dX4_isList_1 : decode cX4_isList 1 = .ok (.bipush 38, 2) := by decide +kernel
theorem dX4_isList_3 : decode cX4_isList 3 = .ok (.if_icmp .eq 9, 3) := by decide +kernel
theorem dX4_isList_6 : decode cX4_isList 6 = .ok (.iload_n 0, 1) := by decide +kernel
theorem dX4_isList_7 : decode cX4_isList 7 = .ok (.bipush 124, 2) := by decide +kernel
theorem dX4_isList_9 : decode cX4_isList 9 = .ok (.if_icmp .ne 7, 3) := by decide +kernel
theorem dX4_isList_12 : decode cX4_isList 12 = .ok (.iconst 1, 1) := by decide +kernel
theorem dX4_isList_13 : decode cX4_isList 13 = .ok (.goto 4, 3) := by decide +kernel
theorem dX4_isList_16 : decode cX4_isList 16 = .ok (.iconst 0, 1) := by decide +kernel
theorem dX4_isList_17 : decode cX4_isList 17 = .ok (.ireturn, 1) := by decide +kernel
theorem dX4_isQuantifier_0 : decode cX4_isQuantifier 0 = .ok (.iload_n 0, 1) := by decide +kernel
theorem dX4_isQuantifier_1 : decode cX4_isQuantifier 1 = .ok (.bipush 64, 2) := by decide +kernel
theorem dX4_isQuantifier_3 : decode cX4_isQuantifier 3 = .ok (.if_icmp .eq 9, 3) := by decide +kernel
theorem dX4_isQuantifier_6 : decode cX4_isQuantifier 6 = .ok (.iload_n 0, 1) := by decide +kernel
theorem dX4_isQuantifier_7 : decode cX4_isQuantifier 7 = .ok (.bipush 63, 2) := by decide +kernel
theorem dX4_isQuantifier_9 : decode cX4_isQuantifier 9 = .ok (.if_icmp .ne 7, 3) := by decide +kernel
theorem dX4_isQuantifier_12 : decode cX4_isQuantifier 12 = .ok (.iconst 1, 1) := by decide +kernel
theorem dX4_isQuantifier_13 : decode cX4_isQuantifier 13 = .ok (.goto 4, 3) := by decide +kernel
theorem dX4_isQuantifier_16 : decode cX4_isQuantifier 16 = .ok (.iconst 0, 1) := by decide +kernel
theorem dX4_isQuantifier_17 : decode cX4_isQuantifier 17 = .ok (.ireturn, 1) := by decide +kernel
theorem dX4_encode_0 : decode cX4_encode 0 = .ok (.iload_n 0, 1) := by decide +kernel
theorem dX4_encode_1 : decode cX4_encode 1 = .ok (.iload_n 1, 1) := by decide +kernel
theorem dX4_encode_2 : decode cX4_encode 2 = .ok (.bipush 8, 2) := by decide +kernel
theorem dX4_encode_4 : decode cX4_encode 4 = .ok (.ishl, 1) := by decide +kernel
theorem dX4_encode_5 : decode cX4_encode 5 = .ok (.ior, 1) := by decide +kernel
theorem dX4_encode_6 : decode cX4_encode 6 = .ok (.iload_n 2, 1) := by decide +kernel
theorem dX4_encode_7 : decode cX4_encode 7 = .ok (.bipush 12, 2) := by decide +kernel
theorem dX4_encode_9 : decode cX4_encode 9 = .ok (.ishl, 1) := by decide +kernel
theorem dX4_encode_10 : decode cX4_encode 10 = .ok (.ior, 1) := by decide +kernel
theorem dX4_encode_11 : decode cX4_encode 11 = .ok (.ldc 25, 2) := by decide +kernel
theorem dX4_encode_13 : decode cX4_encode 13 = .ok (.ior, 1) := by decide +kernel
theorem dX4_encode_14 : decode cX4_encode 14 = .ok (.ireturn, 1) := by decide +kernel
theorem dX4_count_0 : decode cX4_count 0 = .ok (.aload_n 0, 1) := by decide +kernel
theorem dX4_count_1 : decode cX4_count 1 = .ok (.getfield 15, 3) := by decide +kernel
theorem dX4_count_4 : decode cX4_count 4 = .ok (.ireturn, 1) := by decide +kernel
theorem dX4_clear_0 : decode cX4_clear 0 = .ok (.aload_n 0, 1) := by decide +kernel
theorem dX4_clear_1 : decode cX4_clear 1 = .ok (.iconst 0, 1) := by decide +kernel
theorem dX4_clear_2 : decode cX4_clear 2 = .ok (.putfield 15, 3) := by decide +kernel
theorem dX4_clear_5 : decode cX4_clear 5 = .ok (.return_, 1) := by decide +kernel
theorem dX4_add_0 : decode cX4_add 0 = .ok (.aload_n 0, 1) := by decide +kernel
theorem dX4_add_1 : decode cX4_add 1 = .ok (.getfield 15, 3) := by decide +kernel
theorem dX4_add_4 : decode cX4_add 4 = .ok (.istore 4, 2) := by decide +kernel
theorem dX4_add_6 : decode cX4_add 6 = .ok (.iload 4, 2) := by decide +kernel
theorem dX4_add_8 : decode cX4_add 8 = .ok (.ifCond .lt 36, 3) := by decide +kernel
theorem dX4_add_11 : decode cX4_add 11 = .ok (.iload 4, 2) := by decide +kernel
theorem dX4_add_13 : decode cX4_add 13 = .ok (.aload_n 0, 1) := by decide +kernel
theorem dX4_add_14 : decode cX4_add 14 = .ok (.getfield 9, 3) := by decide +kernel
theorem dX4_add_17 : decode cX4_add 17 = .ok (.arraylength, 1) := by decide +kernel
theorem dX4_add_18 : decode cX4_add 18 = .ok (.if_icmp .ge 26, 3) := by decide +kernel
theorem dX4_add_21 : decode cX4_add 21 = .ok (.aload_n 0, 1) := by decide +kernel
theorem dX4_add_22 : decode cX4_add 22 = .ok (.getfield 9, 3) := by decide +kernel
theorem dX4_add_25 : decode cX4_add 25 = .ok (.iload 4, 2) := by decide +kernel
theorem dX4_add_27 : decode cX4_add 27 = .ok (.iload_n 1, 1) := by decide +kernel
theorem dX4_add_28 : decode cX4_add 28 = .ok (.iload_n 2, 1) := by decide +kernel
theorem dX4_add_29 : decode cX4_add 29 = .ok (.iload_n 3, 1) := by decide +kernel
theorem dX4_add_30 : decode cX4_add 30 = .ok (.invokestatic 26, 3) := by decide +kernel
theorem dX4_add_33 : decode cX4_add 33 = .ok (.iastore, 1) := by decide +kernel
theorem dX4_add_34 : decode cX4_add 34 = .ok (.aload_n 0, 1) := by decide +kernel
theorem dX4_add_35 : decode cX4_add 35 = .ok (.dup, 1) := by decide +kernel
theorem dX4_add_36 : decode cX4_add 36 = .ok (.getfield 15, 3) := by decide +kernel
theorem dX4_add_39 : decode cX4_add 39 = .ok (.iconst 1, 1) := by decide +kernel
theorem dX4_add_40 : decode cX4_add 40 = .ok (.iadd, 1) := by decide +kernel
theorem dX4_add_41 : decode cX4_add 41 = .ok (.putfield 15, 3) := by decide +kernel
theorem dX4_add_44 : decode cX4_add 44 = .ok (.iload 4, 2) := by decide +kernel
theorem dX4_add_46 : decode cX4_add 46 = .ok (.ireturn, 1) := by decide +kernel
theorem dX4_insert_0 : decode cX4_insert 0 = .ok (.iload_n 1, 1) := by decide +kernel
theorem dX4_insert_1 : decode cX4_insert 1 = .ok (.ifCond .lt 23, 3) := by decide +kernel
theorem dX4_insert_4 : decode cX4_insert 4 = .ok (.iload_n 1, 1) := by decide +kernel
theorem dX4_insert_5 : decode cX4_insert 5 = .ok (.aload_n 0, 1) := by decide +kernel
theorem dX4_insert_6 : decode cX4_insert 6 = .ok (.getfield 15, 3) := by decide +kernel
theorem dX4_insert_9 : decode cX4_insert 9 = .ok (.if_icmp .gt 15, 3) := by decide +kernel
theorem dX4_insert_12 : decode cX4_insert 12 = .ok (.aload_n 0, 1) := by decide +kernel
theorem dX4_insert_13 : decode cX4_insert 13 = .ok (.getfield 15, 3) := by decide +kernel
theorem dX4_insert_16 : decode cX4_insert 16 = .ok (.aload_n 0, 1) := by decide +kernel
theorem dX4_insert_17 : decode cX4_insert 17 = .ok (.getfield 9, 3) := by decide +kernel
theorem dX4_insert_20 : decode cX4_insert 20 = .ok (.arraylength, 1) := by decide +kernel
theorem dX4_insert_21 : decode cX4_insert 21 = .ok (.if_icmp .lt 4, 3) := by decide +kernel
theorem dX4_insert_24 : decode cX4_insert 24 = .ok (.return_, 1) := by decide +kernel
theorem dX4_insert_25 : decode cX4_insert 25 = .ok (.aload_n 0, 1) := by decide +kernel
theorem dX4_insert_26 : decode cX4_insert 26 = .ok (.getfield 9, 3) := by decide +kernel
theorem dX4_insert_29 : decode cX4_insert 29 = .ok (.iload_n 1, 1) := by decide +kernel
theorem dX4_insert_30 : decode cX4_insert 30 = .ok (.aload_n 0, 1) := by decide +kernel
theorem dX4_insert_31 : decode cX4_insert 31 = .ok (.getfield 9, 3) := by decide +kernel
theorem dX4_insert_34 : decode cX4_insert 34 = .ok (.iload_n 1, 1) := by decide +kernel
theorem dX4_insert_35 : decode cX4_insert 35 = .ok (.iconst 1, 1) := by decide +kernel
theorem dX4_insert_36 : decode cX4_insert 36 = .ok (.iadd, 1) := by decide +kernel
theorem dX4_insert_37 : decode cX4_insert 37 = .ok (.aload_n 0, 1) := by decide +kernel
theorem dX4_insert_38 : decode cX4_insert 38 = .ok (.getfield 15, 3) := by decide +kernel
theorem dX4_insert_41 : decode cX4_insert 41 = .ok (.iload_n 1, 1) := by decide +kernel
theorem dX4_insert_42 : decode cX4_insert 42 = .ok (.isub, 1) := by decide +kernel
theorem dX4_insert_43 : decode cX4_insert 43 = .ok (.invokestatic 30, 3) := by decide +kernel
theorem dX4_insert_46 : decode cX4_insert 46 = .ok (.aload_n 0, 1) := by decide +kernel
theorem dX4_insert_47 : decode cX4_insert 47 = .ok (.getfield 9, 3) := by decide +kernel
theorem dX4_insert_50 : decode cX4_insert 50 = .ok (.iload_n 1, 1) := by decide +kernel
theorem dX4_insert_51 : decode cX4_insert 51 = .ok (.iload_n 2, 1) := by decide +kernel
theorem dX4_insert_52 : decode cX4_insert 52 = .ok (.iconst 0, 1) := by decide +kernel
theorem dX4_insert_53 : decode cX4_insert 53 = .ok (.iconst 0, 1) := by decide +kernel
theorem dX4_insert_54 : decode cX4_insert 54 = .ok (.invokestatic 26, 3) := by decide +kernel
theorem dX4_insert_57 : decode cX4_insert 57 = .ok (.iastore, 1) := by decide +kernel
theorem dX4_insert_58 : decode cX4_insert 58 = .ok (.aload_n 0, 1) := by decide +kernel
theorem dX4_insert_59 : decode cX4_insert 59 = .ok (.dup, 1) := by decide +kernel
theorem dX4_insert_60 : decode cX4_insert 60 = .ok (.getfield 15, 3) := by decide +kernel
theorem dX4_insert_63 : decode cX4_insert 63 = .ok (.iconst 1, 1) := by decide +kernel
theorem dX4_insert_64 : decode cX4_insert 64 = .ok (.iadd, 1) := by decide +kernel
theorem dX4_insert_65 : decode cX4_insert 65 = .ok (.putfield 15, 3) := by decide +kernel
theorem dX4_insert_68 : decode cX4_insert 68 = .ok (.return_, 1) := by decide +kernel
theorem dX4_remove_0 : decode cX4_remove 0 = .ok (.iload_n 1, 1) := by decide +kernel
theorem dX4_remove_1 : decode cX4_remove 1 = .ok (.ifCond .lt 23, 3) := by decide +kernel
theorem dX4_remove_4 : decode cX4_remove 4 = .ok (.iload_n 1, 1) := by decide +kernel
theorem dX4_remove_5 : decode cX4_remove 5 = .ok (.aload_n 0, 1) := by decide +kernel
theorem dX4_remove_6 : decode cX4_remove 6 = .ok (.getfield 15, 3) := by decide +kernel
theorem dX4_remove_9 : decode cX4_remove 9 = .ok (.if_icmp .ge 15, 3) := by decide +kernel
theorem dX4_remove_12 : decode cX4_remove 12 = .ok (.aload_n 0, 1) := by decide +kernel
theorem dX4_remove_13 : decode cX4_remove 13 = .ok (.getfield 15, 3) := by decide +kernel
theorem dX4_remove_16 : decode cX4_remove 16 = .ok (.aload_n 0, 1) := by decide +kernel
theorem dX4_remove_17 : decode cX4_remove 17 = .ok (.getfield 9, 3) := by decide +kernel
theorem dX4_remove_20 : decode cX4_remove 20 = .ok (.arraylength, 1) := by decide +kernel
theorem dX4_remove_21 : decode cX4_remove 21 = .ok (.if_icmp .le 4, 3) := by decide +kernel
theorem dX4_remove_24 : decode cX4_remove 24 = .ok (.return_, 1) := by decide +kernel
theorem dX4_remove_25 : decode cX4_remove 25 = .ok (.aload_n 0, 1) := by decide +kernel
theorem dX4_remove_26 : decode cX4_remove 26 = .ok (.getfield 9, 3) := by decide +kernel
theorem dX4_remove_29 : decode cX4_remove 29 = .ok (.iload_n 1, 1) := by decide +kernel
theorem dX4_remove_30 : decode cX4_remove 30 = .ok (.iconst 1, 1) := by decide +kernel
theorem dX4_remove_31 : decode cX4_remove 31 = .ok (.iadd, 1) := by decide +kernel
theorem dX4_remove_32 : decode cX4_remove 32 = .ok (.aload_n 0, 1) := by decide +kernel
theorem dX4_remove_33 : decode cX4_remove 33 = .ok (.getfield 9, 3) := by decide +kernel
theorem dX4_remove_36 : decode cX4_remove 36 = .ok (.iload_n 1, 1) := by decide +kernel
theorem dX4_remove_37 : decode cX4_remove 37 = .ok (.aload_n 0, 1) := by decide +kernel
theorem dX4_remove_38 : decode cX4_remove 38 = .ok (.getfield 15, 3) := by decide +kernel
theorem dX4_remove_41 : decode cX4_remove 41 = .ok (.iload_n 1, 1) := by decide +kernel
theorem dX4_remove_42 : decode cX4_remove 42 = .ok (.isub, 1) := by decide +kernel
theorem dX4_remove_43 : decode cX4_remove 43 = .ok (.iconst 1, 1) := by decide +kernel
theorem dX4_remove_44 : decode cX4_remove 44 = .ok (.isub, 1) := by decide +kernel
theorem dX4_remove_45 : decode cX4_remove 45 = .ok (.invokestatic 30, 3) := by decide +kernel
theorem dX4_remove_48 : decode cX4_remove 48 = .ok (.aload_n 0, 1) := by decide +kernel
theorem dX4_remove_49 : decode cX4_remove 49 = .ok (.dup, 1) := by decide +kernel
theorem dX4_remove_50 : decode cX4_remove 50 = .ok (.getfield 15, 3) := by decide +kernel
theorem dX4_remove_53 : decode cX4_remove 53 = .ok (.iconst 1, 1) := by decide +kernel
theorem dX4_remove_54 : decode cX4_remove 54 = .ok (.isub, 1) := by decide +kernel
theorem dX4_remove_55 : decode cX4_remove 55 = .ok (.putfield 15, 3) := by decide +kernel
theorem dX4_remove_58 : decode cX4_remove 58 = .ok (.return_, 1) := by decide +kernel
theorem dX4_close_0 : decode cX4_close 0 = .ok (.iload_n 1, 1) := by decide +kernel
theorem dX4_close_1 : decode cX4_close 1 = .ok (.ifCond .lt 45, 3) := by decide +kernel
theorem dX4_close_4 : decode cX4_close 4 = .ok (.iload_n 1, 1) := by decide +kernel
theorem dX4_close_5 : decode cX4_close 5 = .ok (.aload_n 0, 1) := by decide +kernel
theorem dX4_close_6 : decode cX4_close 6 = .ok (.getfield 15, 3) := by decide +kernel
theorem dX4_close_9 : decode cX4_close 9 = .ok (.if_icmp .ge 37, 3) := by decide +kernel
theorem dX4_close_12 : decode cX4_close 12 = .ok (.iload_n 1, 1) := by decide +kernel
theorem dX4_close_13 : decode cX4_close 13 = .ok (.aload_n 0, 1) := by decide +kernel
theorem dX4_close_14 : decode cX4_close 14 = .ok (.getfield 9, 3) := by decide +kernel
theorem dX4_close_17 : decode cX4_close 17 = .ok (.arraylength, 1) := by decide +kernel
theorem dX4_close_18 : decode cX4_close 18 = .ok (.if_icmp .ge 28, 3) := by decide +kernel
theorem dX4_close_21 : decode cX4_close 21 = .ok (.aload_n 0, 1) := by decide +kernel
theorem dX4_close_22 : decode cX4_close 22 = .ok (.getfield 9, 3) := by decide +kernel
theorem dX4_close_25 : decode cX4_close 25 = .ok (.iload_n 1, 1) := by decide +kernel
theorem dX4_close_26 : decode cX4_close 26 = .ok (.aload_n 0, 1) := by decide +kernel
theorem dX4_close_27 : decode cX4_close 27 = .ok (.getfield 9, 3) := by decide +kernel
theorem dX4_close_30 : decode cX4_close 30 = .ok (.iload_n 1, 1) := by decide +kernel
theorem dX4_close_31 : decode cX4_close 31 = .ok (.iaload, 1) := by decide +kernel
theorem dX4_close_32 : decode cX4_close 32 = .ok (.ldc 36, 2) := by decide +kernel
theorem dX4_close_34 : decode cX4_close 34 = .ok (.iand, 1) := by decide +kernel
theorem dX4_close_35 : decode cX4_close 35 = .ok (.aload_n 0, 1) := by decide +kernel
theorem dX4_close_36 : decode cX4_close 36 = .ok (.getfield 15, 3) := by decide +kernel
theorem dX4_close_39 : decode cX4_close 39 = .ok (.iload_n 1, 1) := by decide +kernel
theorem dX4_close_40 : decode cX4_close 40 = .ok (.isub, 1) := by decide +kernel
theorem dX4_close_41 : decode cX4_close 41 = .ok (.bipush 16, 2) := by decide +kernel
theorem dX4_close_43 : decode cX4_close 43 = .ok (.ishl, 1) := by decide +kernel
theorem dX4_close_44 : decode cX4_close 44 = .ok (.ior, 1) := by decide +kernel
theorem dX4_close_45 : decode cX4_close 45 = .ok (.iastore, 1) := by decide +kernel
theorem dX4_close_46 : decode cX4_close 46 = .ok (.return_, 1) := by decide +kernel
theorem dX4_cutTo_0 : decode cX4_cutTo 0 = .ok (.aload_n 0, 1) := by decide +kernel
theorem dX4_cutTo_1 : decode cX4_cutTo 1 = .ok (.iconst 0, 1) := by decide +kernel
theorem dX4_cutTo_2 : decode cX4_cutTo 2 = .ok (.iload_n 1, 1) := by decide +kernel
theorem dX4_cutTo_3 : decode cX4_cutTo 3 = .ok (.aload_n 0, 1) := by decide +kernel
theorem dX4_cutTo_4 : decode cX4_cutTo 4 = .ok (.getfield 15, 3) := by decide +kernel
theorem dX4_cutTo_7 : decode cX4_cutTo 7 = .ok (.invokestatic 37, 3) := by decide +kernel
theorem dX4_cutTo_10 : decode cX4_cutTo 10 = .ok (.invokestatic 19, 3) := by decide +kernel
theorem dX4_cutTo_13 : decode cX4_cutTo 13 = .ok (.putfield 15, 3) := by decide +kernel
theorem dX4_cutTo_16 : decode cX4_cutTo 16 = .ok (.return_, 1) := by decide +kernel
theorem dX4_standsEarlier_0 : decode cX4_standsEarlier 0 = .ok (.iload_n 1, 1) := by decide +kernel
theorem dX4_standsEarlier_1 : decode cX4_standsEarlier 1 = .ok (.ifCond .lt 15, 3) := by decide +kernel
theorem dX4_standsEarlier_4 : decode cX4_standsEarlier 4 = .ok (.aload_n 0, 1) := by decide +kernel
theorem dX4_standsEarlier_5 : decode cX4_standsEarlier 5 = .ok (.getfield 15, 3) := by decide +kernel
theorem dX4_standsEarlier_8 : decode cX4_standsEarlier 8 = .ok (.aload_n 0, 1) := by decide +kernel
theorem dX4_standsEarlier_9 : decode cX4_standsEarlier 9 = .ok (.getfield 9, 3) := by decide +kernel
theorem dX4_standsEarlier_12 : decode cX4_standsEarlier 12 = .ok (.arraylength, 1) := by decide +kernel
theorem dX4_standsEarlier_13 : decode cX4_standsEarlier 13 = .ok (.if_icmp .le 5, 3) := by decide +kernel
theorem dX4_standsEarlier_16 : decode cX4_standsEarlier 16 = .ok (.iconst 0, 1) := by decide +kernel
theorem dX4_standsEarlier_17 : decode cX4_standsEarlier 17 = .ok (.ireturn, 1) := by decide +kernel
theorem dX4_standsEarlier_18 : decode cX4_standsEarlier 18 = .ok (.iload_n 1, 1) := by decide +kernel
theorem dX4_standsEarlier_19 : decode cX4_standsEarlier 19 = .ok (.istore_n 3, 1) := by decide +kernel
theorem dX4_standsEarlier_20 : decode cX4_standsEarlier 20 = .ok (.iload_n 3, 1) := by decide +kernel
theorem dX4_standsEarlier_21 : decode cX4_standsEarlier 21 = .ok (.iload_n 2, 1) := by decide +kernel
theorem dX4_standsEarlier_22 : decode cX4_standsEarlier 22 = .ok (.if_icmp .ge 37, 3) := by decide +kernel
theorem dX4_standsEarlier_25 : decode cX4_standsEarlier 25 = .ok (.iload_n 3, 1) := by decide +kernel
theorem dX4_standsEarlier_26 : decode cX4_standsEarlier 26 = .ok (.aload_n 0, 1) := by decide +kernel
theorem dX4_standsEarlier_27 : decode cX4_standsEarlier 27 = .ok (.getfield 15, 3) := by decide +kernel
theorem dX4_standsEarlier_30 : decode cX4_standsEarlier 30 = .ok (.if_icmp .ge 29, 3) := by decide +kernel
theorem dX4_standsEarlier_33 : decode cX4_standsEarlier 33 = .ok (.aload_n 0, 1) := by decide +kernel
theorem dX4_standsEarlier_34 : decode cX4_standsEarlier 34 = .ok (.iload_n 3, 1) := by decide +kernel
theorem dX4_standsEarlier_35 : decode cX4_standsEarlier 35 = .ok (.iload_n 2, 1) := by decide +kernel
theorem dX4_standsEarlier_36 : decode cX4_standsEarlier 36 = .ok (.invokevirtual 40, 3) := by decide +kernel
theorem dX4_standsEarlier_39 : decode cX4_standsEarlier 39 = .ok (.ifCond .eq 5, 3) := by decide +kernel
theorem dX4_standsEarlier_42 : decode cX4_standsEarlier 42 = .ok (.iconst 1, 1) := by decide +kernel
theorem dX4_standsEarlier_43 : decode cX4_standsEarlier 43 = .ok (.ireturn, 1) := by decide +kernel
theorem dX4_standsEarlier_44 : decode cX4_standsEarlier 44 = .ok (.iload_n 3, 1) := by decide +kernel
theorem dX4_standsEarlier_45 : decode cX4_standsEarlier 45 = .ok (.aload_n 0, 1) := by decide +kernel
theorem dX4_standsEarlier_46 : decode cX4_standsEarlier 46 = .ok (.getfield 9, 3) := by decide +kernel
theorem dX4_standsEarlier_49 : decode cX4_standsEarlier 49 = .ok (.iload_n 3, 1) := by decide +kernel
theorem dX4_standsEarlier_50 : decode cX4_standsEarlier 50 = .ok (.iaload, 1) := by decide +kernel
theorem dX4_standsEarlier_51 : decode cX4_standsEarlier 51 = .ok (.invokestatic 44, 3) := by decide +kernel
theorem dX4_standsEarlier_54 : decode cX4_standsEarlier 54 = .ok (.iadd, 1) := by decide +kernel
theorem dX4_standsEarlier_55 : decode cX4_standsEarlier 55 = .ok (.istore_n 3, 1) := by decide +kernel
theorem dX4_standsEarlier_56 : decode cX4_standsEarlier 56 = .ok (.goto (-36), 3) := by decide +kernel
theorem dX4_standsEarlier_59 : decode cX4_standsEarlier 59 = .ok (.iconst 0, 1) := by decide +kernel
theorem dX4_standsEarlier_60 : decode cX4_standsEarlier 60 = .ok (.ireturn, 1) := by decide +kernel
theorem dX4_isLike_0 : decode cX4_isLike 0 = .ok (.aload_n 0, 1) := by decide +kernel
theorem dX4_isLike_1 : decode cX4_isLike 1 = .ok (.getfield 15, 3) := by decide +kernel
theorem dX4_isLike_4 : decode cX4_isLike 4 = .ok (.iload_n 2, 1) := by decide +kernel
theorem dX4_isLike_5 : decode cX4_isLike 5 = .ok (.isub, 1) := by decide +kernel
theorem dX4_isLike_6 : decode cX4_isLike 6 = .ok (.istore_n 3, 1) := by decide +kernel
theorem dX4_isLike_7 : decode cX4_isLike 7 = .ok (.iload_n 1, 1) := by decide +kernel
theorem dX4_isLike_8 : decode cX4_isLike 8 = .ok (.ifCond .lt 27, 3) := by decide +kernel
theorem dX4_isLike_11 : decode cX4_isLike 11 = .ok (.iload_n 2, 1) := by decide +kernel
theorem dX4_isLike_12 : decode cX4_isLike 12 = .ok (.iload_n 1, 1) := by decide +kernel
theorem dX4_isLike_13 : decode cX4_isLike 13 = .ok (.if_icmp .lt 22, 3) := by decide +kernel
theorem dX4_isLike_16 : decode cX4_isLike 16 = .ok (.iload_n 1, 1) := by decide +kernel
theorem dX4_isLike_17 : decode cX4_isLike 17 = .ok (.iload_n 3, 1) := by decide +kernel
theorem dX4_isLike_18 : decode cX4_isLike 18 = .ok (.iadd, 1) := by decide +kernel
theorem dX4_isLike_19 : decode cX4_isLike 19 = .ok (.iload_n 2, 1) := by decide +kernel
theorem dX4_isLike_20 : decode cX4_isLike 20 = .ok (.if_icmp .gt 15, 3) := by decide +kernel
theorem dX4_isLike_23 : decode cX4_isLike 23 = .ok (.aload_n 0, 1) := by decide +kernel
theorem dX4_isLike_24 : decode cX4_isLike 24 = .ok (.getfield 15, 3) := by decide +kernel
theorem dX4_isLike_27 : decode cX4_isLike 27 = .ok (.aload_n 0, 1) := by decide +kernel
theorem dX4_isLike_28 : decode cX4_isLike 28 = .ok (.getfield 9, 3) := by decide +kernel
theorem dX4_isLike_31 : decode cX4_isLike 31 = .ok (.arraylength, 1) := by decide +kernel
theorem dX4_isLike_32 : decode cX4_isLike 32 = .ok (.if_icmp .le 5, 3) := by decide +kernel
theorem dX4_isLike_35 : decode cX4_isLike 35 = .ok (.iconst 0, 1) := by decide +kernel
theorem dX4_isLike_36 : decode cX4_isLike 36 = .ok (.ireturn, 1) := by decide +kernel
theorem dX4_isLike_37 : decode cX4_isLike 37 = .ok (.iconst 0, 1) := by decide +kernel
theorem dX4_isLike_38 : decode cX4_isLike 38 = .ok (.istore 4, 2) := by decide +kernel
theorem dX4_isLike_40 : decode cX4_isLike 40 = .ok (.iload 4, 2) := by decide +kernel
theorem dX4_isLike_42 : decode cX4_isLike 42 = .ok (.iload_n 3, 1) := by decide +kernel
theorem dX4_isLike_43 : decode cX4_isLike 43 = .ok (.if_icmp .ge 32, 3) := by decide +kernel
theorem dX4_isLike_46 : decode cX4_isLike 46 = .ok (.aload_n 0, 1) := by decide +kernel
theorem dX4_isLike_47 : decode cX4_isLike 47 = .ok (.getfield 9, 3) := by decide +kernel
theorem dX4_isLike_50 : decode cX4_isLike 50 = .ok (.iload_n 1, 1) := by decide +kernel
theorem dX4_isLike_51 : decode cX4_isLike 51 = .ok (.iload 4, 2) := by decide +kernel
theorem dX4_isLike_53 : decode cX4_isLike 53 = .ok (.iadd, 1) := by decide +kernel
theorem dX4_isLike_54 : decode cX4_isLike 54 = .ok (.iaload, 1) := by decide +kernel
theorem dX4_isLike_55 : decode cX4_isLike 55 = .ok (.aload_n 0, 1) := by decide +kernel
theorem dX4_isLike_56 : decode cX4_isLike 56 = .ok (.getfield 9, 3) := by decide +kernel
theorem dX4_isLike_59 : decode cX4_isLike 59 = .ok (.iload_n 2, 1) := by decide +kernel
theorem dX4_isLike_60 : decode cX4_isLike 60 = .ok (.iload 4, 2) := by decide +kernel
theorem dX4_isLike_62 : decode cX4_isLike 62 = .ok (.iadd, 1) := by decide +kernel
theorem dX4_isLike_63 : decode cX4_isLike 63 = .ok (.iaload, 1) := by decide +kernel
theorem dX4_isLike_64 : decode cX4_isLike 64 = .ok (.if_icmp .eq 5, 3) := by decide +kernel
theorem dX4_isLike_67 : decode cX4_isLike 67 = .ok (.iconst 0, 1) := by decide +kernel
theorem dX4_isLike_68 : decode cX4_isLike 68 = .ok (.ireturn, 1) := by decide +kernel
theorem dX4_isLike_69 : decode cX4_isLike 69 = .ok (.iinc 4 1, 3) := by decide +kernel
theorem dX4_isLike_72 : decode cX4_isLike 72 = .ok (.goto (-32), 3) := by decide +kernel
theorem dX4_isLike_75 : decode cX4_isLike 75 = .ok (.iconst 1, 1) := by decide +kernel
theorem dX4_isLike_76 : decode cX4_isLike 76 = .ok (.ireturn, 1) := by decide +kernel
theorem dX4_copy_0 : decode cX4_copy 0 = .ok (.aload_n 0, 1) := by decide +kernel
theorem dX4_copy_1 : decode cX4_copy 1 = .ok (.getfield 9, 3) := by decide +kernel
theorem dX4_copy_4 : decode cX4_copy 4 = .ok (.iconst 0, 1) := by decide +kernel
theorem dX4_copy_5 : decode cX4_copy 5 = .ok (.aload_n 0, 1) := by decide +kernel
theorem dX4_copy_6 : decode cX4_copy 6 = .ok (.getfield 15, 3) := by decide +kernel
theorem dX4_copy_9 : decode cX4_copy 9 = .ok (.aload_n 0, 1) := by decide +kernel
theorem dX4_copy_10 : decode cX4_copy 10 = .ok (.getfield 9, 3) := by decide +kernel
theorem dX4_copy_13 : decode cX4_copy 13 = .ok (.arraylength, 1) := by decide +kernel
theorem dX4_copy_14 : decode cX4_copy 14 = .ok (.invokestatic 37, 3) := by decide +kernel
theorem dX4_copy_17 : decode cX4_copy 17 = .ok (.invokestatic 19, 3) := by decide +kernel
theorem dX4_copy_20 : decode cX4_copy 20 = .ok (.invokestatic 48, 3) := by decide +kernel
theorem dX4_copy_23 : decode cX4_copy 23 = .ok (.areturn, 1) := by decide +kernel
theorem dX4_depth_0 : decode cX4_depth 0 = .ok (.iconst 0, 1) := by decide +kernel
theorem dX4_depth_1 : decode cX4_depth 1 = .ok (.istore_n 1, 1) := by decide +kernel
theorem dX4_depth_2 : decode cX4_depth 2 = .ok (.iconst 0, 1) := by decide +kernel
theorem dX4_depth_3 : decode cX4_depth 3 = .ok (.istore_n 2, 1) := by decide +kernel
theorem dX4_depth_4 : decode cX4_depth 4 = .ok (.iload_n 2, 1) := by decide +kernel
theorem dX4_depth_5 : decode cX4_depth 5 = .ok (.aload_n 0, 1) := by decide +kernel
theorem dX4_depth_6 : decode cX4_depth 6 = .ok (.getfield 15, 3) := by decide +kernel
theorem dX4_depth_9 : decode cX4_depth 9 = .ok (.if_icmp .ge 47, 3) := by decide +kernel
theorem dX4_depth_12 : decode cX4_depth 12 = .ok (.iload_n 2, 1) := by decide +kernel
theorem dX4_depth_13 : decode cX4_depth 13 = .ok (.aload_n 0, 1) := by decide +kernel
theorem dX4_depth_14 : decode cX4_depth 14 = .ok (.getfield 9, 3) := by decide +kernel
theorem dX4_depth_17 : decode cX4_depth 17 = .ok (.arraylength, 1) := by decide +kernel
theorem dX4_depth_18 : decode cX4_depth 18 = .ok (.if_icmp .ge 38, 3) := by decide +kernel
theorem dX4_depth_21 : decode cX4_depth 21 = .ok (.aload_n 0, 1) := by decide +kernel
theorem dX4_depth_22 : decode cX4_depth 22 = .ok (.getfield 9, 3) := by decide +kernel
theorem dX4_depth_25 : decode cX4_depth 25 = .ok (.iload_n 2, 1) := by decide +kernel
theorem dX4_depth_26 : decode cX4_depth 26 = .ok (.iaload, 1) := by decide +kernel
theorem dX4_depth_27 : decode cX4_depth 27 = .ok (.invokestatic 54, 3) := by decide +kernel
theorem dX4_depth_30 : decode cX4_depth 30 = .ok (.invokestatic 57, 3) := by decide +kernel
theorem dX4_depth_33 : decode cX4_depth 33 = .ok (.ifCond .eq 17, 3) := by decide +kernel
theorem dX4_depth_36 : decode cX4_depth 36 = .ok (.iload_n 1, 1) := by decide +kernel
theorem dX4_depth_37 : decode cX4_depth 37 = .ok (.aload_n 0, 1) := by decide +kernel
theorem dX4_depth_38 : decode cX4_depth 38 = .ok (.getfield 9, 3) := by decide +kernel
theorem dX4_depth_41 : decode cX4_depth 41 = .ok (.iload_n 2, 1) := by decide +kernel
theorem dX4_depth_42 : decode cX4_depth 42 = .ok (.iaload, 1) := by decide +kernel
theorem dX4_depth_43 : decode cX4_depth 43 = .ok (.invokestatic 61, 3) := by decide +kernel
theorem dX4_depth_46 : decode cX4_depth 46 = .ok (.invokestatic 19, 3) := by decide +kernel
theorem dX4_depth_49 : decode cX4_depth 49 = .ok (.istore_n 1, 1) := by decide +kernel
theorem dX4_depth_50 : decode cX4_depth 50 = .ok (.iinc 2 1, 3) := by decide +kernel
theorem dX4_depth_53 : decode cX4_depth 53 = .ok (.goto (-49), 3) := by decide +kernel
theorem dX4_depth_56 : decode cX4_depth 56 = .ok (.iload_n 1, 1) := by decide +kernel
theorem dX4_depth_57 : decode cX4_depth 57 = .ok (.ireturn, 1) := by decide +kernel
theorem dX5_partAlike_0 : decode cX5_partAlike 0 = .ok (.aload_n 0, 1) := by decide +kernel
theorem dX5_partAlike_1 : decode cX5_partAlike 1 = .ok (.invokevirtual 9, 3) := by decide +kernel
theorem dX5_partAlike_4 : decode cX5_partAlike 4 = .ok (.istore_n 3, 1) := by decide +kernel
theorem dX5_partAlike_5 : decode cX5_partAlike 5 = .ok (.iload_n 3, 1) := by decide +kernel
theorem dX5_partAlike_6 : decode cX5_partAlike 6 = .ok (.bipush (-9), 2) := by decide +kernel
theorem dX5_partAlike_8 : decode cX5_partAlike 8 = .ok (.if_icmp .ne 8, 3) := by decide +kernel
theorem dX5_partAlike_11 : decode cX5_partAlike 11 = .ok (.bipush (-9), 2) := by decide +kernel
theorem dX5_partAlike_13 : decode cX5_partAlike 13 = .ok (.goto 9, 3) := by decide +kernel
theorem dX5_partAlike_16 : decode cX5_partAlike 16 = .ok (.aload_n 0, 1) := by decide +kernel
theorem dX5_partAlike_17 : decode cX5_partAlike 17 = .ok (.iload_n 2, 1) := by decide +kernel
theorem dX5_partAlike_18 : decode cX5_partAlike 18 = .ok (.iload_n 3, 1) := by decide +kernel
theorem dX5_partAlike_19 : decode cX5_partAlike 19 = .ok (.invokevirtual 15, 3) := by decide +kernel
theorem dX5_partAlike_22 : decode cX5_partAlike 22 = .ok (.istore 4, 2) := by decide +kernel
theorem dX5_partAlike_24 : decode cX5_partAlike 24 = .ok (.iload 4, 2) := by decide +kernel
theorem dX5_partAlike_26 : decode cX5_partAlike 26 = .ok (.ifCond .ge 4, 3) := by decide +kernel
theorem dX5_partAlike_29 : decode cX5_partAlike 29 = .ok (.return_, 1) := by decide +kernel
theorem dX5_partAlike_30 : decode cX5_partAlike 30 = .ok (.iload 4, 2) := by decide +kernel
theorem dX5_partAlike_32 : decode cX5_partAlike 32 = .ok (.bipush 10, 2) := by decide +kernel
theorem dX5_partAlike_34 : decode cX5_partAlike 34 = .ok (.if_icmp .ge 7, 3) := by decide +kernel
theorem dX5_partAlike_37 : decode cX5_partAlike 37 = .ok (.iconst 1, 1) := by decide +kernel
theorem dX5_partAlike_38 : decode cX5_partAlike 38 = .ok (.goto 4, 3) := by decide +kernel
theorem dX5_partAlike_41 : decode cX5_partAlike 41 = .ok (.iconst 0, 1) := by decide +kernel
theorem dX5_partAlike_42 : decode cX5_partAlike 42 = .ok (.istore 5, 2) := by decide +kernel
theorem dX5_partAlike_44 : decode cX5_partAlike 44 = .ok (.iload 5, 2) := by decide +kernel
theorem dX5_partAlike_46 : decode cX5_partAlike 46 = .ok (.ifCond .eq 7, 3) := by decide +kernel
theorem dX5_partAlike_49 : decode cX5_partAlike 49 = .ok (.iload_n 2, 1) := by decide +kernel
theorem dX5_partAlike_50 : decode cX5_partAlike 50 = .ok (.goto 6, 3) := by decide +kernel
theorem dX5_partAlike_53 : decode cX5_partAlike 53 = .ok (.iconst 1, 1) := by decide +kernel
theorem dX5_partAlike_54 : decode cX5_partAlike 54 = .ok (.iload_n 2, 1) := by decide +kernel
theorem dX5_partAlike_55 : decode cX5_partAlike 55 = .ok (.isub, 1) := by decide +kernel
theorem dX5_partAlike_56 : decode cX5_partAlike 56 = .ok (.istore 6, 2) := by decide +kernel
theorem dX5_partAlike_58 : decode cX5_partAlike 58 = .ok (.aload_n 1, 1) := by decide +kernel
theorem dX5_partAlike_59 : decode cX5_partAlike 59 = .ok (.invokevirtual 19, 3) := by decide +kernel
theorem dX5_partAlike_62 : decode cX5_partAlike 62 = .ok (.istore 7, 2) := by decide +kernel
theorem dX5_partAlike_64 : decode cX5_partAlike 64 = .ok (.iload 5, 2) := by decide +kernel
theorem dX5_partAlike_66 : decode cX5_partAlike 66 = .ok (.ifCond .ne 12, 3) := by decide +kernel
theorem dX5_partAlike_69 : decode cX5_partAlike 69 = .ok (.aload_n 1, 1) := by decide +kernel
theorem dX5_partAlike_70 : decode cX5_partAlike 70 = .ok (.bipush 45, 2) := by decide +kernel
theorem dX5_partAlike_72 : decode cX5_partAlike 72 = .ok (.iconst 0, 1) := by decide +kernel
theorem dX5_partAlike_73 : decode cX5_partAlike 73 = .ok (.iconst 0, 1) := by decide +kernel
theorem dX5_partAlike_74 : decode cX5_partAlike 74 = .ok (.invokevirtual 24, 3) := by decide +kernel
theorem dX5_partAlike_77 : decode cX5_partAlike 77 = .ok (.pop, 1) := by decide +kernel
theorem dX5_partAlike_78 : decode cX5_partAlike 78 = .ok (.aload_n 1, 1) := by decide +kernel
theorem dX5_partAlike_79 : decode cX5_partAlike 79 = .ok (.bipush 63, 2) := by decide +kernel
theorem dX5_partAlike_81 : decode cX5_partAlike 81 = .ok (.aload_n 0, 1) := by decide +kernel
theorem dX5_partAlike_82 : decode cX5_partAlike 82 = .ok (.invokevirtual 28, 3) := by decide +kernel
theorem dX5_partAlike_85 : decode cX5_partAlike 85 = .ok (.iconst 1, 1) := by decide +kernel
theorem dX5_partAlike_86 : decode cX5_partAlike 86 = .ok (.iadd, 1) := by decide +kernel
theorem dX5_partAlike_87 : decode cX5_partAlike 87 = .ok (.iconst 0, 1) := by decide +kernel
theorem dX5_partAlike_88 : decode cX5_partAlike 88 = .ok (.invokevirtual 24, 3) := by decide +kernel
theorem dX5_partAlike_91 : decode cX5_partAlike 91 = .ok (.istore 8, 2) := by decide +kernel
theorem dX5_partAlike_93 : decode cX5_partAlike 93 = .ok (.aload_n 0, 1) := by decide +kernel
theorem dX5_partAlike_94 : decode cX5_partAlike 94 = .ok (.aload_n 1, 1) := by decide +kernel
theorem dX5_partAlike_95 : decode cX5_partAlike 95 = .ok (.iload 6, 2) := by decide +kernel
theorem dX5_partAlike_97 : decode cX5_partAlike 97 = .ok (.iload 5, 2) := by decide +kernel
theorem dX5_partAlike_99 : decode cX5_partAlike 99 = .ok (.ifCond .eq 8, 3) := by decide +kernel
theorem dX5_partAlike_102 : decode cX5_partAlike 102 = .ok (.iload 4, 2) := by decide +kernel
theorem dX5_partAlike_104 : decode cX5_partAlike 104 = .ok (.goto 8, 3) := by decide +kernel
theorem dX5_partAlike_107 : decode cX5_partAlike 107 = .ok (.iload 4, 2) := by decide +kernel
theorem dX5_partAlike_109 : decode cX5_partAlike 109 = .ok (.bipush 10, 2) := by decide +kernel
theorem dX5_partAlike_111 : decode cX5_partAlike 111 = .ok (.isub, 1) := by decide +kernel
theorem dX5_partAlike_112 : decode cX5_partAlike 112 = .ok (.invokestatic 31, 3) := by decide +kernel
theorem dX5_partAlike_115 : decode cX5_partAlike 115 = .ok (.aload_n 1, 1) := by decide +kernel
theorem dX5_partAlike_116 : decode cX5_partAlike 116 = .ok (.iload 8, 2) := by decide +kernel
theorem dX5_partAlike_118 : decode cX5_partAlike 118 = .ok (.invokevirtual 37, 3) := by decide +kernel
theorem dX5_partAlike_121 : decode cX5_partAlike 121 = .ok (.aload_n 1, 1) := by decide +kernel
theorem dX5_partAlike_122 : decode cX5_partAlike 122 = .ok (.iload 7, 2) := by decide +kernel
theorem dX5_partAlike_124 : decode cX5_partAlike 124 = .ok (.invokevirtual 37, 3) := by decide +kernel
theorem dX5_partAlike_127 : decode cX5_partAlike 127 = .ok (.return_, 1) := by decide +kernel
theorem dX5_partReplies_0 : decode cX5_partReplies 0 = .ok (.aload_n 1, 1) := by decide +kernel
theorem dX5_partReplies_1 : decode cX5_partReplies 1 = .ok (.bipush 38, 2) := by decide +kernel
theorem dX5_partReplies_3 : decode cX5_partReplies 3 = .ok (.iconst 0, 1) := by decide +kernel
theorem dX5_partReplies_4 : decode cX5_partReplies 4 = .ok (.iconst 0, 1) := by decide +kernel
theorem dX5_partReplies_5 : decode cX5_partReplies 5 = .ok (.invokevirtual 24, 3) := by decide +kernel
theorem dX5_partReplies_8 : decode cX5_partReplies 8 = .ok (.istore 4, 2) := by decide +kernel
theorem dX5_partReplies_10 : decode cX5_partReplies 10 = .ok (.iconst 0, 1) := by decide +kernel
theorem dX5_partReplies_11 : decode cX5_partReplies 11 = .ok (.istore 5, 2) := by decide +kernel
theorem dX5_partReplies_13 : decode cX5_partReplies 13 = .ok (.aload_n 0, 1) := by decide +kernel
theorem dX5_partReplies_14 : decode cX5_partReplies 14 = .ok (.iconst 1, 1) := by decide +kernel
theorem dX5_partReplies_15 : decode cX5_partReplies 15 = .ok (.iload_n 2, 1) := by decide +kernel
theorem dX5_partReplies_16 : decode cX5_partReplies 16 = .ok (.isub, 1) := by decide +kernel
theorem dX5_partReplies_17 : decode cX5_partReplies 17 = .ok (.invokevirtual 41, 3) := by decide +kernel
theorem dX5_partReplies_20 : decode cX5_partReplies 20 = .ok (.invokevirtual 45, 3) := by decide +kernel
theorem dX5_partReplies_23 : decode cX5_partReplies 23 = .ok (.istore 6, 2) := by decide +kernel
theorem dX5_partReplies_25 : decode cX5_partReplies 25 = .ok (.iconst 0, 1) := by decide +kernel
theorem dX5_partReplies_26 : decode cX5_partReplies 26 = .ok (.istore 7, 2) := by decide +kernel
theorem dX5_partReplies_28 : decode cX5_partReplies 28 = .ok (.iload 7, 2) := by decide +kernel
theorem dX5_partReplies_30 : decode cX5_partReplies 30 = .ok (.iload 6, 2) := by decide +kernel
theorem dX5_partReplies_32 : decode cX5_partReplies 32 = .ok (.if_icmp .ge 99, 3) := by decide +kernel
theorem dX5_partReplies_35 : decode cX5_partReplies 35 = .ok (.aload_n 1, 1) := by decide +kernel
theorem dX5_partReplies_36 : decode cX5_partReplies 36 = .ok (.invokevirtual 19, 3) := by decide +kernel
theorem dX5_partReplies_39 : decode cX5_partReplies 39 = .ok (.istore 8, 2) := by decide +kernel
theorem dX5_partReplies_41 : decode cX5_partReplies 41 = .ok (.aload_n 0, 1) := by decide +kernel
theorem dX5_partReplies_42 : decode cX5_partReplies 42 = .ok (.iload_n 2, 1) := by decide +kernel
theorem dX5_partReplies_43 : decode cX5_partReplies 43 = .ok (.iload_n 3, 1) := by decide +kernel
theorem dX5_partReplies_44 : decode cX5_partReplies 44 = .ok (.iload 7, 2) := by decide +kernel
theorem dX5_partReplies_46 : decode cX5_partReplies 46 = .ok (.invokevirtual 50, 3) := by decide +kernel
theorem dX5_partReplies_49 : decode cX5_partReplies 49 = .ok (.istore 9, 2) := by decide +kernel
theorem dX5_partReplies_51 : decode cX5_partReplies 51 = .ok (.aload_n 0, 1) := by decide +kernel
theorem dX5_partReplies_52 : decode cX5_partReplies 52 = .ok (.iload_n 2, 1) := by decide +kernel
theorem dX5_partReplies_53 : decode cX5_partReplies 53 = .ok (.iload_n 3, 1) := by decide +kernel
theorem dX5_partReplies_54 : decode cX5_partReplies 54 = .ok (.iload 7, 2) := by decide +kernel
theorem dX5_partReplies_56 : decode cX5_partReplies 56 = .ok (.invokevirtual 54, 3) := by decide +kernel
theorem dX5_partReplies_59 : decode cX5_partReplies 59 = .ok (.istore 10, 2) := by decide +kernel
theorem dX5_partReplies_61 : decode cX5_partReplies 61 = .ok (.iload 10, 2) := by decide +kernel
theorem dX5_partReplies_63 : decode cX5_partReplies 63 = .ok (.ifCond .eq 17, 3) := by decide +kernel
theorem dX5_partReplies_66 : decode cX5_partReplies 66 = .ok (.iload 9, 2) := by decide +kernel
theorem dX5_partReplies_68 : decode cX5_partReplies 68 = .ok (.ifCond .eq 12, 3) := by decide +kernel
theorem dX5_partReplies_71 : decode cX5_partReplies 71 = .ok (.aload_n 0, 1) := by decide +kernel
theorem dX5_partReplies_72 : decode cX5_partReplies 72 = .ok (.aload_n 1, 1) := by decide +kernel
theorem dX5_partReplies_73 : decode cX5_partReplies 73 = .ok (.iload_n 2, 1) := by decide +kernel
theorem dX5_partReplies_74 : decode cX5_partReplies 74 = .ok (.invokestatic 57, 3) := by decide +kernel
theorem dX5_partReplies_77 : decode cX5_partReplies 77 = .ok (.goto 14, 3) := by decide +kernel
theorem dX5_partReplies_80 : decode cX5_partReplies 80 = .ok (.iload 10, 2) := by decide +kernel
theorem dX5_partReplies_82 : decode cX5_partReplies 82 = .ok (.ifCond .eq 9, 3) := by decide +kernel
theorem dX5_partReplies_85 : decode cX5_partReplies 85 = .ok (.aload_n 0, 1) := by decide +kernel
theorem dX5_partReplies_86 : decode cX5_partReplies 86 = .ok (.aload_n 1, 1) := by decide +kernel
theorem dX5_partReplies_87 : decode cX5_partReplies 87 = .ok (.iload_n 2, 1) := by decide +kernel
theorem dX5_partReplies_88 : decode cX5_partReplies 88 = .ok (.invokestatic 61, 3) := by decide +kernel
theorem dX5_partReplies_91 : decode cX5_partReplies 91 = .ok (.iload 10, 2) := by decide +kernel
theorem dX5_partReplies_93 : decode cX5_partReplies 93 = .ok (.ifCond .eq 7, 3) := by decide +kernel
theorem dX5_partReplies_96 : decode cX5_partReplies 96 = .ok (.aload_n 0, 1) := by decide +kernel
theorem dX5_partReplies_97 : decode cX5_partReplies 97 = .ok (.invokevirtual 64, 3) := by decide +kernel
theorem dX5_partReplies_100 : decode cX5_partReplies 100 = .ok (.aload_n 1, 1) := by decide +kernel
theorem dX5_partReplies_101 : decode cX5_partReplies 101 = .ok (.iload 4, 2) := by decide +kernel
theorem dX5_partReplies_103 : decode cX5_partReplies 103 = .ok (.iconst 1, 1) := by decide +kernel
theorem dX5_partReplies_104 : decode cX5_partReplies 104 = .ok (.iadd, 1) := by decide +kernel
theorem dX5_partReplies_105 : decode cX5_partReplies 105 = .ok (.iload 8, 2) := by decide +kernel
theorem dX5_partReplies_107 : decode cX5_partReplies 107 = .ok (.invokevirtual 67, 3) := by decide +kernel
theorem dX5_partReplies_110 : decode cX5_partReplies 110 = .ok (.ifCond .eq 12, 3) := by decide +kernel
theorem dX5_partReplies_113 : decode cX5_partReplies 113 = .ok (.aload_n 1, 1) := by decide +kernel
theorem dX5_partReplies_114 : decode cX5_partReplies 114 = .ok (.iload 8, 2) := by decide +kernel
theorem dX5_partReplies_116 : decode cX5_partReplies 116 = .ok (.invokevirtual 71, 3) := by decide +kernel
theorem dX5_partReplies_119 : decode cX5_partReplies 119 = .ok (.goto 6, 3) := by decide +kernel
theorem dX5_partReplies_122 : decode cX5_partReplies 122 = .ok (.iinc 5 1, 3) := by decide +kernel
theorem dX5_partReplies_125 : decode cX5_partReplies 125 = .ok (.iinc 7 1, 3) := by decide +kernel
theorem dX5_partReplies_128 : decode cX5_partReplies 128 = .ok (.goto (-100), 3) := by decide +kernel
theorem dX5_partReplies_131 : decode cX5_partReplies 131 = .ok (.iload 5, 2) := by decide +kernel
theorem dX5_partReplies_133 : decode cX5_partReplies 133 = .ok (.iconst 1, 1) := by decide +kernel
theorem dX5_partReplies_134 : decode cX5_partReplies 134 = .ok (.if_icmp .ne 12, 3) := by decide +kernel
theorem dX5_partReplies_137 : decode cX5_partReplies 137 = .ok (.aload_n 1, 1) := by decide +kernel
theorem dX5_partReplies_138 : decode cX5_partReplies 138 = .ok (.iload 4, 2) := by decide +kernel
theorem dX5_partReplies_140 : decode cX5_partReplies 140 = .ok (.invokevirtual 74, 3) := by decide +kernel
theorem dX5_partReplies_143 : decode cX5_partReplies 143 = .ok (.goto 9, 3) := by decide +kernel
theorem dX5_partReplies_146 : decode cX5_partReplies 146 = .ok (.aload_n 1, 1) := by decide +kernel
theorem dX5_partReplies_147 : decode cX5_partReplies 147 = .ok (.iload 4, 2) := by decide +kernel
theorem dX5_partReplies_149 : decode cX5_partReplies 149 = .ok (.invokevirtual 37, 3) := by decide +kernel
theorem dX5_partReplies_152 : decode cX5_partReplies 152 = .ok (.return_, 1) := by decide +kernel
theorem dX5_partByAtom_0 : decode cX5_partByAtom 0 = .ok (.aload_n 0, 1) := by decide +kernel
theorem dX5_partByAtom_1 : decode cX5_partByAtom 1 = .ok (.invokevirtual 28, 3) := by decide +kernel
theorem dX5_partByAtom_4 : decode cX5_partByAtom 4 = .ok (.istore_n 3, 1) := by decide +kernel
theorem dX5_partByAtom_5 : decode cX5_partByAtom 5 = .ok (.iconst 0, 1) := by decide +kernel
theorem dX5_partByAtom_6 : decode cX5_partByAtom 6 = .ok (.istore 4, 2) := by decide +kernel
theorem dX5_partByAtom_8 : decode cX5_partByAtom 8 = .ok (.iconst 1, 1) := by decide +kernel
theorem dX5_partByAtom_9 : decode cX5_partByAtom 9 = .ok (.istore 5, 2) := by decide +kernel
theorem dX5_partByAtom_11 : decode cX5_partByAtom 11 = .ok (.iload 5, 2) := by decide +kernel
theorem dX5_partByAtom_13 : decode cX5_partByAtom 13 = .ok (.iload_n 3, 1) := by decide +kernel
theorem dX5_partByAtom_14 : decode cX5_partByAtom 14 = .ok (.if_icmp .ge 27, 3) := by decide +kernel
theorem dX5_partByAtom_17 : decode cX5_partByAtom 17 = .ok (.iload 4, 2) := by decide +kernel
theorem dX5_partByAtom_19 : decode cX5_partByAtom 19 = .ok (.ifCond .ne 22, 3) := by decide +kernel
theorem dX5_partByAtom_22 : decode cX5_partByAtom 22 = .ok (.aload_n 0, 1) := by decide +kernel
theorem dX5_partByAtom_23 : decode cX5_partByAtom 23 = .ok (.aload_n 1, 1) := by decide +kernel
theorem dX5_partByAtom_24 : decode cX5_partByAtom 24 = .ok (.iload_n 2, 1) := by decide +kernel
theorem dX5_partByAtom_25 : decode cX5_partByAtom 25 = .ok (.bipush 61, 2) := by decide +kernel
theorem dX5_partByAtom_27 : decode cX5_partByAtom 27 = .ok (.iload 5, 2) := by decide +kernel
theorem dX5_partByAtom_29 : decode cX5_partByAtom 29 = .ok (.iload_n 3, 1) := by decide +kernel
theorem dX5_partByAtom_30 : decode cX5_partByAtom 30 = .ok (.invokestatic 77, 3) := by decide +kernel
theorem dX5_partByAtom_33 : decode cX5_partByAtom 33 = .ok (.istore 4, 2) := by decide +kernel
theorem dX5_partByAtom_35 : decode cX5_partByAtom 35 = .ok (.iinc 5 1, 3) := by decide +kernel
theorem dX5_partByAtom_38 : decode cX5_partByAtom 38 = .ok (.goto (-27), 3) := by decide +kernel
theorem dX5_partByAtom_41 : decode cX5_partByAtom 41 = .ok (.iload 4, 2) := by decide +kernel
theorem dX5_partByAtom_43 : decode cX5_partByAtom 43 = .ok (.ifCond .ne 16, 3) := by decide +kernel
theorem dX5_partByAtom_46 : decode cX5_partByAtom 46 = .ok (.aload_n 0, 1) := by decide +kernel
theorem dX5_partByAtom_47 : decode cX5_partByAtom 47 = .ok (.aload_n 1, 1) := by decide +kernel
theorem dX5_partByAtom_48 : decode cX5_partByAtom 48 = .ok (.iload_n 2, 1) := by decide +kernel
theorem dX5_partByAtom_49 : decode cX5_partByAtom 49 = .ok (.bipush 65, 2) := by decide +kernel
theorem dX5_partByAtom_51 : decode cX5_partByAtom 51 = .ok (.iload_n 3, 1) := by decide +kernel
theorem dX5_partByAtom_52 : decode cX5_partByAtom 52 = .ok (.iconst 0, 1) := by decide +kernel
theorem dX5_partByAtom_53 : decode cX5_partByAtom 53 = .ok (.invokestatic 77, 3) := by decide +kernel
theorem dX5_partByAtom_56 : decode cX5_partByAtom 56 = .ok (.ifCond .eq 7, 3) := by decide +kernel
theorem dX5_partByAtom_59 : decode cX5_partByAtom 59 = .ok (.iconst 1, 1) := by decide +kernel
theorem dX5_partByAtom_60 : decode cX5_partByAtom 60 = .ok (.goto 4, 3) := by decide +kernel
theorem dX5_partByAtom_63 : decode cX5_partByAtom 63 = .ok (.iconst 0, 1) := by decide +kernel
theorem dX5_partByAtom_64 : decode cX5_partByAtom 64 = .ok (.istore 4, 2) := by decide +kernel
theorem dX5_partByAtom_66 : decode cX5_partByAtom 66 = .ok (.iload 4, 2) := by decide +kernel
theorem dX5_partByAtom_68 : decode cX5_partByAtom 68 = .ok (.ifCond .ne 16, 3) := by decide +kernel
theorem dX5_partByAtom_71 : decode cX5_partByAtom 71 = .ok (.aload_n 0, 1) := by decide +kernel
theorem dX5_partByAtom_72 : decode cX5_partByAtom 72 = .ok (.aload_n 1, 1) := by decide +kernel
theorem dX5_partByAtom_73 : decode cX5_partByAtom 73 = .ok (.iload_n 2, 1) := by decide +kernel
theorem dX5_partByAtom_74 : decode cX5_partByAtom 74 = .ok (.bipush 66, 2) := by decide +kernel
theorem dX5_partByAtom_76 : decode cX5_partByAtom 76 = .ok (.iload_n 3, 1) := by decide +kernel
theorem dX5_partByAtom_77 : decode cX5_partByAtom 77 = .ok (.iconst 0, 1) := by decide +kernel
theorem dX5_partByAtom_78 : decode cX5_partByAtom 78 = .ok (.invokestatic 77, 3) := by decide +kernel
theorem dX5_partByAtom_81 : decode cX5_partByAtom 81 = .ok (.ifCond .eq 7, 3) := by decide +kernel
theorem dX5_partByAtom_84 : decode cX5_partByAtom 84 = .ok (.iconst 1, 1) := by decide +kernel
theorem dX5_partByAtom_85 : decode cX5_partByAtom 85 = .ok (.goto 4, 3) := by decide +kernel
theorem dX5_partByAtom_88 : decode cX5_partByAtom 88 = .ok (.iconst 0, 1) := by decide +kernel
theorem dX5_partByAtom_89 : decode cX5_partByAtom 89 = .ok (.istore 4, 2) := by decide +kernel
theorem dX5_partByAtom_91 : decode cX5_partByAtom 91 = .ok (.iconst 1, 1) := by decide +kernel
theorem dX5_partByAtom_92 : decode cX5_partByAtom 92 = .ok (.istore 5, 2) := by decide +kernel
theorem dX5_partByAtom_94 : decode cX5_partByAtom 94 = .ok (.iload 5, 2) := by decide +kernel
theorem dX5_partByAtom_96 : decode cX5_partByAtom 96 = .ok (.iload_n 3, 1) := by decide +kernel
theorem dX5_partByAtom_97 : decode cX5_partByAtom 97 = .ok (.if_icmp .gt 49, 3) := by decide +kernel
theorem dX5_partByAtom_100 : decode cX5_partByAtom 100 = .ok (.iload 4, 2) := by decide +kernel
theorem dX5_partByAtom_102 : decode cX5_partByAtom 102 = .ok (.ifCond .ne 44, 3) := by decide +kernel
theorem dX5_partByAtom_105 : decode cX5_partByAtom 105 = .ok (.aload_n 0, 1) := by decide +kernel
theorem dX5_partByAtom_106 : decode cX5_partByAtom 106 = .ok (.aload_n 1, 1) := by decide +kernel
theorem dX5_partByAtom_107 : decode cX5_partByAtom 107 = .ok (.iload_n 2, 1) := by decide +kernel
theorem dX5_partByAtom_108 : decode cX5_partByAtom 108 = .ok (.bipush 69, 2) := by decide +kernel
theorem dX5_partByAtom_110 : decode cX5_partByAtom 110 = .ok (.iload 5, 2) := by decide +kernel
theorem dX5_partByAtom_112 : decode cX5_partByAtom 112 = .ok (.iload_n 3, 1) := by decide +kernel
theorem dX5_partByAtom_113 : decode cX5_partByAtom 113 = .ok (.invokestatic 77, 3) := by decide +kernel
theorem dX5_partByAtom_116 : decode cX5_partByAtom 116 = .ok (.ifCond .ne 17, 3) := by decide +kernel
theorem dX5_partByAtom_119 : decode cX5_partByAtom 119 = .ok (.aload_n 0, 1) := by decide +kernel
theorem dX5_partByAtom_120 : decode cX5_partByAtom 120 = .ok (.aload_n 1, 1) := by decide +kernel
theorem dX5_partByAtom_121 : decode cX5_partByAtom 121 = .ok (.iload_n 2, 1) := by decide +kernel
theorem dX5_partByAtom_122 : decode cX5_partByAtom 122 = .ok (.bipush 69, 2) := by decide +kernel
theorem dX5_partByAtom_124 : decode cX5_partByAtom 124 = .ok (.iload_n 3, 1) := by decide +kernel
theorem dX5_partByAtom_125 : decode cX5_partByAtom 125 = .ok (.iload 5, 2) := by decide +kernel
theorem dX5_partByAtom_127 : decode cX5_partByAtom 127 = .ok (.invokestatic 77, 3) := by decide +kernel
theorem dX5_partByAtom_130 : decode cX5_partByAtom 130 = .ok (.ifCond .eq 7, 3) := by decide +kernel
theorem dX5_partByAtom_133 : decode cX5_partByAtom 133 = .ok (.iconst 1, 1) := by decide +kernel
theorem dX5_partByAtom_134 : decode cX5_partByAtom 134 = .ok (.goto 4, 3) := by decide +kernel
theorem dX5_partByAtom_137 : decode cX5_partByAtom 137 = .ok (.iconst 0, 1) := by decide +kernel
theorem dX5_partByAtom_138 : decode cX5_partByAtom 138 = .ok (.istore 4, 2) := by decide +kernel
theorem dX5_partByAtom_140 : decode cX5_partByAtom 140 = .ok (.iinc 5 1, 3) := by decide +kernel
theorem dX5_partByAtom_143 : decode cX5_partByAtom 143 = .ok (.goto (-49), 3) := by decide +kernel
theorem dX5_partByAtom_146 : decode cX5_partByAtom 146 = .ok (.return_, 1) := by decide +kernel
theorem dX5_addIfParting_0 : decode cX5_addIfParting 0 = .ok (.aload_n 0, 1) := by decide +kernel
theorem dX5_addIfParting_1 : decode cX5_addIfParting 1 = .ok (.iload_n 2, 1) := by decide +kernel
theorem dX5_addIfParting_2 : decode cX5_addIfParting 2 = .ok (.invokevirtual 41, 3) := by decide +kernel
theorem dX5_addIfParting_5 : decode cX5_addIfParting 5 = .ok (.iload_n 3, 1) := by decide +kernel
theorem dX5_addIfParting_6 : decode cX5_addIfParting 6 = .ok (.aload_n 0, 1) := by decide +kernel
theorem dX5_addIfParting_7 : decode cX5_addIfParting 7 = .ok (.iload_n 2, 1) := by decide +kernel
theorem dX5_addIfParting_8 : decode cX5_addIfParting 8 = .ok (.iload 4, 2) := by decide +kernel
theorem dX5_addIfParting_10 : decode cX5_addIfParting 10 = .ok (.iconst 1, 1) := by decide +kernel
theorem dX5_addIfParting_11 : decode cX5_addIfParting 11 = .ok (.isub, 1) := by decide +kernel
theorem dX5_addIfParting_12 : decode cX5_addIfParting 12 = .ok (.invokevirtual 81, 3) := by decide +kernel
theorem dX5_addIfParting_15 : decode cX5_addIfParting 15 = .ok (.aload_n 0, 1) := by decide +kernel
theorem dX5_addIfParting_16 : decode cX5_addIfParting 16 = .ok (.iload_n 2, 1) := by decide +kernel
theorem dX5_addIfParting_17 : decode cX5_addIfParting 17 = .ok (.iload 5, 2) := by decide +kernel
theorem dX5_addIfParting_19 : decode cX5_addIfParting 19 = .ok (.iconst 1, 1) := by decide +kernel
theorem dX5_addIfParting_20 : decode cX5_addIfParting 20 = .ok (.isub, 1) := by decide +kernel
theorem dX5_addIfParting_21 : decode cX5_addIfParting 21 = .ok (.invokevirtual 81, 3) := by decide +kernel
theorem dX5_addIfParting_24 : decode cX5_addIfParting 24 = .ok (.invokevirtual 84, 3) := by decide +kernel
theorem dX5_addIfParting_27 : decode cX5_addIfParting 27 = .ok (.istore 6, 2) := by decide +kernel
theorem dX5_addIfParting_29 : decode cX5_addIfParting 29 = .ok (.aload_n 0, 1) := by decide +kernel
theorem dX5_addIfParting_30 : decode cX5_addIfParting 30 = .ok (.iconst 1, 1) := by decide +kernel
theorem dX5_addIfParting_31 : decode cX5_addIfParting 31 = .ok (.iload_n 2, 1) := by decide +kernel
theorem dX5_addIfParting_32 : decode cX5_addIfParting 32 = .ok (.isub, 1) := by decide +kernel
theorem dX5_addIfParting_33 : decode cX5_addIfParting 33 = .ok (.invokevirtual 41, 3) := by decide +kernel
theorem dX5_addIfParting_36 : decode cX5_addIfParting 36 = .ok (.iload_n 3, 1) := by decide +kernel
theorem dX5_addIfParting_37 : decode cX5_addIfParting 37 = .ok (.aload_n 0, 1) := by decide +kernel
theorem dX5_addIfParting_38 : decode cX5_addIfParting 38 = .ok (.iconst 1, 1) := by decide +kernel
theorem dX5_addIfParting_39 : decode cX5_addIfParting 39 = .ok (.iload_n 2, 1) := by decide +kernel
theorem dX5_addIfParting_40 : decode cX5_addIfParting 40 = .ok (.isub, 1) := by decide +kernel
theorem dX5_addIfParting_41 : decode cX5_addIfParting 41 = .ok (.iload 4, 2) := by decide +kernel
theorem dX5_addIfParting_43 : decode cX5_addIfParting 43 = .ok (.iconst 1, 1) := by decide +kernel
theorem dX5_addIfParting_44 : decode cX5_addIfParting 44 = .ok (.isub, 1) := by decide +kernel
theorem dX5_addIfParting_45 : decode cX5_addIfParting 45 = .ok (.invokevirtual 81, 3) := by decide +kernel
theorem dX5_addIfParting_48 : decode cX5_addIfParting 48 = .ok (.aload_n 0, 1) := by decide +kernel
theorem dX5_addIfParting_49 : decode cX5_addIfParting 49 = .ok (.iconst 1, 1) := by decide +kernel
theorem dX5_addIfParting_50 : decode cX5_addIfParting 50 = .ok (.iload_n 2, 1) := by decide +kernel
theorem dX5_addIfParting_51 : decode cX5_addIfParting 51 = .ok (.isub, 1) := by decide +kernel
theorem dX5_addIfParting_52 : decode cX5_addIfParting 52 = .ok (.iload 5, 2) := by decide +kernel
theorem dX5_addIfParting_54 : decode cX5_addIfParting 54 = .ok (.iconst 1, 1) := by decide +kernel
theorem dX5_addIfParting_55 : decode cX5_addIfParting 55 = .ok (.isub, 1) := by decide +kernel
theorem dX5_addIfParting_56 : decode cX5_addIfParting 56 = .ok (.invokevirtual 81, 3) := by decide +kernel
theorem dX5_addIfParting_59 : decode cX5_addIfParting 59 = .ok (.invokevirtual 84, 3) := by decide +kernel
theorem dX5_addIfParting_62 : decode cX5_addIfParting 62 = .ok (.istore 7, 2) := by decide +kernel
theorem dX5_addIfParting_64 : decode cX5_addIfParting 64 = .ok (.iload 6, 2) := by decide +kernel
theorem dX5_addIfParting_66 : decode cX5_addIfParting 66 = .ok (.iload 7, 2) := by decide +kernel
theorem dX5_addIfParting_68 : decode cX5_addIfParting 68 = .ok (.if_icmp .ne 5, 3) := by decide +kernel
theorem dX5_addIfParting_71 : decode cX5_addIfParting 71 = .ok (.iconst 0, 1) := by decide +kernel
theorem dX5_addIfParting_72 : decode cX5_addIfParting 72 = .ok (.ireturn, 1) := by decide +kernel
theorem dX5_addIfParting_73 : decode cX5_addIfParting 73 = .ok (.aload_n 1, 1) := by decide +kernel
theorem dX5_addIfParting_74 : decode cX5_addIfParting 74 = .ok (.invokevirtual 19, 3) := by decide +kernel
theorem dX5_addIfParting_77 : decode cX5_addIfParting 77 = .ok (.istore 8, 2) := by decide +kernel
theorem dX5_addIfParting_79 : decode cX5_addIfParting 79 = .ok (.iload 6, 2) := by decide +kernel
theorem dX5_addIfParting_81 : decode cX5_addIfParting 81 = .ok (.ifCond .ne 12, 3) := by decide +kernel
theorem dX5_addIfParting_84 : decode cX5_addIfParting 84 = .ok (.aload_n 1, 1) := by decide +kernel
theorem dX5_addIfParting_85 : decode cX5_addIfParting 85 = .ok (.bipush 45, 2) := by decide +kernel
theorem dX5_addIfParting_87 : decode cX5_addIfParting 87 = .ok (.iconst 0, 1) := by decide +kernel
theorem dX5_addIfParting_88 : decode cX5_addIfParting 88 = .ok (.iconst 0, 1) := by decide +kernel
theorem dX5_addIfParting_89 : decode cX5_addIfParting 89 = .ok (.invokevirtual 24, 3) := by decide +kernel
theorem dX5_addIfParting_92 : decode cX5_addIfParting 92 = .ok (.pop, 1) := by decide +kernel
theorem dX5_addIfParting_93 : decode cX5_addIfParting 93 = .ok (.aload_n 1, 1) := by decide +kernel
theorem dX5_addIfParting_94 : decode cX5_addIfParting 94 = .ok (.iload_n 3, 1) := by decide +kernel
theorem dX5_addIfParting_95 : decode cX5_addIfParting 95 = .ok (.iload 4, 2) := by decide +kernel
theorem dX5_addIfParting_97 : decode cX5_addIfParting 97 = .ok (.iload 5, 2) := by decide +kernel
theorem dX5_addIfParting_99 : decode cX5_addIfParting 99 = .ok (.invokevirtual 24, 3) := by decide +kernel
theorem dX5_addIfParting_102 : decode cX5_addIfParting 102 = .ok (.pop, 1) := by decide +kernel
theorem dX5_addIfParting_103 : decode cX5_addIfParting 103 = .ok (.aload_n 1, 1) := by decide +kernel
theorem dX5_addIfParting_104 : decode cX5_addIfParting 104 = .ok (.iload 8, 2) := by decide +kernel
theorem dX5_addIfParting_106 : decode cX5_addIfParting 106 = .ok (.invokevirtual 37, 3) := by decide +kernel
theorem dX5_addIfParting_109 : decode cX5_addIfParting 109 = .ok (.iconst 1, 1) := by decide +kernel
theorem dX5_addIfParting_110 : decode cX5_addIfParting 110 = .ok (.ireturn, 1) := by decide +kernel
theorem dX6_init_0 : decode cX6_init 0 = .ok (.aload_n 0, 1) := by decide +kernel
theorem dX6_init_1 : decode cX6_init 1 = .ok (.invokespecial 3, 3) := by decide +kernel
theorem dX6_init_4 : decode cX6_init 4 = .ok (.aload_n 0, 1) := by decide +kernel
theorem dX6_init_5 : decode cX6_init 5 = .ok (.new 9, 3) := by decide +kernel
theorem dX6_init_8 : decode cX6_init 8 = .ok (.dup, 1) := by decide +kernel
theorem dX6_init_9 : decode cX6_init 9 = .ok (.invokespecial 11, 3) := by decide +kernel
theorem dX6_init_12 : decode cX6_init 12 = .ok (.putfield 12, 3) := by decide +kernel
theorem dX6_init_15 : decode cX6_init 15 = .ok (.aload_n 0, 1) := by decide +kernel
theorem dX6_init_16 : decode cX6_init 16 = .ok (.iconst 0, 1) := by decide +kernel
theorem dX6_init_17 : decode cX6_init 17 = .ok (.putfield 18, 3) := by decide +kernel
theorem dX6_init_20 : decode cX6_init 20 = .ok (.aload_n 0, 1) := by decide +kernel
theorem dX6_init_21 : decode cX6_init 21 = .ok (.iconst 0, 1) := by decide +kernel
theorem dX6_init_22 : decode cX6_init 22 = .ok (.putfield 22, 3) := by decide +kernel
theorem dX6_init_25 : decode cX6_init 25 = .ok (.aload_n 0, 1) := by decide +kernel
theorem dX6_init_26 : decode cX6_init 26 = .ok (.iconst 0, 1) := by decide +kernel
theorem dX6_init_27 : decode cX6_init 27 = .ok (.putfield 25, 3) := by decide +kernel
theorem dX6_init_30 : decode cX6_init 30 = .ok (.aload_n 0, 1) := by decide +kernel
theorem dX6_init_31 : decode cX6_init 31 = .ok (.iconst 0, 1) := by decide +kernel
theorem dX6_init_32 : decode cX6_init 32 = .ok (.putfield 28, 3) := by decide +kernel
theorem dX6_init_35 : decode cX6_init 35 = .ok (.return_, 1) := by decide +kernel
theorem dX6_begin_0 : decode cX6_begin 0 = .ok (.aload_n 0, 1) := by decide +kernel
theorem dX6_begin_1 : decode cX6_begin 1 = .ok (.getfield 12, 3) := by decide +kernel
theorem dX6_begin_4 : decode cX6_begin 4 = .ok (.aload_n 1, 1) := by decide +kernel
theorem dX6_begin_5 : decode cX6_begin 5 = .ok (.aload_n 2, 1) := by decide +kernel
theorem dX6_begin_6 : decode cX6_begin 6 = .ok (.invokevirtual 31, 3) := by decide +kernel
theorem dX6_begin_9 : decode cX6_begin 9 = .ok (.aload_n 0, 1) := by decide +kernel
theorem dX6_begin_10 : decode cX6_begin 10 = .ok (.iload_n 3, 1) := by decide +kernel
theorem dX6_begin_11 : decode cX6_begin 11 = .ok (.putfield 22, 3) := by decide +kernel
theorem dX6_begin_14 : decode cX6_begin 14 = .ok (.aload_n 0, 1) := by decide +kernel
theorem dX6_begin_15 : decode cX6_begin 15 = .ok (.iload_n 3, 1) := by decide +kernel
theorem dX6_begin_16 : decode cX6_begin 16 = .ok (.ifCond .ne 7, 3) := by decide +kernel
theorem dX6_begin_19 : decode cX6_begin 19 = .ok (.iconst 3, 1) := by decide +kernel
theorem dX6_begin_20 : decode cX6_begin 20 = .ok (.goto 4, 3) := by decide +kernel
theorem dX6_begin_23 : decode cX6_begin 23 = .ok (.iconst 1, 1) := by decide +kernel
theorem dX6_begin_24 : decode cX6_begin 24 = .ok (.putfield 18, 3) := by decide +kernel
theorem dX6_begin_27 : decode cX6_begin 27 = .ok (.return_, 1) := by decide +kernel
theorem dX6_stage_0 : decode cX6_stage 0 = .ok (.aload_n 0, 1) := by decide +kernel
theorem dX6_stage_1 : decode cX6_stage 1 = .ok (.getfield 18, 3) := by decide +kernel
theorem dX6_stage_4 : decode cX6_stage 4 = .ok (.ireturn, 1) := by decide +kernel
theorem dX6_roundsLeft_0 : decode cX6_roundsLeft 0 = .ok (.aload_n 0, 1) := by decide +kernel
theorem dX6_roundsLeft_1 : decode cX6_roundsLeft 1 = .ok (.getfield 22, 3) := by decide +kernel
theorem dX6_roundsLeft_4 : decode cX6_roundsLeft 4 = .ok (.ireturn, 1) := by decide +kernel
theorem dX6_seekerPicks_0 : decode cX6_seekerPicks 0 = .ok (.aload_n 0, 1) := by decide +kernel
theorem dX6_seekerPicks_1 : decode cX6_seekerPicks 1 = .ok (.getfield 18, 3) := by decide +kernel
theorem dX6_seekerPicks_4 : decode cX6_seekerPicks 4 = .ok (.iconst 1, 1) := by decide +kernel
theorem dX6_seekerPicks_5 : decode cX6_seekerPicks 5 = .ok (.if_icmp .eq 6, 3) := by decide +kernel
theorem dX6_seekerPicks_8 : decode cX6_seekerPicks 8 = .ok (.bipush (-3), 2) := by decide +kernel
theorem dX6_seekerPicks_10 : decode cX6_seekerPicks 10 = .ok (.ireturn, 1) := by decide +kernel
theorem dX6_seekerPicks_11 : decode cX6_seekerPicks 11 = .ok (.iload_n 1, 1) := by decide +kernel
theorem dX6_seekerPicks_12 : decode cX6_seekerPicks 12 = .ok (.ifCond .eq 8, 3) := by decide +kernel
theorem dX6_seekerPicks_15 : decode cX6_seekerPicks 15 = .ok (.iload_n 1, 1) := by decide +kernel
theorem dX6_seekerPicks_16 : decode cX6_seekerPicks 16 = .ok (.iconst 1, 1) := by decide +kernel
theorem dX6_seekerPicks_17 : decode cX6_seekerPicks 17 = .ok (.if_icmp .ne 18, 3) := by decide +kernel
theorem dX6_seekerPicks_20 : decode cX6_seekerPicks 20 = .ok (.aload_n 0, 1) := by decide +kernel
theorem dX6_seekerPicks_21 : decode cX6_seekerPicks 21 = .ok (.getfield 12, 3) := by decide +kernel
theorem dX6_seekerPicks_24 : decode cX6_seekerPicks 24 = .ok (.iload_n 1, 1) := by decide +kernel
theorem dX6_seekerPicks_25 : decode cX6_seekerPicks 25 = .ok (.invokevirtual 35, 3) := by decide +kernel
theorem dX6_seekerPicks_28 : decode cX6_seekerPicks 28 = .ok (.iload_n 2, 1) := by decide +kernel
theorem dX6_seekerPicks_29 : decode cX6_seekerPicks 29 = .ok (.invokevirtual 39, 3) := by decide +kernel
theorem dX6_seekerPicks_32 : decode cX6_seekerPicks 32 = .ok (.ifCond .ne 6, 3) := by decide +kernel
theorem dX6_seekerPicks_35 : decode cX6_seekerPicks 35 = .ok (.bipush (-2), 2) := by decide +kernel
theorem dX6_seekerPicks_37 : decode cX6_seekerPicks 37 = .ok (.ireturn, 1) := by decide +kernel
theorem dX6_seekerPicks_38 : decode cX6_seekerPicks 38 = .ok (.aload_n 0, 1) := by decide +kernel
theorem dX6_seekerPicks_39 : decode cX6_seekerPicks 39 = .ok (.iload_n 1, 1) := by decide +kernel
theorem dX6_seekerPicks_40 : decode cX6_seekerPicks 40 = .ok (.putfield 25, 3) := by decide +kernel
theorem dX6_seekerPicks_43 : decode cX6_seekerPicks 43 = .ok (.aload_n 0, 1) := by decide +kernel
theorem dX6_seekerPicks_44 : decode cX6_seekerPicks 44 = .ok (.iload_n 2, 1) := by decide +kernel
theorem dX6_seekerPicks_45 : decode cX6_seekerPicks 45 = .ok (.putfield 28, 3) := by decide +kernel
theorem dX6_seekerPicks_48 : decode cX6_seekerPicks 48 = .ok (.aload_n 0, 1) := by decide +kernel
theorem dX6_seekerPicks_49 : decode cX6_seekerPicks 49 = .ok (.iconst 2, 1) := by decide +kernel
theorem dX6_seekerPicks_50 : decode cX6_seekerPicks 50 = .ok (.putfield 18, 3) := by decide +kernel
theorem dX6_seekerPicks_53 : decode cX6_seekerPicks 53 = .ok (.iconst 1, 1) := by decide +kernel
theorem dX6_seekerPicks_54 : decode cX6_seekerPicks 54 = .ok (.ireturn, 1) := by decide +kernel
theorem dX6_keeperAnswers_0 : decode cX6_keeperAnswers 0 = .ok (.aload_n 0, 1) := by decide +kernel
theorem dX6_keeperAnswers_1 : decode cX6_keeperAnswers 1 = .ok (.getfield 18, 3) := by decide +kernel
theorem dX6_keeperAnswers_4 : decode cX6_keeperAnswers 4 = .ok (.iconst 2, 1) := by decide +kernel
theorem dX6_keeperAnswers_5 : decode cX6_keeperAnswers 5 = .ok (.if_icmp .eq 6, 3) := by decide +kernel
theorem dX6_keeperAnswers_8 : decode cX6_keeperAnswers 8 = .ok (.bipush (-3), 2) := by decide +kernel
theorem dX6_keeperAnswers_10 : decode cX6_keeperAnswers 10 = .ok (.ireturn, 1) := by decide +kernel
theorem dX6_keeperAnswers_11 : decode cX6_keeperAnswers 11 = .ok (.aload_n 0, 1) := by decide +kernel
theorem dX6_keeperAnswers_12 : decode cX6_keeperAnswers 12 = .ok (.getfield 12, 3) := by decide +kernel
theorem dX6_keeperAnswers_15 : decode cX6_keeperAnswers 15 = .ok (.iconst 1, 1) := by decide +kernel
theorem dX6_keeperAnswers_16 : decode cX6_keeperAnswers 16 = .ok (.aload_n 0, 1) := by decide +kernel
theorem dX6_keeperAnswers_17 : decode cX6_keeperAnswers 17 = .ok (.getfield 25, 3) := by decide +kernel
theorem dX6_keeperAnswers_20 : decode cX6_keeperAnswers 20 = .ok (.isub, 1) := by decide +kernel
theorem dX6_keeperAnswers_21 : decode cX6_keeperAnswers 21 = .ok (.invokevirtual 35, 3) := by decide +kernel
theorem dX6_keeperAnswers_24 : decode cX6_keeperAnswers 24 = .ok (.iload_n 1, 1) := by decide +kernel
theorem dX6_keeperAnswers_25 : decode cX6_keeperAnswers 25 = .ok (.invokevirtual 39, 3) := by decide +kernel
theorem dX6_keeperAnswers_28 : decode cX6_keeperAnswers 28 = .ok (.ifCond .ne 6, 3) := by decide +kernel
theorem dX6_keeperAnswers_31 : decode cX6_keeperAnswers 31 = .ok (.bipush (-2), 2) := by decide +kernel
theorem dX6_keeperAnswers_33 : decode cX6_keeperAnswers 33 = .ok (.ireturn, 1) := by decide +kernel
theorem dX6_keeperAnswers_34 : decode cX6_keeperAnswers 34 = .ok (.aload_n 0, 1) := by decide +kernel
theorem dX6_keeperAnswers_35 : decode cX6_keeperAnswers 35 = .ok (.getfield 12, 3) := by decide +kernel
theorem dX6_keeperAnswers_38 : decode cX6_keeperAnswers 38 = .ok (.aload_n 0, 1) := by decide +kernel
theorem dX6_keeperAnswers_39 : decode cX6_keeperAnswers 39 = .ok (.getfield 25, 3) := by decide +kernel
theorem dX6_keeperAnswers_42 : decode cX6_keeperAnswers 42 = .ok (.aload_n 0, 1) := by decide +kernel
theorem dX6_keeperAnswers_43 : decode cX6_keeperAnswers 43 = .ok (.getfield 28, 3) := by decide +kernel
theorem dX6_keeperAnswers_46 : decode cX6_keeperAnswers 46 = .ok (.iload_n 1, 1) := by decide +kernel
theorem dX6_keeperAnswers_47 : decode cX6_keeperAnswers 47 = .ok (.invokevirtual 45, 3) := by decide +kernel
theorem dX6_keeperAnswers_50 : decode cX6_keeperAnswers 50 = .ok (.istore_n 2, 1) := by decide +kernel
theorem dX6_keeperAnswers_51 : decode cX6_keeperAnswers 51 = .ok (.aload_n 0, 1) := by decide +kernel
theorem dX6_keeperAnswers_52 : decode cX6_keeperAnswers 52 = .ok (.getfield 12, 3) := by decide +kernel
theorem dX6_keeperAnswers_55 : decode cX6_keeperAnswers 55 = .ok (.aload_n 0, 1) := by decide +kernel
theorem dX6_keeperAnswers_56 : decode cX6_keeperAnswers 56 = .ok (.getfield 25, 3) := by decide +kernel
theorem dX6_keeperAnswers_59 : decode cX6_keeperAnswers 59 = .ok (.aload_n 0, 1) := by decide +kernel
theorem dX6_keeperAnswers_60 : decode cX6_keeperAnswers 60 = .ok (.getfield 28, 3) := by decide +kernel
theorem dX6_keeperAnswers_63 : decode cX6_keeperAnswers 63 = .ok (.iload_n 1, 1) := by decide +kernel
theorem dX6_keeperAnswers_64 : decode cX6_keeperAnswers 64 = .ok (.invokevirtual 49, 3) := by decide +kernel
theorem dX6_keeperAnswers_67 : decode cX6_keeperAnswers 67 = .ok (.pop, 1) := by decide +kernel
theorem dX6_keeperAnswers_68 : decode cX6_keeperAnswers 68 = .ok (.aload_n 0, 1) := by decide +kernel
theorem dX6_keeperAnswers_69 : decode cX6_keeperAnswers 69 = .ok (.dup, 1) := by decide +kernel
theorem dX6_keeperAnswers_70 : decode cX6_keeperAnswers 70 = .ok (.getfield 22, 3) := by decide +kernel
theorem dX6_keeperAnswers_73 : decode cX6_keeperAnswers 73 = .ok (.iconst 1, 1) := by decide +kernel
theorem dX6_keeperAnswers_74 : decode cX6_keeperAnswers 74 = .ok (.isub, 1) := by decide +kernel
theorem dX6_keeperAnswers_75 : decode cX6_keeperAnswers 75 = .ok (.putfield 22, 3) := by decide +kernel
theorem dX6_keeperAnswers_78 : decode cX6_keeperAnswers 78 = .ok (.iload_n 2, 1) := by decide +kernel
theorem dX6_keeperAnswers_79 : decode cX6_keeperAnswers 79 = .ok (.ifCond .ne 11, 3) := by decide +kernel
theorem dX6_keeperAnswers_82 : decode cX6_keeperAnswers 82 = .ok (.aload_n 0, 1) := by decide +kernel
theorem dX6_keeperAnswers_83 : decode cX6_keeperAnswers 83 = .ok (.iconst 4, 1) := by decide +kernel
theorem dX6_keeperAnswers_84 : decode cX6_keeperAnswers 84 = .ok (.putfield 18, 3) := by decide +kernel
theorem dX6_keeperAnswers_87 : decode cX6_keeperAnswers 87 = .ok (.goto 19, 3) := by decide +kernel
theorem dX6_keeperAnswers_90 : decode cX6_keeperAnswers 90 = .ok (.aload_n 0, 1) := by decide +kernel
theorem dX6_keeperAnswers_91 : decode cX6_keeperAnswers 91 = .ok (.aload_n 0, 1) := by decide +kernel
theorem dX6_keeperAnswers_92 : decode cX6_keeperAnswers 92 = .ok (.getfield 22, 3) := by decide +kernel
theorem dX6_keeperAnswers_95 : decode cX6_keeperAnswers 95 = .ok (.ifCond .ne 7, 3) := by decide +kernel
theorem dX6_keeperAnswers_98 : decode cX6_keeperAnswers 98 = .ok (.iconst 3, 1) := by decide +kernel
theorem dX6_keeperAnswers_99 : decode cX6_keeperAnswers 99 = .ok (.goto 4, 3) := by decide +kernel
theorem dX6_keeperAnswers_102 : decode cX6_keeperAnswers 102 = .ok (.iconst 1, 1) := by decide +kernel
theorem dX6_keeperAnswers_103 : decode cX6_keeperAnswers 103 = .ok (.putfield 18, 3) := by decide +kernel
theorem dX6_keeperAnswers_106 : decode cX6_keeperAnswers 106 = .ok (.iconst 1, 1) := by decide +kernel
theorem dX6_keeperAnswers_107 : decode cX6_keeperAnswers 107 = .ok (.ireturn, 1) := by decide +kernel
theorem dX6_bestMove_0 : decode cX6_bestMove 0 = .ok (.aload_n 0, 1) := by decide +kernel
theorem dX6_bestMove_1 : decode cX6_bestMove 1 = .ok (.getfield 18, 3) := by decide +kernel
theorem dX6_bestMove_4 : decode cX6_bestMove 4 = .ok (.iconst 1, 1) := by decide +kernel
theorem dX6_bestMove_5 : decode cX6_bestMove 5 = .ok (.if_icmp .ne 16, 3) := by decide +kernel
theorem dX6_bestMove_8 : decode cX6_bestMove 8 = .ok (.aload_n 0, 1) := by decide +kernel
theorem dX6_bestMove_9 : decode cX6_bestMove 9 = .ok (.getfield 12, 3) := by decide +kernel
theorem dX6_bestMove_12 : decode cX6_bestMove 12 = .ok (.iconst 0, 1) := by decide +kernel
theorem dX6_bestMove_13 : decode cX6_bestMove 13 = .ok (.aload_n 0, 1) := by decide +kernel
theorem dX6_bestMove_14 : decode cX6_bestMove 14 = .ok (.getfield 22, 3) := by decide +kernel
theorem dX6_bestMove_17 : decode cX6_bestMove 17 = .ok (.invokevirtual 52, 3) := by decide +kernel
theorem dX6_bestMove_20 : decode cX6_bestMove 20 = .ok (.ireturn, 1) := by decide +kernel
theorem dX6_bestMove_21 : decode cX6_bestMove 21 = .ok (.aload_n 0, 1) := by decide +kernel
theorem dX6_bestMove_22 : decode cX6_bestMove 22 = .ok (.getfield 18, 3) := by decide +kernel
theorem dX6_bestMove_25 : decode cX6_bestMove 25 = .ok (.iconst 2, 1) := by decide +kernel
theorem dX6_bestMove_26 : decode cX6_bestMove 26 = .ok (.if_icmp .ne 25, 3) := by decide +kernel
theorem dX6_bestMove_29 : decode cX6_bestMove 29 = .ok (.aload_n 0, 1) := by decide +kernel
theorem dX6_bestMove_30 : decode cX6_bestMove 30 = .ok (.getfield 12, 3) := by decide +kernel
theorem dX6_bestMove_33 : decode cX6_bestMove 33 = .ok (.aload_n 0, 1) := by decide +kernel
theorem dX6_bestMove_34 : decode cX6_bestMove 34 = .ok (.getfield 25, 3) := by decide +kernel
theorem dX6_bestMove_37 : decode cX6_bestMove 37 = .ok (.aload_n 0, 1) := by decide +kernel
theorem dX6_bestMove_38 : decode cX6_bestMove 38 = .ok (.getfield 28, 3) := by decide +kernel
theorem dX6_bestMove_41 : decode cX6_bestMove 41 = .ok (.aload_n 0, 1) := by decide +kernel
theorem dX6_bestMove_42 : decode cX6_bestMove 42 = .ok (.getfield 22, 3) := by decide +kernel
theorem dX6_bestMove_45 : decode cX6_bestMove 45 = .ok (.invokevirtual 56, 3) := by decide +kernel
theorem dX6_bestMove_48 : decode cX6_bestMove 48 = .ok (.goto 5, 3) := by decide +kernel
theorem dX6_bestMove_51 : decode cX6_bestMove 51 = .ok (.bipush (-3), 2) := by decide +kernel
theorem dX6_bestMove_53 : decode cX6_bestMove 53 = .ok (.ireturn, 1) := by decide +kernel
theorem dX7_init_0 : decode cX7_init 0 = .ok (.aload_n 0, 1) := by decide +kernel
theorem dX7_init_1 : decode cX7_init 1 = .ok (.invokespecial 1, 3) := by decide +kernel
theorem dX7_init_4 : decode cX7_init 4 = .ok (.aload_n 0, 1) := by decide +kernel
theorem dX7_init_5 : decode cX7_init 5 = .ok (.aload_n 1, 1) := by decide +kernel
theorem dX7_init_6 : decode cX7_init 6 = .ok (.putfield 7, 3) := by decide +kernel
theorem dX7_init_9 : decode cX7_init 9 = .ok (.aload_n 0, 1) := by decide +kernel
theorem dX7_init_10 : decode cX7_init 10 = .ok (.aload_n 2, 1) := by decide +kernel
theorem dX7_init_11 : decode cX7_init 11 = .ok (.putfield 13, 3) := by decide +kernel
theorem dX7_init_14 : decode cX7_init 14 = .ok (.aload_n 0, 1) := by decide +kernel
theorem dX7_init_15 : decode cX7_init 15 = .ok (.iload_n 3, 1) := by decide +kernel
theorem dX7_init_16 : decode cX7_init 16 = .ok (.putfield 17, 3) := by decide +kernel
theorem dX7_init_19 : decode cX7_init 19 = .ok (.return_, 1) := by decide +kernel
theorem dX7_nodes_0 : decode cX7_nodes 0 = .ok (.aload_n 0, 1) := by decide +kernel
theorem dX7_nodes_1 : decode cX7_nodes 1 = .ok (.getfield 7, 3) := by decide +kernel
theorem dX7_nodes_4 : decode cX7_nodes 4 = .ok (.areturn, 1) := by decide +kernel
theorem dX7_text_0 : decode cX7_text 0 = .ok (.aload_n 0, 1) := by decide +kernel
theorem dX7_text_1 : decode cX7_text 1 = .ok (.getfield 13, 3) := by decide +kernel
theorem dX7_text_4 : decode cX7_text 4 = .ok (.areturn, 1) := by decide +kernel
theorem dX7_depth_0 : decode cX7_depth 0 = .ok (.aload_n 0, 1) := by decide +kernel
theorem dX7_depth_1 : decode cX7_depth 1 = .ok (.getfield 17, 3) := by decide +kernel
theorem dX7_depth_4 : decode cX7_depth 4 = .ok (.ireturn, 1) := by decide +kernel
theorem dX7_isWrittenLike_0 : decode cX7_isWrittenLike 0 = .ok (.aload_n 0, 1) := by decide +kernel
theorem dX7_isWrittenLike_1 : decode cX7_isWrittenLike 1 = .ok (.getfield 13, 3) := by decide +kernel
theorem dX7_isWrittenLike_4 : decode cX7_isWrittenLike 4 = .ok (.arraylength, 1) := by decide +kernel
theorem dX7_isWrittenLike_5 : decode cX7_isWrittenLike 5 = .ok (.aload_n 1, 1) := by decide +kernel
theorem dX7_isWrittenLike_6 : decode cX7_isWrittenLike 6 = .ok (.getfield 13, 3) := by decide +kernel
theorem dX7_isWrittenLike_9 : decode cX7_isWrittenLike 9 = .ok (.arraylength, 1) := by decide +kernel
theorem dX7_isWrittenLike_10 : decode cX7_isWrittenLike 10 = .ok (.if_icmp .eq 5, 3) := by decide +kernel
theorem dX7_isWrittenLike_13 : decode cX7_isWrittenLike 13 = .ok (.iconst 0, 1) := by decide +kernel
theorem dX7_isWrittenLike_14 : decode cX7_isWrittenLike 14 = .ok (.ireturn, 1) := by decide +kernel
theorem dX7_isWrittenLike_15 : decode cX7_isWrittenLike 15 = .ok (.iconst 0, 1) := by decide +kernel
theorem dX7_isWrittenLike_16 : decode cX7_isWrittenLike 16 = .ok (.istore_n 2, 1) := by decide +kernel
theorem dX7_isWrittenLike_17 : decode cX7_isWrittenLike 17 = .ok (.iload_n 2, 1) := by decide +kernel
theorem dX7_isWrittenLike_18 : decode cX7_isWrittenLike 18 = .ok (.aload_n 0, 1) := by decide +kernel
theorem dX7_isWrittenLike_19 : decode cX7_isWrittenLike 19 = .ok (.getfield 13, 3) := by decide +kernel
theorem dX7_isWrittenLike_22 : decode cX7_isWrittenLike 22 = .ok (.arraylength, 1) := by decide +kernel
theorem dX7_isWrittenLike_23 : decode cX7_isWrittenLike 23 = .ok (.if_icmp .ge 26, 3) := by decide +kernel
theorem dX7_isWrittenLike_26 : decode cX7_isWrittenLike 26 = .ok (.aload_n 0, 1) := by decide +kernel
theorem dX7_isWrittenLike_27 : decode cX7_isWrittenLike 27 = .ok (.getfield 13, 3) := by decide +kernel
theorem dX7_isWrittenLike_30 : decode cX7_isWrittenLike 30 = .ok (.iload_n 2, 1) := by decide +kernel
theorem dX7_isWrittenLike_31 : decode cX7_isWrittenLike 31 = .ok (.baload, 1) := by decide +kernel
theorem dX7_isWrittenLike_32 : decode cX7_isWrittenLike 32 = .ok (.aload_n 1, 1) := by decide +kernel
theorem dX7_isWrittenLike_33 : decode cX7_isWrittenLike 33 = .ok (.getfield 13, 3) := by decide +kernel
theorem dX7_isWrittenLike_36 : decode cX7_isWrittenLike 36 = .ok (.iload_n 2, 1) := by decide +kernel
theorem dX7_isWrittenLike_37 : decode cX7_isWrittenLike 37 = .ok (.baload, 1) := by decide +kernel
theorem dX7_isWrittenLike_38 : decode cX7_isWrittenLike 38 = .ok (.if_icmp .eq 5, 3) := by decide +kernel
theorem dX7_isWrittenLike_41 : decode cX7_isWrittenLike 41 = .ok (.iconst 0, 1) := by decide +kernel
theorem dX7_isWrittenLike_42 : decode cX7_isWrittenLike 42 = .ok (.ireturn, 1) := by decide +kernel
theorem dX7_isWrittenLike_43 : decode cX7_isWrittenLike 43 = .ok (.iinc 2 1, 3) := by decide +kernel
theorem dX7_isWrittenLike_46 : decode cX7_isWrittenLike 46 = .ok (.goto (-29), 3) := by decide +kernel
theorem dX7_isWrittenLike_49 : decode cX7_isWrittenLike 49 = .ok (.iconst 1, 1) := by decide +kernel
theorem dX7_isWrittenLike_50 : decode cX7_isWrittenLike 50 = .ok (.ireturn, 1) := by decide +kernel
theorem dX8_init_0 : decode cX8_init 0 = .ok (.aload_n 0, 1) := by decide +kernel
theorem dX8_init_1 : decode cX8_init 1 = .ok (.invokespecial 3, 3) := by decide +kernel
theorem dX8_init_4 : decode cX8_init 4 = .ok (.aload_n 0, 1) := by decide +kernel
theorem dX8_init_5 : decode cX8_init 5 = .ok (.sipush 800, 3) := by decide +kernel
theorem dX8_init_8 : decode cX8_init 8 = .ok (.newarray .byte, 2) := by decide +kernel
theorem dX8_init_10 : decode cX8_init 10 = .ok (.putfield 9, 3) := by decide +kernel
theorem dX8_init_13 : decode cX8_init 13 = .ok (.aload_n 0, 1) := by decide +kernel
theorem dX8_init_14 : decode cX8_init 14 = .ok (.iconst 0, 1) := by decide +kernel
theorem dX8_init_15 : decode cX8_init 15 = .ok (.putfield 15, 3) := by decide +kernel
theorem dX8_init_18 : decode cX8_init 18 = .ok (.aload_n 0, 1) := by decide +kernel
theorem dX8_init_19 : decode cX8_init 19 = .ok (.iconst 0, 1) := by decide +kernel
theorem dX8_init_20 : decode cX8_init 20 = .ok (.putfield 19, 3) := by decide +kernel
theorem dX8_init_23 : decode cX8_init 23 = .ok (.aload_n 0, 1) := by decide +kernel
theorem dX8_init_24 : decode cX8_init 24 = .ok (.iconst (-1), 1) := by decide +kernel
theorem dX8_init_25 : decode cX8_init 25 = .ok (.putfield 22, 3) := by decide +kernel
theorem dX8_init_28 : decode cX8_init 28 = .ok (.aload_n 0, 1) := by decide +kernel
theorem dX8_init_29 : decode cX8_init 29 = .ok (.bipush 8, 2) := by decide +kernel
theorem dX8_init_31 : decode cX8_init 31 = .ok (.newarray .int, 2) := by decide +kernel
theorem dX8_init_33 : decode cX8_init 33 = .ok (.putfield 25, 3) := by decide +kernel
theorem dX8_init_36 : decode cX8_init 36 = .ok (.return_, 1) := by decide +kernel
theorem dX8_length_0 : decode cX8_length 0 = .ok (.aload_n 0, 1) := by decide +kernel
theorem dX8_length_1 : decode cX8_length 1 = .ok (.getfield 15, 3) := by decide +kernel
theorem dX8_length_4 : decode cX8_length 4 = .ok (.ireturn, 1) := by decide +kernel
theorem dX8_putNumber_0 : decode cX8_putNumber 0 = .ok (.bipush 24, 2) := by decide +kernel
theorem dX8_putNumber_2 : decode cX8_putNumber 2 = .ok (.istore_n 2, 1) := by decide +kernel
theorem dX8_putNumber_3 : decode cX8_putNumber 3 = .ok (.iload_n 2, 1) := by decide +kernel
theorem dX8_putNumber_4 : decode cX8_putNumber 4 = .ok (.ifCond .lt 51, 3) := by decide +kernel
theorem dX8_putNumber_7 : decode cX8_putNumber 7 = .ok (.aload_n 0, 1) := by decide +kernel
theorem dX8_putNumber_8 : decode cX8_putNumber 8 = .ok (.getfield 15, 3) := by decide +kernel
theorem dX8_putNumber_11 : decode cX8_putNumber 11 = .ok (.ifCond .lt 44, 3) := by decide +kernel
theorem dX8_putNumber_14 : decode cX8_putNumber 14 = .ok (.aload_n 0, 1) := by decide +kernel
theorem dX8_putNumber_15 : decode cX8_putNumber 15 = .ok (.getfield 15, 3) := by decide +kernel
theorem dX8_putNumber_18 : decode cX8_putNumber 18 = .ok (.aload_n 0, 1) := by decide +kernel
theorem dX8_putNumber_19 : decode cX8_putNumber 19 = .ok (.getfield 9, 3) := by decide +kernel
theorem dX8_putNumber_22 : decode cX8_putNumber 22 = .ok (.arraylength, 1) := by decide +kernel
theorem dX8_putNumber_23 : decode cX8_putNumber 23 = .ok (.if_icmp .ge 32, 3) := by decide +kernel
theorem dX8_putNumber_26 : decode cX8_putNumber 26 = .ok (.aload_n 0, 1) := by decide +kernel
theorem dX8_putNumber_27 : decode cX8_putNumber 27 = .ok (.getfield 9, 3) := by decide +kernel
theorem dX8_putNumber_30 : decode cX8_putNumber 30 = .ok (.aload_n 0, 1) := by decide +kernel
theorem dX8_putNumber_31 : decode cX8_putNumber 31 = .ok (.getfield 15, 3) := by decide +kernel
theorem dX8_putNumber_34 : decode cX8_putNumber 34 = .ok (.iload_n 1, 1) := by decide +kernel
theorem dX8_putNumber_35 : decode cX8_putNumber 35 = .ok (.iload_n 2, 1) := by decide +kernel
theorem dX8_putNumber_36 : decode cX8_putNumber 36 = .ok (.ishr, 1) := by decide +kernel
theorem dX8_putNumber_37 : decode cX8_putNumber 37 = .ok (.i2b, 1) := by decide +kernel
theorem dX8_putNumber_38 : decode cX8_putNumber 38 = .ok (.bastore, 1) := by decide +kernel
theorem dX8_putNumber_39 : decode cX8_putNumber 39 = .ok (.aload_n 0, 1) := by decide +kernel
theorem dX8_putNumber_40 : decode cX8_putNumber 40 = .ok (.dup, 1) := by decide +kernel
theorem dX8_putNumber_41 : decode cX8_putNumber 41 = .ok (.getfield 15, 3) := by decide +kernel
theorem dX8_putNumber_44 : decode cX8_putNumber 44 = .ok (.iconst 1, 1) := by decide +kernel
theorem dX8_putNumber_45 : decode cX8_putNumber 45 = .ok (.iadd, 1) := by decide +kernel
theorem dX8_putNumber_46 : decode cX8_putNumber 46 = .ok (.putfield 15, 3) := by decide +kernel
theorem dX8_putNumber_49 : decode cX8_putNumber 49 = .ok (.iinc 2 (-8), 3) := by decide +kernel
theorem dX8_putNumber_52 : decode cX8_putNumber 52 = .ok (.goto (-49), 3) := by decide +kernel
theorem dX8_putNumber_55 : decode cX8_putNumber 55 = .ok (.return_, 1) := by decide +kernel
theorem dX8_cutTo_0 : decode cX8_cutTo 0 = .ok (.aload_n 0, 1) := by decide +kernel
theorem dX8_cutTo_1 : decode cX8_cutTo 1 = .ok (.iconst 0, 1) := by decide +kernel
theorem dX8_cutTo_2 : decode cX8_cutTo 2 = .ok (.iload_n 1, 1) := by decide +kernel
theorem dX8_cutTo_3 : decode cX8_cutTo 3 = .ok (.aload_n 0, 1) := by decide +kernel
theorem dX8_cutTo_4 : decode cX8_cutTo 4 = .ok (.getfield 15, 3) := by decide +kernel
theorem dX8_cutTo_7 : decode cX8_cutTo 7 = .ok (.invokestatic 29, 3) := by decide +kernel
theorem dX8_cutTo_10 : decode cX8_cutTo 10 = .ok (.invokestatic 35, 3) := by decide +kernel
theorem dX8_cutTo_13 : decode cX8_cutTo 13 = .ok (.putfield 15, 3) := by decide +kernel
theorem dX8_cutTo_16 : decode cX8_cutTo 16 = .ok (.return_, 1) := by decide +kernel
theorem dX8_parse_0 : decode cX8_parse 0 = .ok (.aload_n 0, 1) := by decide +kernel
theorem dX8_parse_1 : decode cX8_parse 1 = .ok (.iconst 0, 1) := by decide +kernel
theorem dX8_parse_2 : decode cX8_parse 2 = .ok (.putfield 19, 3) := by decide +kernel
theorem dX8_parse_5 : decode cX8_parse 5 = .ok (.aload_n 0, 1) := by decide +kernel
theorem dX8_parse_6 : decode cX8_parse 6 = .ok (.iconst (-1), 1) := by decide +kernel
theorem dX8_parse_7 : decode cX8_parse 7 = .ok (.putfield 22, 3) := by decide +kernel
theorem dX8_parse_10 : decode cX8_parse 10 = .ok (.aload_n 0, 1) := by decide +kernel
theorem dX8_parse_11 : decode cX8_parse 11 = .ok (.getfield 25, 3) := by decide +kernel
theorem dX8_parse_14 : decode cX8_parse 14 = .ok (.iconst 0, 1) := by decide +kernel
theorem dX8_parse_15 : decode cX8_parse 15 = .ok (.invokestatic 38, 3) := by decide +kernel
theorem dX8_parse_18 : decode cX8_parse 18 = .ok (.aload_n 0, 1) := by decide +kernel
theorem dX8_parse_19 : decode cX8_parse 19 = .ok (.aload_n 1, 1) := by decide +kernel
theorem dX8_parse_20 : decode cX8_parse 20 = .ok (.iconst 0, 1) := by decide +kernel
theorem dX8_parse_21 : decode cX8_parse 21 = .ok (.iconst 0, 1) := by decide +kernel
theorem dX8_parse_22 : decode cX8_parse 22 = .ok (.invokevirtual 44, 3) := by decide +kernel
theorem dX8_parse_25 : decode cX8_parse 25 = .ok (.aload_n 0, 1) := by decide +kernel
theorem dX8_parse_26 : decode cX8_parse 26 = .ok (.iconst (-1), 1) := by decide +kernel
theorem dX8_parse_27 : decode cX8_parse 27 = .ok (.invokevirtual 48, 3) := by decide +kernel
theorem dX8_parse_30 : decode cX8_parse 30 = .ok (.aload_n 0, 1) := by decide +kernel
theorem dX8_parse_31 : decode cX8_parse 31 = .ok (.getfield 22, 3) := by decide +kernel
theorem dX8_parse_34 : decode cX8_parse 34 = .ok (.ireturn, 1) := by decide +kernel
theorem dX8_parseFormula_0 : decode cX8_parseFormula 0 = .ok (.aload_n 1, 1) := by decide +kernel
theorem dX8_parseFormula_1 : decode cX8_parseFormula 1 = .ok (.invokevirtual 52, 3) := by decide +kernel
theorem dX8_parseFormula_4 : decode cX8_parseFormula 4 = .ok (.istore 4, 2) := by decide +kernel
theorem dX8_parseFormula_6 : decode cX8_parseFormula 6 = .ok (.aload_n 0, 1) := by decide +kernel
theorem dX8_parseFormula_7 : decode cX8_parseFormula 7 = .ok (.aload_n 1, 1) := by decide +kernel
theorem dX8_parseFormula_8 : decode cX8_parseFormula 8 = .ok (.iload_n 2, 1) := by decide +kernel
theorem dX8_parseFormula_9 : decode cX8_parseFormula 9 = .ok (.iload_n 3, 1) := by decide +kernel
theorem dX8_parseFormula_10 : decode cX8_parseFormula 10 = .ok (.invokevirtual 58, 3) := by decide +kernel
theorem dX8_parseFormula_13 : decode cX8_parseFormula 13 = .ok (.aload_n 0, 1) := by decide +kernel
theorem dX8_parseFormula_14 : decode cX8_parseFormula 14 = .ok (.invokevirtual 61, 3) := by decide +kernel
theorem dX8_parseFormula_17 : decode cX8_parseFormula 17 = .ok (.istore 5, 2) := by decide +kernel
theorem dX8_parseFormula_19 : decode cX8_parseFormula 19 = .ok (.aload_n 0, 1) := by decide +kernel
theorem dX8_parseFormula_20 : decode cX8_parseFormula 20 = .ok (.getfield 22, 3) := by decide +kernel
theorem dX8_parseFormula_23 : decode cX8_parseFormula 23 = .ok (.ifCond .ge 11, 3) := by decide +kernel
theorem dX8_parseFormula_26 : decode cX8_parseFormula 26 = .ok (.iload 5, 2) := by decide +kernel
theorem dX8_parseFormula_28 : decode cX8_parseFormula 28 = .ok (.invokestatic 64, 3) := by decide +kernel
theorem dX8_parseFormula_31 : decode cX8_parseFormula 31 = .ok (.ifCond .ne 4, 3) := by decide +kernel
theorem dX8_parseFormula_34 : decode cX8_parseFormula 34 = .ok (.return_, 1) := by decide +kernel
theorem dX8_parseFormula_35 : decode cX8_parseFormula 35 = .ok (.aload_n 1, 1) := by decide +kernel
theorem dX8_parseFormula_36 : decode cX8_parseFormula 36 = .ok (.iload 4, 2) := by decide +kernel
theorem dX8_parseFormula_38 : decode cX8_parseFormula 38 = .ok (.iload 5, 2) := by decide +kernel
theorem dX8_parseFormula_40 : decode cX8_parseFormula 40 = .ok (.invokevirtual 68, 3) := by decide +kernel
theorem dX8_parseFormula_43 : decode cX8_parseFormula 43 = .ok (.iconst 1, 1) := by decide +kernel
theorem dX8_parseFormula_44 : decode cX8_parseFormula 44 = .ok (.istore 6, 2) := by decide +kernel
theorem dX8_parseFormula_46 : decode cX8_parseFormula 46 = .ok (.iload 6, 2) := by decide +kernel
theorem dX8_parseFormula_48 : decode cX8_parseFormula 48 = .ok (.sipush 800, 3) := by decide +kernel
theorem dX8_parseFormula_51 : decode cX8_parseFormula 51 = .ok (.if_icmp .ge 42, 3) := by decide +kernel
theorem dX8_parseFormula_54 : decode cX8_parseFormula 54 = .ok (.aload_n 0, 1) := by decide +kernel
theorem dX8_parseFormula_55 : decode cX8_parseFormula 55 = .ok (.getfield 22, 3) := by decide +kernel
theorem dX8_parseFormula_58 : decode cX8_parseFormula 58 = .ok (.ifCond .ge 35, 3) := by decide +kernel
theorem dX8_parseFormula_61 : decode cX8_parseFormula 61 = .ok (.aload_n 0, 1) := by decide +kernel
theorem dX8_parseFormula_62 : decode cX8_parseFormula 62 = .ok (.invokevirtual 61, 3) := by decide +kernel
theorem dX8_parseFormula_65 : decode cX8_parseFormula 65 = .ok (.iload 5, 2) := by decide +kernel
theorem dX8_parseFormula_67 : decode cX8_parseFormula 67 = .ok (.if_icmp .ne 26, 3) := by decide +kernel
theorem dX8_parseFormula_70 : decode cX8_parseFormula 70 = .ok (.aload_n 0, 1) := by decide +kernel
theorem dX8_parseFormula_71 : decode cX8_parseFormula 71 = .ok (.dup, 1) := by decide +kernel
theorem dX8_parseFormula_72 : decode cX8_parseFormula 72 = .ok (.getfield 19, 3) := by decide +kernel
theorem dX8_parseFormula_75 : decode cX8_parseFormula 75 = .ok (.iconst 1, 1) := by decide +kernel
theorem dX8_parseFormula_76 : decode cX8_parseFormula 76 = .ok (.iadd, 1) := by decide +kernel
theorem dX8_parseFormula_77 : decode cX8_parseFormula 77 = .ok (.putfield 19, 3) := by decide +kernel
theorem dX8_parseFormula_80 : decode cX8_parseFormula 80 = .ok (.aload_n 0, 1) := by decide +kernel
theorem dX8_parseFormula_81 : decode cX8_parseFormula 81 = .ok (.aload_n 1, 1) := by decide +kernel
theorem dX8_parseFormula_82 : decode cX8_parseFormula 82 = .ok (.iload_n 2, 1) := by decide +kernel
theorem dX8_parseFormula_83 : decode cX8_parseFormula 83 = .ok (.iload_n 3, 1) := by decide +kernel
theorem dX8_parseFormula_84 : decode cX8_parseFormula 84 = .ok (.invokevirtual 58, 3) := by decide +kernel
theorem dX8_parseFormula_87 : decode cX8_parseFormula 87 = .ok (.iinc 6 1, 3) := by decide +kernel
theorem dX8_parseFormula_90 : decode cX8_parseFormula 90 = .ok (.goto (-44), 3) := by decide +kernel
theorem dX8_parseFormula_93 : decode cX8_parseFormula 93 = .ok (.aload_n 1, 1) := by decide +kernel
theorem dX8_parseFormula_94 : decode cX8_parseFormula 94 = .ok (.iload 4, 2) := by decide +kernel
theorem dX8_parseFormula_96 : decode cX8_parseFormula 96 = .ok (.invokevirtual 72, 3) := by decide +kernel
theorem dX8_parseFormula_99 : decode cX8_parseFormula 99 = .ok (.return_, 1) := by decide +kernel
theorem dX8_parsePart_0 : decode cX8_parsePart 0 = .ok (.aload_n 0, 1) := by decide +kernel
theorem dX8_parsePart_1 : decode cX8_parsePart 1 = .ok (.invokevirtual 61, 3) := by decide +kernel
theorem dX8_parsePart_4 : decode cX8_parsePart 4 = .ok (.istore 4, 2) := by decide +kernel
theorem dX8_parsePart_6 : decode cX8_parsePart 6 = .ok (.iload 4, 2) := by decide +kernel
theorem dX8_parsePart_8 : decode cX8_parsePart 8 = .ok (.invokestatic 75, 3) := by decide +kernel
theorem dX8_parsePart_11 : decode cX8_parsePart 11 = .ok (.istore 5, 2) := by decide +kernel
theorem dX8_parsePart_13 : decode cX8_parsePart 13 = .ok (.iload 5, 2) := by decide +kernel
theorem dX8_parsePart_15 : decode cX8_parsePart 15 = .ok (.ifCond .ne 25, 3) := by decide +kernel
theorem dX8_parsePart_18 : decode cX8_parsePart 18 = .ok (.iload 4, 2) := by decide +kernel
theorem dX8_parsePart_20 : decode cX8_parsePart 20 = .ok (.bipush 45, 2) := by decide +kernel
theorem dX8_parsePart_22 : decode cX8_parsePart 22 = .ok (.if_icmp .eq 18, 3) := by decide +kernel
theorem dX8_parsePart_25 : decode cX8_parsePart 25 = .ok (.iload 4, 2) := by decide +kernel
theorem dX8_parsePart_27 : decode cX8_parsePart 27 = .ok (.bipush 40, 2) := by decide +kernel
theorem dX8_parsePart_29 : decode cX8_parsePart 29 = .ok (.if_icmp .eq 11, 3) := by decide +kernel
theorem dX8_parsePart_32 : decode cX8_parsePart 32 = .ok (.aload_n 0, 1) := by decide +kernel
theorem dX8_parsePart_33 : decode cX8_parsePart 33 = .ok (.aload_n 1, 1) := by decide +kernel
theorem dX8_parsePart_34 : decode cX8_parsePart 34 = .ok (.iload 4, 2) := by decide +kernel
theorem dX8_parsePart_36 : decode cX8_parsePart 36 = .ok (.invokevirtual 78, 3) := by decide +kernel
theorem dX8_parsePart_39 : decode cX8_parsePart 39 = .ok (.return_, 1) := by decide +kernel
theorem dX8_parsePart_40 : decode cX8_parsePart 40 = .ok (.iload_n 2, 1) := by decide +kernel
theorem dX8_parsePart_41 : decode cX8_parsePart 41 = .ok (.bipush 12, 2) := by decide +kernel
theorem dX8_parsePart_43 : decode cX8_parsePart 43 = .ok (.if_icmp .ge 14, 3) := by decide +kernel
theorem dX8_parsePart_46 : decode cX8_parsePart 46 = .ok (.iload 5, 2) := by decide +kernel
theorem dX8_parsePart_48 : decode cX8_parsePart 48 = .ok (.ifCond .eq 14, 3) := by decide +kernel
theorem dX8_parsePart_51 : decode cX8_parsePart 51 = .ok (.iload_n 3, 1) := by decide +kernel
theorem dX8_parsePart_52 : decode cX8_parsePart 52 = .ok (.bipush 8, 2) := by decide +kernel
theorem dX8_parsePart_54 : decode cX8_parsePart 54 = .ok (.if_icmp .lt 8, 3) := by decide +kernel
