theorem dX12_isPlaceAlike_54 : decode cX12_isPlaceAlike 54 = .ok (.iload_n 2, 1) := by decide +kernel
theorem dX12_isPlaceAlike_55 : decode cX12_isPlaceAlike 55 = .ok (.ifCond .eq 144, 3) := by decide +kernel
theorem dX12_isPlaceAlike_58 : decode cX12_isPlaceAlike 58 = .ok (.aload_n 0, 1) := by decide +kernel
theorem dX12_isPlaceAlike_59 : decode cX12_isPlaceAlike 59 = .ok (.getfield 25, 3) := by decide +kernel
theorem dX12_isPlaceAlike_62 : decode cX12_isPlaceAlike 62 = .ok (.iload_n 3, 1) := by decide +kernel
theorem dX12_isPlaceAlike_63 : decode cX12_isPlaceAlike 63 = .ok (.iaload, 1) := by decide +kernel
theorem dX12_isPlaceAlike_64 : decode cX12_isPlaceAlike 64 = .ok (.aload_n 0, 1) := by decide +kernel
theorem dX12_isPlaceAlike_65 : decode cX12_isPlaceAlike 65 = .ok (.getfield 25, 3) := by decide +kernel
theorem dX12_isPlaceAlike_68 : decode cX12_isPlaceAlike 68 = .ok (.iload_n 1, 1) := by decide +kernel
theorem dX12_isPlaceAlike_69 : decode cX12_isPlaceAlike 69 = .ok (.iaload, 1) := by decide +kernel
theorem dX12_isPlaceAlike_70 : decode cX12_isPlaceAlike 70 = .ok (.if_icmp .ne 7, 3) := by decide +kernel
theorem dX12_isPlaceAlike_73 : decode cX12_isPlaceAlike 73 = .ok (.iconst 1, 1) := by decide +kernel
theorem dX12_isPlaceAlike_74 : decode cX12_isPlaceAlike 74 = .ok (.goto 4, 3) := by decide +kernel
theorem dX12_isPlaceAlike_77 : decode cX12_isPlaceAlike 77 = .ok (.iconst 0, 1) := by decide +kernel
theorem dX12_isPlaceAlike_78 : decode cX12_isPlaceAlike 78 = .ok (.aload_n 0, 1) := by decide +kernel
theorem dX12_isPlaceAlike_79 : decode cX12_isPlaceAlike 79 = .ok (.getfield 28, 3) := by decide +kernel
theorem dX12_isPlaceAlike_82 : decode cX12_isPlaceAlike 82 = .ok (.iload_n 3, 1) := by decide +kernel
theorem dX12_isPlaceAlike_83 : decode cX12_isPlaceAlike 83 = .ok (.iaload, 1) := by decide +kernel
theorem dX12_isPlaceAlike_84 : decode cX12_isPlaceAlike 84 = .ok (.aload_n 0, 1) := by decide +kernel
theorem dX12_isPlaceAlike_85 : decode cX12_isPlaceAlike 85 = .ok (.getfield 28, 3) := by decide +kernel
theorem dX12_isPlaceAlike_88 : decode cX12_isPlaceAlike 88 = .ok (.iload_n 1, 1) := by decide +kernel
theorem dX12_isPlaceAlike_89 : decode cX12_isPlaceAlike 89 = .ok (.iaload, 1) := by decide +kernel
theorem dX12_isPlaceAlike_90 : decode cX12_isPlaceAlike 90 = .ok (.if_icmp .ne 7, 3) := by decide +kernel
theorem dX12_isPlaceAlike_93 : decode cX12_isPlaceAlike 93 = .ok (.iconst 1, 1) := by decide +kernel
theorem dX12_isPlaceAlike_94 : decode cX12_isPlaceAlike 94 = .ok (.goto 4, 3) := by decide +kernel
theorem dX12_isPlaceAlike_97 : decode cX12_isPlaceAlike 97 = .ok (.iconst 0, 1) := by decide +kernel
theorem dX12_isPlaceAlike_98 : decode cX12_isPlaceAlike 98 = .ok (.if_icmp .ne 93, 3) := by decide +kernel
theorem dX12_isPlaceAlike_101 : decode cX12_isPlaceAlike 101 = .ok (.aload_n 0, 1) := by decide +kernel
theorem dX12_isPlaceAlike_102 : decode cX12_isPlaceAlike 102 = .ok (.aload_n 0, 1) := by decide +kernel
theorem dX12_isPlaceAlike_103 : decode cX12_isPlaceAlike 103 = .ok (.getfield 163, 3) := by decide +kernel
theorem dX12_isPlaceAlike_106 : decode cX12_isPlaceAlike 106 = .ok (.aload_n 0, 1) := by decide +kernel
theorem dX12_isPlaceAlike_107 : decode cX12_isPlaceAlike 107 = .ok (.getfield 25, 3) := by decide +kernel
theorem dX12_isPlaceAlike_110 : decode cX12_isPlaceAlike 110 = .ok (.iload_n 3, 1) := by decide +kernel
theorem dX12_isPlaceAlike_111 : decode cX12_isPlaceAlike 111 = .ok (.iaload, 1) := by decide +kernel
theorem dX12_isPlaceAlike_112 : decode cX12_isPlaceAlike 112 = .ok (.aload_n 0, 1) := by decide +kernel
theorem dX12_isPlaceAlike_113 : decode cX12_isPlaceAlike 113 = .ok (.getfield 25, 3) := by decide +kernel
theorem dX12_isPlaceAlike_116 : decode cX12_isPlaceAlike 116 = .ok (.iload_n 1, 1) := by decide +kernel
theorem dX12_isPlaceAlike_117 : decode cX12_isPlaceAlike 117 = .ok (.iaload, 1) := by decide +kernel
theorem dX12_isPlaceAlike_118 : decode cX12_isPlaceAlike 118 = .ok (.invokevirtual 152, 3) := by decide +kernel
theorem dX12_isPlaceAlike_121 : decode cX12_isPlaceAlike 121 = .ok (.aload_n 0, 1) := by decide +kernel
theorem dX12_isPlaceAlike_122 : decode cX12_isPlaceAlike 122 = .ok (.aload_n 0, 1) := by decide +kernel
theorem dX12_isPlaceAlike_123 : decode cX12_isPlaceAlike 123 = .ok (.getfield 166, 3) := by decide +kernel
theorem dX12_isPlaceAlike_126 : decode cX12_isPlaceAlike 126 = .ok (.aload_n 0, 1) := by decide +kernel
theorem dX12_isPlaceAlike_127 : decode cX12_isPlaceAlike 127 = .ok (.getfield 28, 3) := by decide +kernel
theorem dX12_isPlaceAlike_130 : decode cX12_isPlaceAlike 130 = .ok (.iload_n 3, 1) := by decide +kernel
theorem dX12_isPlaceAlike_131 : decode cX12_isPlaceAlike 131 = .ok (.iaload, 1) := by decide +kernel
theorem dX12_isPlaceAlike_132 : decode cX12_isPlaceAlike 132 = .ok (.aload_n 0, 1) := by decide +kernel
theorem dX12_isPlaceAlike_133 : decode cX12_isPlaceAlike 133 = .ok (.getfield 28, 3) := by decide +kernel
theorem dX12_isPlaceAlike_136 : decode cX12_isPlaceAlike 136 = .ok (.iload_n 1, 1) := by decide +kernel
theorem dX12_isPlaceAlike_137 : decode cX12_isPlaceAlike 137 = .ok (.iaload, 1) := by decide +kernel
theorem dX12_isPlaceAlike_138 : decode cX12_isPlaceAlike 138 = .ok (.invokevirtual 152, 3) := by decide +kernel
theorem dX12_isPlaceAlike_141 : decode cX12_isPlaceAlike 141 = .ok (.if_icmp .ne 50, 3) := by decide +kernel
theorem dX12_isPlaceAlike_144 : decode cX12_isPlaceAlike 144 = .ok (.aload_n 0, 1) := by decide +kernel
theorem dX12_isPlaceAlike_145 : decode cX12_isPlaceAlike 145 = .ok (.aload_n 0, 1) := by decide +kernel
theorem dX12_isPlaceAlike_146 : decode cX12_isPlaceAlike 146 = .ok (.getfield 163, 3) := by decide +kernel
theorem dX12_isPlaceAlike_149 : decode cX12_isPlaceAlike 149 = .ok (.aload_n 0, 1) := by decide +kernel
theorem dX12_isPlaceAlike_150 : decode cX12_isPlaceAlike 150 = .ok (.getfield 25, 3) := by decide +kernel
theorem dX12_isPlaceAlike_153 : decode cX12_isPlaceAlike 153 = .ok (.iload_n 1, 1) := by decide +kernel
theorem dX12_isPlaceAlike_154 : decode cX12_isPlaceAlike 154 = .ok (.iaload, 1) := by decide +kernel
theorem dX12_isPlaceAlike_155 : decode cX12_isPlaceAlike 155 = .ok (.aload_n 0, 1) := by decide +kernel
theorem dX12_isPlaceAlike_156 : decode cX12_isPlaceAlike 156 = .ok (.getfield 25, 3) := by decide +kernel
theorem dX12_isPlaceAlike_159 : decode cX12_isPlaceAlike 159 = .ok (.iload_n 3, 1) := by decide +kernel
theorem dX12_isPlaceAlike_160 : decode cX12_isPlaceAlike 160 = .ok (.iaload, 1) := by decide +kernel
theorem dX12_isPlaceAlike_161 : decode cX12_isPlaceAlike 161 = .ok (.invokevirtual 152, 3) := by decide +kernel
theorem dX12_isPlaceAlike_164 : decode cX12_isPlaceAlike 164 = .ok (.aload_n 0, 1) := by decide +kernel
theorem dX12_isPlaceAlike_165 : decode cX12_isPlaceAlike 165 = .ok (.aload_n 0, 1) := by decide +kernel
theorem dX12_isPlaceAlike_166 : decode cX12_isPlaceAlike 166 = .ok (.getfield 166, 3) := by decide +kernel
theorem dX12_isPlaceAlike_169 : decode cX12_isPlaceAlike 169 = .ok (.aload_n 0, 1) := by decide +kernel
theorem dX12_isPlaceAlike_170 : decode cX12_isPlaceAlike 170 = .ok (.getfield 28, 3) := by decide +kernel
theorem dX12_isPlaceAlike_173 : decode cX12_isPlaceAlike 173 = .ok (.iload_n 1, 1) := by decide +kernel
theorem dX12_isPlaceAlike_174 : decode cX12_isPlaceAlike 174 = .ok (.iaload, 1) := by decide +kernel
theorem dX12_isPlaceAlike_175 : decode cX12_isPlaceAlike 175 = .ok (.aload_n 0, 1) := by decide +kernel
theorem dX12_isPlaceAlike_176 : decode cX12_isPlaceAlike 176 = .ok (.getfield 28, 3) := by decide +kernel
theorem dX12_isPlaceAlike_179 : decode cX12_isPlaceAlike 179 = .ok (.iload_n 3, 1) := by decide +kernel
theorem dX12_isPlaceAlike_180 : decode cX12_isPlaceAlike 180 = .ok (.iaload, 1) := by decide +kernel
theorem dX12_isPlaceAlike_181 : decode cX12_isPlaceAlike 181 = .ok (.invokevirtual 152, 3) := by decide +kernel
theorem dX12_isPlaceAlike_184 : decode cX12_isPlaceAlike 184 = .ok (.if_icmp .ne 7, 3) := by decide +kernel
theorem dX12_isPlaceAlike_187 : decode cX12_isPlaceAlike 187 = .ok (.iconst 1, 1) := by decide +kernel
theorem dX12_isPlaceAlike_188 : decode cX12_isPlaceAlike 188 = .ok (.goto 4, 3) := by decide +kernel
theorem dX12_isPlaceAlike_191 : decode cX12_isPlaceAlike 191 = .ok (.iconst 0, 1) := by decide +kernel
theorem dX12_isPlaceAlike_192 : decode cX12_isPlaceAlike 192 = .ok (.istore_n 2, 1) := by decide +kernel
theorem dX12_isPlaceAlike_193 : decode cX12_isPlaceAlike 193 = .ok (.iinc 3 1, 3) := by decide +kernel
theorem dX12_isPlaceAlike_196 : decode cX12_isPlaceAlike 196 = .ok (.goto (-147), 3) := by decide +kernel
theorem dX12_isPlaceAlike_199 : decode cX12_isPlaceAlike 199 = .ok (.iload_n 2, 1) := by decide +kernel
theorem dX12_isPlaceAlike_200 : decode cX12_isPlaceAlike 200 = .ok (.ireturn, 1) := by decide +kernel
theorem dX12_areAlike_0 : decode cX12_areAlike 0 = .ok (.iconst 1, 1) := by decide +kernel
theorem dX12_areAlike_1 : decode cX12_areAlike 1 = .ok (.istore_n 1, 1) := by decide +kernel
theorem dX12_areAlike_2 : decode cX12_areAlike 2 = .ok (.iconst 0, 1) := by decide +kernel
theorem dX12_areAlike_3 : decode cX12_areAlike 3 = .ok (.istore_n 2, 1) := by decide +kernel
theorem dX12_areAlike_4 : decode cX12_areAlike 4 = .ok (.iload_n 2, 1) := by decide +kernel
theorem dX12_areAlike_5 : decode cX12_areAlike 5 = .ok (.aload_n 0, 1) := by decide +kernel
theorem dX12_areAlike_6 : decode cX12_areAlike 6 = .ok (.getfield 169, 3) := by decide +kernel
theorem dX12_areAlike_9 : decode cX12_areAlike 9 = .ok (.if_icmp .ge 19, 3) := by decide +kernel
theorem dX12_areAlike_12 : decode cX12_areAlike 12 = .ok (.iload_n 1, 1) := by decide +kernel
theorem dX12_areAlike_13 : decode cX12_areAlike 13 = .ok (.ifCond .eq 15, 3) := by decide +kernel
theorem dX12_areAlike_16 : decode cX12_areAlike 16 = .ok (.aload_n 0, 1) := by decide +kernel
theorem dX12_areAlike_17 : decode cX12_areAlike 17 = .ok (.iload_n 2, 1) := by decide +kernel
theorem dX12_areAlike_18 : decode cX12_areAlike 18 = .ok (.invokevirtual 172, 3) := by decide +kernel
theorem dX12_areAlike_21 : decode cX12_areAlike 21 = .ok (.istore_n 1, 1) := by decide +kernel
theorem dX12_areAlike_22 : decode cX12_areAlike 22 = .ok (.iinc 2 1, 3) := by decide +kernel
theorem dX12_areAlike_25 : decode cX12_areAlike 25 = .ok (.goto (-21), 3) := by decide +kernel
theorem dX12_areAlike_28 : decode cX12_areAlike 28 = .ok (.iload_n 1, 1) := by decide +kernel
theorem dX12_areAlike_29 : decode cX12_areAlike 29 = .ok (.ireturn, 1) := by decide +kernel
theorem dX12_addPick_0 : decode cX12_addPick 0 = .ok (.iload_n 1, 1) := by decide +kernel
theorem dX12_addPick_1 : decode cX12_addPick 1 = .ok (.ifCond .ne 12, 3) := by decide +kernel
theorem dX12_addPick_4 : decode cX12_addPick 4 = .ok (.aload_n 0, 1) := by decide +kernel
theorem dX12_addPick_5 : decode cX12_addPick 5 = .ok (.iload_n 2, 1) := by decide +kernel
theorem dX12_addPick_6 : decode cX12_addPick 6 = .ok (.iload_n 3, 1) := by decide +kernel
theorem dX12_addPick_7 : decode cX12_addPick 7 = .ok (.invokevirtual 175, 3) := by decide +kernel
theorem dX12_addPick_10 : decode cX12_addPick 10 = .ok (.goto 9, 3) := by decide +kernel
theorem dX12_addPick_13 : decode cX12_addPick 13 = .ok (.aload_n 0, 1) := by decide +kernel
theorem dX12_addPick_14 : decode cX12_addPick 14 = .ok (.iload_n 3, 1) := by decide +kernel
theorem dX12_addPick_15 : decode cX12_addPick 15 = .ok (.iload_n 2, 1) := by decide +kernel
theorem dX12_addPick_16 : decode cX12_addPick 16 = .ok (.invokevirtual 175, 3) := by decide +kernel
theorem dX12_addPick_19 : decode cX12_addPick 19 = .ok (.return_, 1) := by decide +kernel
theorem dX12_manyOf_0 : decode cX12_manyOf 0 = .ok (.aload_n 0, 1) := by decide +kernel
theorem dX12_manyOf_1 : decode cX12_manyOf 1 = .ok (.getfield 7, 3) := by decide +kernel
theorem dX12_manyOf_4 : decode cX12_manyOf 4 = .ok (.iload_n 1, 1) := by decide +kernel
theorem dX12_manyOf_5 : decode cX12_manyOf 5 = .ok (.ifCond .ne 10, 3) := by decide +kernel
theorem dX12_manyOf_8 : decode cX12_manyOf 8 = .ok (.aload_n 0, 1) := by decide +kernel
theorem dX12_manyOf_9 : decode cX12_manyOf 9 = .ok (.getfield 163, 3) := by decide +kernel
theorem dX12_manyOf_12 : decode cX12_manyOf 12 = .ok (.goto 7, 3) := by decide +kernel
theorem dX12_manyOf_15 : decode cX12_manyOf 15 = .ok (.aload_n 0, 1) := by decide +kernel
theorem dX12_manyOf_16 : decode cX12_manyOf 16 = .ok (.getfield 166, 3) := by decide +kernel
theorem dX12_manyOf_19 : decode cX12_manyOf 19 = .ok (.iaload, 1) := by decide +kernel
theorem dX12_manyOf_20 : decode cX12_manyOf 20 = .ok (.ireturn, 1) := by decide +kernel
theorem dX12_keeps1_0 : decode cX12_keeps1 0 = .ok (.aload_n 0, 1) := by decide +kernel
theorem dX12_keeps1_1 : decode cX12_keeps1 1 = .ok (.invokevirtual 178, 3) := by decide +kernel
theorem dX12_keeps1_4 : decode cX12_keeps1 4 = .ok (.istore_n 1, 1) := by decide +kernel
theorem dX12_keeps1_5 : decode cX12_keeps1 5 = .ok (.iconst 0, 1) := by decide +kernel
theorem dX12_keeps1_6 : decode cX12_keeps1 6 = .ok (.istore_n 2, 1) := by decide +kernel
theorem dX12_keeps1_7 : decode cX12_keeps1 7 = .ok (.iload_n 2, 1) := by decide +kernel
theorem dX12_keeps1_8 : decode cX12_keeps1 8 = .ok (.iconst 2, 1) := by decide +kernel
theorem dX12_keeps1_9 : decode cX12_keeps1 9 = .ok (.if_icmp .ge 86, 3) := by decide +kernel
theorem dX12_keeps1_12 : decode cX12_keeps1 12 = .ok (.iconst 0, 1) := by decide +kernel
theorem dX12_keeps1_13 : decode cX12_keeps1 13 = .ok (.istore_n 3, 1) := by decide +kernel
theorem dX12_keeps1_14 : decode cX12_keeps1 14 = .ok (.iload_n 3, 1) := by decide +kernel
theorem dX12_keeps1_15 : decode cX12_keeps1 15 = .ok (.aload_n 0, 1) := by decide +kernel
theorem dX12_keeps1_16 : decode cX12_keeps1 16 = .ok (.iload_n 2, 1) := by decide +kernel
theorem dX12_keeps1_17 : decode cX12_keeps1 17 = .ok (.invokevirtual 182, 3) := by decide +kernel
theorem dX12_keeps1_20 : decode cX12_keeps1 20 = .ok (.if_icmp .ge 69, 3) := by decide +kernel
theorem dX12_keeps1_23 : decode cX12_keeps1 23 = .ok (.iload_n 1, 1) := by decide +kernel
theorem dX12_keeps1_24 : decode cX12_keeps1 24 = .ok (.ifCond .eq 65, 3) := by decide +kernel
theorem dX12_keeps1_27 : decode cX12_keeps1 27 = .ok (.iconst 0, 1) := by decide +kernel
theorem dX12_keeps1_28 : decode cX12_keeps1 28 = .ok (.istore_n 1, 1) := by decide +kernel
theorem dX12_keeps1_29 : decode cX12_keeps1 29 = .ok (.iconst 0, 1) := by decide +kernel
theorem dX12_keeps1_30 : decode cX12_keeps1 30 = .ok (.istore 4, 2) := by decide +kernel
theorem dX12_keeps1_32 : decode cX12_keeps1 32 = .ok (.iload 4, 2) := by decide +kernel
theorem dX12_keeps1_34 : decode cX12_keeps1 34 = .ok (.aload_n 0, 1) := by decide +kernel
theorem dX12_keeps1_35 : decode cX12_keeps1 35 = .ok (.iconst 1, 1) := by decide +kernel
theorem dX12_keeps1_36 : decode cX12_keeps1 36 = .ok (.iload_n 2, 1) := by decide +kernel
theorem dX12_keeps1_37 : decode cX12_keeps1 37 = .ok (.isub, 1) := by decide +kernel
theorem dX12_keeps1_38 : decode cX12_keeps1 38 = .ok (.invokevirtual 182, 3) := by decide +kernel
theorem dX12_keeps1_41 : decode cX12_keeps1 41 = .ok (.if_icmp .ge 42, 3) := by decide +kernel
theorem dX12_keeps1_44 : decode cX12_keeps1 44 = .ok (.iload_n 1, 1) := by decide +kernel
theorem dX12_keeps1_45 : decode cX12_keeps1 45 = .ok (.ifCond .ne 38, 3) := by decide +kernel
theorem dX12_keeps1_48 : decode cX12_keeps1 48 = .ok (.aload_n 0, 1) := by decide +kernel
theorem dX12_keeps1_49 : decode cX12_keeps1 49 = .ok (.iload_n 2, 1) := by decide +kernel
theorem dX12_keeps1_50 : decode cX12_keeps1 50 = .ok (.iload_n 3, 1) := by decide +kernel
theorem dX12_keeps1_51 : decode cX12_keeps1 51 = .ok (.iload 4, 2) := by decide +kernel
theorem dX12_keeps1_53 : decode cX12_keeps1 53 = .ok (.invokevirtual 185, 3) := by decide +kernel
theorem dX12_keeps1_56 : decode cX12_keeps1 56 = .ok (.aload_n 0, 1) := by decide +kernel
theorem dX12_keeps1_57 : decode cX12_keeps1 57 = .ok (.aload_n 0, 1) := by decide +kernel
theorem dX12_keeps1_58 : decode cX12_keeps1 58 = .ok (.getfield 169, 3) := by decide +kernel
theorem dX12_keeps1_61 : decode cX12_keeps1 61 = .ok (.iconst 1, 1) := by decide +kernel
theorem dX12_keeps1_62 : decode cX12_keeps1 62 = .ok (.isub, 1) := by decide +kernel
theorem dX12_keeps1_63 : decode cX12_keeps1 63 = .ok (.invokevirtual 172, 3) := by decide +kernel
theorem dX12_keeps1_66 : decode cX12_keeps1 66 = .ok (.istore_n 1, 1) := by decide +kernel
theorem dX12_keeps1_67 : decode cX12_keeps1 67 = .ok (.aload_n 0, 1) := by decide +kernel
theorem dX12_keeps1_68 : decode cX12_keeps1 68 = .ok (.dup, 1) := by decide +kernel
theorem dX12_keeps1_69 : decode cX12_keeps1 69 = .ok (.getfield 169, 3) := by decide +kernel
theorem dX12_keeps1_72 : decode cX12_keeps1 72 = .ok (.iconst 1, 1) := by decide +kernel
theorem dX12_keeps1_73 : decode cX12_keeps1 73 = .ok (.isub, 1) := by decide +kernel
theorem dX12_keeps1_74 : decode cX12_keeps1 74 = .ok (.putfield 169, 3) := by decide +kernel
theorem dX12_keeps1_77 : decode cX12_keeps1 77 = .ok (.iinc 4 1, 3) := by decide +kernel
theorem dX12_keeps1_80 : decode cX12_keeps1 80 = .ok (.goto (-48), 3) := by decide +kernel
theorem dX12_keeps1_83 : decode cX12_keeps1 83 = .ok (.iinc 3 1, 3) := by decide +kernel
theorem dX12_keeps1_86 : decode cX12_keeps1 86 = .ok (.goto (-72), 3) := by decide +kernel
theorem dX12_keeps1_89 : decode cX12_keeps1 89 = .ok (.iinc 2 1, 3) := by decide +kernel
theorem dX12_keeps1_92 : decode cX12_keeps1 92 = .ok (.goto (-85), 3) := by decide +kernel
theorem dX12_keeps1_95 : decode cX12_keeps1 95 = .ok (.iload_n 1, 1) := by decide +kernel
theorem dX12_keeps1_96 : decode cX12_keeps1 96 = .ok (.ireturn, 1) := by decide +kernel
theorem dX12_keeps2_0 : decode cX12_keeps2 0 = .ok (.aload_n 0, 1) := by decide +kernel
theorem dX12_keeps2_1 : decode cX12_keeps2 1 = .ok (.invokevirtual 178, 3) := by decide +kernel
theorem dX12_keeps2_4 : decode cX12_keeps2 4 = .ok (.istore_n 1, 1) := by decide +kernel
theorem dX12_keeps2_5 : decode cX12_keeps2 5 = .ok (.iconst 0, 1) := by decide +kernel
theorem dX12_keeps2_6 : decode cX12_keeps2 6 = .ok (.istore_n 2, 1) := by decide +kernel
theorem dX12_keeps2_7 : decode cX12_keeps2 7 = .ok (.iload_n 2, 1) := by decide +kernel
theorem dX12_keeps2_8 : decode cX12_keeps2 8 = .ok (.iconst 2, 1) := by decide +kernel
theorem dX12_keeps2_9 : decode cX12_keeps2 9 = .ok (.if_icmp .ge 101, 3) := by decide +kernel
theorem dX12_keeps2_12 : decode cX12_keeps2 12 = .ok (.iconst 0, 1) := by decide +kernel
theorem dX12_keeps2_13 : decode cX12_keeps2 13 = .ok (.istore_n 3, 1) := by decide +kernel
theorem dX12_keeps2_14 : decode cX12_keeps2 14 = .ok (.iload_n 3, 1) := by decide +kernel
theorem dX12_keeps2_15 : decode cX12_keeps2 15 = .ok (.aload_n 0, 1) := by decide +kernel
theorem dX12_keeps2_16 : decode cX12_keeps2 16 = .ok (.iload_n 2, 1) := by decide +kernel
theorem dX12_keeps2_17 : decode cX12_keeps2 17 = .ok (.invokevirtual 182, 3) := by decide +kernel
theorem dX12_keeps2_20 : decode cX12_keeps2 20 = .ok (.if_icmp .ge 84, 3) := by decide +kernel
theorem dX12_keeps2_23 : decode cX12_keeps2 23 = .ok (.iload_n 1, 1) := by decide +kernel
theorem dX12_keeps2_24 : decode cX12_keeps2 24 = .ok (.ifCond .eq 80, 3) := by decide +kernel
theorem dX12_keeps2_27 : decode cX12_keeps2 27 = .ok (.iconst 0, 1) := by decide +kernel
theorem dX12_keeps2_28 : decode cX12_keeps2 28 = .ok (.istore_n 1, 1) := by decide +kernel
theorem dX12_keeps2_29 : decode cX12_keeps2 29 = .ok (.iconst 0, 1) := by decide +kernel
theorem dX12_keeps2_30 : decode cX12_keeps2 30 = .ok (.istore 4, 2) := by decide +kernel
theorem dX12_keeps2_32 : decode cX12_keeps2 32 = .ok (.iload 4, 2) := by decide +kernel
theorem dX12_keeps2_34 : decode cX12_keeps2 34 = .ok (.aload_n 0, 1) := by decide +kernel
theorem dX12_keeps2_35 : decode cX12_keeps2 35 = .ok (.iconst 1, 1) := by decide +kernel
theorem dX12_keeps2_36 : decode cX12_keeps2 36 = .ok (.iload_n 2, 1) := by decide +kernel
theorem dX12_keeps2_37 : decode cX12_keeps2 37 = .ok (.isub, 1) := by decide +kernel
theorem dX12_keeps2_38 : decode cX12_keeps2 38 = .ok (.invokevirtual 182, 3) := by decide +kernel
theorem dX12_keeps2_41 : decode cX12_keeps2 41 = .ok (.if_icmp .ge 57, 3) := by decide +kernel
theorem dX12_keeps2_44 : decode cX12_keeps2 44 = .ok (.iload_n 1, 1) := by decide +kernel
theorem dX12_keeps2_45 : decode cX12_keeps2 45 = .ok (.ifCond .ne 53, 3) := by decide +kernel
theorem dX12_keeps2_48 : decode cX12_keeps2 48 = .ok (.aload_n 0, 1) := by decide +kernel
theorem dX12_keeps2_49 : decode cX12_keeps2 49 = .ok (.iload_n 2, 1) := by decide +kernel
theorem dX12_keeps2_50 : decode cX12_keeps2 50 = .ok (.iload_n 3, 1) := by decide +kernel
theorem dX12_keeps2_51 : decode cX12_keeps2 51 = .ok (.iload 4, 2) := by decide +kernel
theorem dX12_keeps2_53 : decode cX12_keeps2 53 = .ok (.invokevirtual 185, 3) := by decide +kernel
theorem dX12_keeps2_56 : decode cX12_keeps2 56 = .ok (.aload_n 0, 1) := by decide +kernel
theorem dX12_keeps2_57 : decode cX12_keeps2 57 = .ok (.aload_n 0, 1) := by decide +kernel
theorem dX12_keeps2_58 : decode cX12_keeps2 58 = .ok (.getfield 169, 3) := by decide +kernel
theorem dX12_keeps2_61 : decode cX12_keeps2 61 = .ok (.iconst 1, 1) := by decide +kernel
theorem dX12_keeps2_62 : decode cX12_keeps2 62 = .ok (.isub, 1) := by decide +kernel
theorem dX12_keeps2_63 : decode cX12_keeps2 63 = .ok (.invokevirtual 172, 3) := by decide +kernel
theorem dX12_keeps2_66 : decode cX12_keeps2 66 = .ok (.ifCond .eq 14, 3) := by decide +kernel
theorem dX12_keeps2_69 : decode cX12_keeps2 69 = .ok (.aload_n 0, 1) := by decide +kernel
theorem dX12_keeps2_70 : decode cX12_keeps2 70 = .ok (.invokevirtual 189, 3) := by decide +kernel
theorem dX12_keeps2_73 : decode cX12_keeps2 73 = .ok (.ifCond .eq 7, 3) := by decide +kernel
theorem dX12_keeps2_76 : decode cX12_keeps2 76 = .ok (.iconst 1, 1) := by decide +kernel
theorem dX12_keeps2_77 : decode cX12_keeps2 77 = .ok (.goto 4, 3) := by decide +kernel
theorem dX12_keeps2_80 : decode cX12_keeps2 80 = .ok (.iconst 0, 1) := by decide +kernel
theorem dX12_keeps2_81 : decode cX12_keeps2 81 = .ok (.istore_n 1, 1) := by decide +kernel
theorem dX12_keeps2_82 : decode cX12_keeps2 82 = .ok (.aload_n 0, 1) := by decide +kernel
theorem dX12_keeps2_83 : decode cX12_keeps2 83 = .ok (.dup, 1) := by decide +kernel
theorem dX12_keeps2_84 : decode cX12_keeps2 84 = .ok (.getfield 169, 3) := by decide +kernel
theorem dX12_keeps2_87 : decode cX12_keeps2 87 = .ok (.iconst 1, 1) := by decide +kernel
theorem dX12_keeps2_88 : decode cX12_keeps2 88 = .ok (.isub, 1) := by decide +kernel
theorem dX12_keeps2_89 : decode cX12_keeps2 89 = .ok (.putfield 169, 3) := by decide +kernel
theorem dX12_keeps2_92 : decode cX12_keeps2 92 = .ok (.iinc 4 1, 3) := by decide +kernel
theorem dX12_keeps2_95 : decode cX12_keeps2 95 = .ok (.goto (-63), 3) := by decide +kernel
theorem dX12_keeps2_98 : decode cX12_keeps2 98 = .ok (.iinc 3 1, 3) := by decide +kernel
theorem dX12_keeps2_101 : decode cX12_keeps2 101 = .ok (.goto (-87), 3) := by decide +kernel
theorem dX12_keeps2_104 : decode cX12_keeps2 104 = .ok (.iinc 2 1, 3) := by decide +kernel
theorem dX12_keeps2_107 : decode cX12_keeps2 107 = .ok (.goto (-100), 3) := by decide +kernel
theorem dX12_keeps2_110 : decode cX12_keeps2 110 = .ok (.iload_n 1, 1) := by decide +kernel
theorem dX12_keeps2_111 : decode cX12_keeps2 111 = .ok (.ireturn, 1) := by decide +kernel
theorem dX12_keeps3_0 : decode cX12_keeps3 0 = .ok (.aload_n 0, 1) := by decide +kernel
theorem dX12_keeps3_1 : decode cX12_keeps3 1 = .ok (.invokevirtual 178, 3) := by decide +kernel
theorem dX12_keeps3_4 : decode cX12_keeps3 4 = .ok (.istore_n 1, 1) := by decide +kernel
theorem dX12_keeps3_5 : decode cX12_keeps3 5 = .ok (.iconst 0, 1) := by decide +kernel
theorem dX12_keeps3_6 : decode cX12_keeps3 6 = .ok (.istore_n 2, 1) := by decide +kernel
theorem dX12_keeps3_7 : decode cX12_keeps3 7 = .ok (.iload_n 2, 1) := by decide +kernel
theorem dX12_keeps3_8 : decode cX12_keeps3 8 = .ok (.iconst 2, 1) := by decide +kernel
theorem dX12_keeps3_9 : decode cX12_keeps3 9 = .ok (.if_icmp .ge 101, 3) := by decide +kernel
theorem dX12_keeps3_12 : decode cX12_keeps3 12 = .ok (.iconst 0, 1) := by decide +kernel
theorem dX12_keeps3_13 : decode cX12_keeps3 13 = .ok (.istore_n 3, 1) := by decide +kernel
theorem dX12_keeps3_14 : decode cX12_keeps3 14 = .ok (.iload_n 3, 1) := by decide +kernel
theorem dX12_keeps3_15 : decode cX12_keeps3 15 = .ok (.aload_n 0, 1) := by decide +kernel
theorem dX12_keeps3_16 : decode cX12_keeps3 16 = .ok (.iload_n 2, 1) := by decide +kernel
theorem dX12_keeps3_17 : decode cX12_keeps3 17 = .ok (.invokevirtual 182, 3) := by decide +kernel
theorem dX12_keeps3_20 : decode cX12_keeps3 20 = .ok (.if_icmp .ge 84, 3) := by decide +kernel
theorem dX12_keeps3_23 : decode cX12_keeps3 23 = .ok (.iload_n 1, 1) := by decide +kernel
theorem dX12_keeps3_24 : decode cX12_keeps3 24 = .ok (.ifCond .eq 80, 3) := by decide +kernel
theorem dX12_keeps3_27 : decode cX12_keeps3 27 = .ok (.iconst 0, 1) := by decide +kernel
theorem dX12_keeps3_28 : decode cX12_keeps3 28 = .ok (.istore_n 1, 1) := by decide +kernel
theorem dX12_keeps3_29 : decode cX12_keeps3 29 = .ok (.iconst 0, 1) := by decide +kernel
theorem dX12_keeps3_30 : decode cX12_keeps3 30 = .ok (.istore 4, 2) := by decide +kernel
theorem dX12_keeps3_32 : decode cX12_keeps3 32 = .ok (.iload 4, 2) := by decide +kernel
theorem dX12_keeps3_34 : decode cX12_keeps3 34 = .ok (.aload_n 0, 1) := by decide +kernel
theorem dX12_keeps3_35 : decode cX12_keeps3 35 = .ok (.iconst 1, 1) := by decide +kernel
theorem dX12_keeps3_36 : decode cX12_keeps3 36 = .ok (.iload_n 2, 1) := by decide +kernel
theorem dX12_keeps3_37 : decode cX12_keeps3 37 = .ok (.isub, 1) := by decide +kernel
theorem dX12_keeps3_38 : decode cX12_keeps3 38 = .ok (.invokevirtual 182, 3) := by decide +kernel
theorem dX12_keeps3_41 : decode cX12_keeps3 41 = .ok (.if_icmp .ge 57, 3) := by decide +kernel
theorem dX12_keeps3_44 : decode cX12_keeps3 44 = .ok (.iload_n 1, 1) := by decide +kernel
theorem dX12_keeps3_45 : decode cX12_keeps3 45 = .ok (.ifCond .ne 53, 3) := by decide +kernel
theorem dX12_keeps3_48 : decode cX12_keeps3 48 = .ok (.aload_n 0, 1) := by decide +kernel
theorem dX12_keeps3_49 : decode cX12_keeps3 49 = .ok (.iload_n 2, 1) := by decide +kernel
theorem dX12_keeps3_50 : decode cX12_keeps3 50 = .ok (.iload_n 3, 1) := by decide +kernel
theorem dX12_keeps3_51 : decode cX12_keeps3 51 = .ok (.iload 4, 2) := by decide +kernel
theorem dX12_keeps3_53 : decode cX12_keeps3 53 = .ok (.invokevirtual 185, 3) := by decide +kernel
theorem dX12_keeps3_56 : decode cX12_keeps3 56 = .ok (.aload_n 0, 1) := by decide +kernel
theorem dX12_keeps3_57 : decode cX12_keeps3 57 = .ok (.aload_n 0, 1) := by decide +kernel
theorem dX12_keeps3_58 : decode cX12_keeps3 58 = .ok (.getfield 169, 3) := by decide +kernel
theorem dX12_keeps3_61 : decode cX12_keeps3 61 = .ok (.iconst 1, 1) := by decide +kernel
theorem dX12_keeps3_62 : decode cX12_keeps3 62 = .ok (.isub, 1) := by decide +kernel
theorem dX12_keeps3_63 : decode cX12_keeps3 63 = .ok (.invokevirtual 172, 3) := by decide +kernel
theorem dX12_keeps3_66 : decode cX12_keeps3 66 = .ok (.ifCond .eq 14, 3) := by decide +kernel
theorem dX12_keeps3_69 : decode cX12_keeps3 69 = .ok (.aload_n 0, 1) := by decide +kernel
theorem dX12_keeps3_70 : decode cX12_keeps3 70 = .ok (.invokevirtual 192, 3) := by decide +kernel
theorem dX12_keeps3_73 : decode cX12_keeps3 73 = .ok (.ifCond .eq 7, 3) := by decide +kernel
theorem dX12_keeps3_76 : decode cX12_keeps3 76 = .ok (.iconst 1, 1) := by decide +kernel
theorem dX12_keeps3_77 : decode cX12_keeps3 77 = .ok (.goto 4, 3) := by decide +kernel
theorem dX12_keeps3_80 : decode cX12_keeps3 80 = .ok (.iconst 0, 1) := by decide +kernel
theorem dX12_keeps3_81 : decode cX12_keeps3 81 = .ok (.istore_n 1, 1) := by decide +kernel
theorem dX12_keeps3_82 : decode cX12_keeps3 82 = .ok (.aload_n 0, 1) := by decide +kernel
theorem dX12_keeps3_83 : decode cX12_keeps3 83 = .ok (.dup, 1) := by decide +kernel
theorem dX12_keeps3_84 : decode cX12_keeps3 84 = .ok (.getfield 169, 3) := by decide +kernel
theorem dX12_keeps3_87 : decode cX12_keeps3 87 = .ok (.iconst 1, 1) := by decide +kernel
theorem dX12_keeps3_88 : decode cX12_keeps3 88 = .ok (.isub, 1) := by decide +kernel
theorem dX12_keeps3_89 : decode cX12_keeps3 89 = .ok (.putfield 169, 3) := by decide +kernel
theorem dX12_keeps3_92 : decode cX12_keeps3 92 = .ok (.iinc 4 1, 3) := by decide +kernel
theorem dX12_keeps3_95 : decode cX12_keeps3 95 = .ok (.goto (-63), 3) := by decide +kernel
theorem dX12_keeps3_98 : decode cX12_keeps3 98 = .ok (.iinc 3 1, 3) := by decide +kernel
theorem dX12_keeps3_101 : decode cX12_keeps3 101 = .ok (.goto (-87), 3) := by decide +kernel
theorem dX12_keeps3_104 : decode cX12_keeps3 104 = .ok (.iinc 2 1, 3) := by decide +kernel
theorem dX12_keeps3_107 : decode cX12_keeps3 107 = .ok (.goto (-100), 3) := by decide +kernel
theorem dX12_keeps3_110 : decode cX12_keeps3 110 = .ok (.iload_n 1, 1) := by decide +kernel
theorem dX12_keeps3_111 : decode cX12_keeps3 111 = .ok (.ireturn, 1) := by decide +kernel
theorem dX12_keeps_0 : decode cX12_keeps 0 = .ok (.iload_n 1, 1) := by decide +kernel
theorem dX12_keeps_1 : decode cX12_keeps 1 = .ok (.ifCond .ne 10, 3) := by decide +kernel
theorem dX12_keeps_4 : decode cX12_keeps 4 = .ok (.aload_n 0, 1) := by decide +kernel
theorem dX12_keeps_5 : decode cX12_keeps 5 = .ok (.invokevirtual 178, 3) := by decide +kernel
theorem dX12_keeps_8 : decode cX12_keeps 8 = .ok (.goto 31, 3) := by decide +kernel
theorem dX12_keeps_11 : decode cX12_keeps 11 = .ok (.iload_n 1, 1) := by decide +kernel
theorem dX12_keeps_12 : decode cX12_keeps 12 = .ok (.iconst 1, 1) := by decide +kernel
theorem dX12_keeps_13 : decode cX12_keeps 13 = .ok (.if_icmp .ne 10, 3) := by decide +kernel
theorem dX12_keeps_16 : decode cX12_keeps 16 = .ok (.aload_n 0, 1) := by decide +kernel
theorem dX12_keeps_17 : decode cX12_keeps 17 = .ok (.invokevirtual 189, 3) := by decide +kernel
theorem dX12_keeps_20 : decode cX12_keeps 20 = .ok (.goto 19, 3) := by decide +kernel
theorem dX12_keeps_23 : decode cX12_keeps 23 = .ok (.iload_n 1, 1) := by decide +kernel
theorem dX12_keeps_24 : decode cX12_keeps 24 = .ok (.iconst 2, 1) := by decide +kernel
theorem dX12_keeps_25 : decode cX12_keeps 25 = .ok (.if_icmp .ne 10, 3) := by decide +kernel
theorem dX12_keeps_28 : decode cX12_keeps 28 = .ok (.aload_n 0, 1) := by decide +kernel
theorem dX12_keeps_29 : decode cX12_keeps 29 = .ok (.invokevirtual 192, 3) := by decide +kernel
theorem dX12_keeps_32 : decode cX12_keeps 32 = .ok (.goto 7, 3) := by decide +kernel
theorem dX12_keeps_35 : decode cX12_keeps 35 = .ok (.aload_n 0, 1) := by decide +kernel
theorem dX12_keeps_36 : decode cX12_keeps 36 = .ok (.invokevirtual 195, 3) := by decide +kernel
theorem dX12_keeps_39 : decode cX12_keeps 39 = .ok (.ireturn, 1) := by decide +kernel
theorem dX12_game_0 : decode cX12_game 0 = .ok (.aload_n 0, 1) := by decide +kernel
theorem dX12_game_1 : decode cX12_game 1 = .ok (.iload_n 1, 1) := by decide +kernel
theorem dX12_game_2 : decode cX12_game 2 = .ok (.invokevirtual 141, 3) := by decide +kernel
theorem dX12_game_5 : decode cX12_game 5 = .ok (.ifCond .ne 11, 3) := by decide +kernel
theorem dX12_game_8 : decode cX12_game 8 = .ok (.aload_n 0, 1) := by decide +kernel
theorem dX12_game_9 : decode cX12_game 9 = .ok (.iload_n 2, 1) := by decide +kernel
theorem dX12_game_10 : decode cX12_game 10 = .ok (.invokevirtual 141, 3) := by decide +kernel
theorem dX12_game_13 : decode cX12_game 13 = .ok (.ifCond .eq 5, 3) := by decide +kernel
theorem dX12_game_16 : decode cX12_game 16 = .ok (.iconst (-1), 1) := by decide +kernel
theorem dX12_game_17 : decode cX12_game 17 = .ok (.ireturn, 1) := by decide +kernel
theorem dX12_game_18 : decode cX12_game 18 = .ok (.iload_n 3, 1) := by decide +kernel
theorem dX12_game_19 : decode cX12_game 19 = .ok (.iconst 0, 1) := by decide +kernel
theorem dX12_game_20 : decode cX12_game 20 = .ok (.iconst 3, 1) := by decide +kernel
theorem dX12_game_21 : decode cX12_game 21 = .ok (.invokestatic 133, 3) := by decide +kernel
theorem dX12_game_24 : decode cX12_game 24 = .ok (.ifCond .ne 6, 3) := by decide +kernel
theorem dX12_game_27 : decode cX12_game 27 = .ok (.bipush (-2), 2) := by decide +kernel
theorem dX12_game_29 : decode cX12_game 29 = .ok (.ireturn, 1) := by decide +kernel
theorem dX12_game_30 : decode cX12_game 30 = .ok (.aload_n 0, 1) := by decide +kernel
theorem dX12_game_31 : decode cX12_game 31 = .ok (.iload_n 1, 1) := by decide +kernel
theorem dX12_game_32 : decode cX12_game 32 = .ok (.iload_n 2, 1) := by decide +kernel
theorem dX12_game_33 : decode cX12_game 33 = .ok (.invokevirtual 198, 3) := by decide +kernel
theorem dX12_game_36 : decode cX12_game 36 = .ok (.aload_n 0, 1) := by decide +kernel
theorem dX12_game_37 : decode cX12_game 37 = .ok (.iload_n 3, 1) := by decide +kernel
theorem dX12_game_38 : decode cX12_game 38 = .ok (.invokevirtual 201, 3) := by decide +kernel
theorem dX12_game_41 : decode cX12_game 41 = .ok (.ifCond .eq 7, 3) := by decide +kernel
theorem dX12_game_44 : decode cX12_game 44 = .ok (.iconst 1, 1) := by decide +kernel
theorem dX12_game_45 : decode cX12_game 45 = .ok (.goto 4, 3) := by decide +kernel
theorem dX12_game_48 : decode cX12_game 48 = .ok (.iconst 0, 1) := by decide +kernel
theorem dX12_game_49 : decode cX12_game 49 = .ok (.ireturn, 1) := by decide +kernel
theorem dX12_least_0 : decode cX12_least 0 = .ok (.iconst 0, 1) := by decide +kernel
theorem dX12_least_1 : decode cX12_least 1 = .ok (.istore_n 2, 1) := by decide +kernel
theorem dX12_least_2 : decode cX12_least 2 = .ok (.iload_n 2, 1) := by decide +kernel
theorem dX12_least_3 : decode cX12_least 3 = .ok (.iload_n 1, 1) := by decide +kernel
theorem dX12_least_4 : decode cX12_least 4 = .ok (.if_icmp .gt 19, 3) := by decide +kernel
theorem dX12_least_7 : decode cX12_least 7 = .ok (.aload_n 0, 1) := by decide +kernel
theorem dX12_least_8 : decode cX12_least 8 = .ok (.iload_n 2, 1) := by decide +kernel
theorem dX12_least_9 : decode cX12_least 9 = .ok (.invokevirtual 201, 3) := by decide +kernel
theorem dX12_least_12 : decode cX12_least 12 = .ok (.ifCond .ne 5, 3) := by decide +kernel
theorem dX12_least_15 : decode cX12_least 15 = .ok (.iload_n 2, 1) := by decide +kernel
theorem dX12_least_16 : decode cX12_least 16 = .ok (.ireturn, 1) := by decide +kernel
theorem dX12_least_17 : decode cX12_least 17 = .ok (.iinc 2 1, 3) := by decide +kernel
theorem dX12_least_20 : decode cX12_least 20 = .ok (.goto (-18), 3) := by decide +kernel
theorem dX12_least_23 : decode cX12_least 23 = .ok (.iconst (-1), 1) := by decide +kernel
theorem dX12_least_24 : decode cX12_least 24 = .ok (.ireturn, 1) := by decide +kernel
theorem dX12_rank_0 : decode cX12_rank 0 = .ok (.aload_n 0, 1) := by decide +kernel
theorem dX12_rank_1 : decode cX12_rank 1 = .ok (.iload_n 1, 1) := by decide +kernel
theorem dX12_rank_2 : decode cX12_rank 2 = .ok (.invokevirtual 141, 3) := by decide +kernel
theorem dX12_rank_5 : decode cX12_rank 5 = .ok (.ifCond .ne 11, 3) := by decide +kernel
theorem dX12_rank_8 : decode cX12_rank 8 = .ok (.aload_n 0, 1) := by decide +kernel
theorem dX12_rank_9 : decode cX12_rank 9 = .ok (.iload_n 2, 1) := by decide +kernel
theorem dX12_rank_10 : decode cX12_rank 10 = .ok (.invokevirtual 141, 3) := by decide +kernel
theorem dX12_rank_13 : decode cX12_rank 13 = .ok (.ifCond .eq 5, 3) := by decide +kernel
theorem dX12_rank_16 : decode cX12_rank 16 = .ok (.iconst (-1), 1) := by decide +kernel
theorem dX12_rank_17 : decode cX12_rank 17 = .ok (.ireturn, 1) := by decide +kernel
theorem dX12_rank_18 : decode cX12_rank 18 = .ok (.aload_n 0, 1) := by decide +kernel
theorem dX12_rank_19 : decode cX12_rank 19 = .ok (.iload_n 1, 1) := by decide +kernel
theorem dX12_rank_20 : decode cX12_rank 20 = .ok (.iload_n 2, 1) := by decide +kernel
theorem dX12_rank_21 : decode cX12_rank 21 = .ok (.invokevirtual 198, 3) := by decide +kernel
theorem dX12_rank_24 : decode cX12_rank 24 = .ok (.aload_n 0, 1) := by decide +kernel
theorem dX12_rank_25 : decode cX12_rank 25 = .ok (.iconst 3, 1) := by decide +kernel
theorem dX12_rank_26 : decode cX12_rank 26 = .ok (.invokevirtual 204, 3) := by decide +kernel
theorem dX12_rank_29 : decode cX12_rank 29 = .ok (.istore_n 3, 1) := by decide +kernel
theorem dX12_rank_30 : decode cX12_rank 30 = .ok (.iload_n 3, 1) := by decide +kernel
theorem dX12_rank_31 : decode cX12_rank 31 = .ok (.ifCond .ge 8, 3) := by decide +kernel
theorem dX12_rank_34 : decode cX12_rank 34 = .ok (.bipush (-9), 2) := by decide +kernel
theorem dX12_rank_36 : decode cX12_rank 36 = .ok (.goto 4, 3) := by decide +kernel
theorem dX12_rank_39 : decode cX12_rank 39 = .ok (.iload_n 3, 1) := by decide +kernel
theorem dX12_rank_40 : decode cX12_rank 40 = .ok (.ireturn, 1) := by decide +kernel
theorem dX12_copyWorld_0 : decode cX12_copyWorld 0 = .ok (.iconst 0, 1) := by decide +kernel
theorem dX12_copyWorld_1 : decode cX12_copyWorld 1 = .ok (.istore_n 3, 1) := by decide +kernel
theorem dX12_copyWorld_2 : decode cX12_copyWorld 2 = .ok (.iload_n 3, 1) := by decide +kernel
theorem dX12_copyWorld_3 : decode cX12_copyWorld 3 = .ok (.bipush 6, 2) := by decide +kernel
theorem dX12_copyWorld_5 : decode cX12_copyWorld 5 = .ok (.if_icmp .ge 43, 3) := by decide +kernel
theorem dX12_copyWorld_8 : decode cX12_copyWorld 8 = .ok (.aload_n 0, 1) := by decide +kernel
theorem dX12_copyWorld_9 : decode cX12_copyWorld 9 = .ok (.getfield 19, 3) := by decide +kernel
theorem dX12_copyWorld_12 : decode cX12_copyWorld 12 = .ok (.iload_n 3, 1) := by decide +kernel
theorem dX12_copyWorld_13 : decode cX12_copyWorld 13 = .ok (.aload_n 0, 1) := by decide +kernel
theorem dX12_copyWorld_14 : decode cX12_copyWorld 14 = .ok (.getfield 13, 3) := by decide +kernel
theorem dX12_copyWorld_17 : decode cX12_copyWorld 17 = .ok (.bipush 6, 2) := by decide +kernel
theorem dX12_copyWorld_19 : decode cX12_copyWorld 19 = .ok (.iload_n 1, 1) := by decide +kernel
theorem dX12_copyWorld_20 : decode cX12_copyWorld 20 = .ok (.imul, 1) := by decide +kernel
theorem dX12_copyWorld_21 : decode cX12_copyWorld 21 = .ok (.iload_n 3, 1) := by decide +kernel
theorem dX12_copyWorld_22 : decode cX12_copyWorld 22 = .ok (.iadd, 1) := by decide +kernel
theorem dX12_copyWorld_23 : decode cX12_copyWorld 23 = .ok (.iaload, 1) := by decide +kernel
theorem dX12_copyWorld_24 : decode cX12_copyWorld 24 = .ok (.iastore, 1) := by decide +kernel
theorem dX12_copyWorld_25 : decode cX12_copyWorld 25 = .ok (.aload_n 0, 1) := by decide +kernel
theorem dX12_copyWorld_26 : decode cX12_copyWorld 26 = .ok (.getfield 22, 3) := by decide +kernel
theorem dX12_copyWorld_29 : decode cX12_copyWorld 29 = .ok (.iload_n 3, 1) := by decide +kernel
theorem dX12_copyWorld_30 : decode cX12_copyWorld 30 = .ok (.aload_n 0, 1) := by decide +kernel
theorem dX12_copyWorld_31 : decode cX12_copyWorld 31 = .ok (.getfield 16, 3) := by decide +kernel
theorem dX12_copyWorld_34 : decode cX12_copyWorld 34 = .ok (.bipush 6, 2) := by decide +kernel
theorem dX12_copyWorld_36 : decode cX12_copyWorld 36 = .ok (.iload_n 1, 1) := by decide +kernel
theorem dX12_copyWorld_37 : decode cX12_copyWorld 37 = .ok (.imul, 1) := by decide +kernel
theorem dX12_copyWorld_38 : decode cX12_copyWorld 38 = .ok (.iload_n 3, 1) := by decide +kernel
theorem dX12_copyWorld_39 : decode cX12_copyWorld 39 = .ok (.iadd, 1) := by decide +kernel
theorem dX12_copyWorld_40 : decode cX12_copyWorld 40 = .ok (.iaload, 1) := by decide +kernel
theorem dX12_copyWorld_41 : decode cX12_copyWorld 41 = .ok (.iastore, 1) := by decide +kernel
theorem dX12_copyWorld_42 : decode cX12_copyWorld 42 = .ok (.iinc 3 1, 3) := by decide +kernel
theorem dX12_copyWorld_45 : decode cX12_copyWorld 45 = .ok (.goto (-43), 3) := by decide +kernel
theorem dX12_copyWorld_48 : decode cX12_copyWorld 48 = .ok (.aload_n 0, 1) := by decide +kernel
theorem dX12_copyWorld_49 : decode cX12_copyWorld 49 = .ok (.iload_n 2, 1) := by decide +kernel
theorem dX12_copyWorld_50 : decode cX12_copyWorld 50 = .ok (.aload_n 0, 1) := by decide +kernel
theorem dX12_copyWorld_51 : decode cX12_copyWorld 51 = .ok (.getfield 7, 3) := by decide +kernel
theorem dX12_copyWorld_54 : decode cX12_copyWorld 54 = .ok (.iload_n 1, 1) := by decide +kernel
theorem dX12_copyWorld_55 : decode cX12_copyWorld 55 = .ok (.iaload, 1) := by decide +kernel
theorem dX12_copyWorld_56 : decode cX12_copyWorld 56 = .ok (.invokevirtual 155, 3) := by decide +kernel
theorem dX12_copyWorld_59 : decode cX12_copyWorld 59 = .ok (.return_, 1) := by decide +kernel
theorem dX12_layPlay_0 : decode cX12_layPlay 0 = .ok (.aload_n 0, 1) := by decide +kernel
theorem dX12_layPlay_1 : decode cX12_layPlay 1 = .ok (.bipush 6, 2) := by decide +kernel
theorem dX12_layPlay_3 : decode cX12_layPlay 3 = .ok (.bipush 7, 2) := by decide +kernel
theorem dX12_layPlay_5 : decode cX12_layPlay 5 = .ok (.invokevirtual 198, 3) := by decide +kernel
theorem dX12_layPlay_8 : decode cX12_layPlay 8 = .ok (.iconst 0, 1) := by decide +kernel
theorem dX12_layPlay_9 : decode cX12_layPlay 9 = .ok (.istore_n 1, 1) := by decide +kernel
theorem dX12_layPlay_10 : decode cX12_layPlay 10 = .ok (.iload_n 1, 1) := by decide +kernel
theorem dX12_layPlay_11 : decode cX12_layPlay 11 = .ok (.aload_n 0, 1) := by decide +kernel
theorem dX12_layPlay_12 : decode cX12_layPlay 12 = .ok (.getfield 207, 3) := by decide +kernel
theorem dX12_layPlay_15 : decode cX12_layPlay 15 = .ok (.if_icmp .ge 25, 3) := by decide +kernel
theorem dX12_layPlay_18 : decode cX12_layPlay 18 = .ok (.aload_n 0, 1) := by decide +kernel
theorem dX12_layPlay_19 : decode cX12_layPlay 19 = .ok (.aload_n 0, 1) := by decide +kernel
theorem dX12_layPlay_20 : decode cX12_layPlay 20 = .ok (.getfield 31, 3) := by decide +kernel
theorem dX12_layPlay_23 : decode cX12_layPlay 23 = .ok (.iload_n 1, 1) := by decide +kernel
theorem dX12_layPlay_24 : decode cX12_layPlay 24 = .ok (.iaload, 1) := by decide +kernel
theorem dX12_layPlay_25 : decode cX12_layPlay 25 = .ok (.aload_n 0, 1) := by decide +kernel
theorem dX12_layPlay_26 : decode cX12_layPlay 26 = .ok (.getfield 34, 3) := by decide +kernel
theorem dX12_layPlay_29 : decode cX12_layPlay 29 = .ok (.iload_n 1, 1) := by decide +kernel
theorem dX12_layPlay_30 : decode cX12_layPlay 30 = .ok (.iaload, 1) := by decide +kernel
theorem dX12_layPlay_31 : decode cX12_layPlay 31 = .ok (.invokevirtual 175, 3) := by decide +kernel
theorem dX12_layPlay_34 : decode cX12_layPlay 34 = .ok (.iinc 1 1, 3) := by decide +kernel
theorem dX12_layPlay_37 : decode cX12_layPlay 37 = .ok (.goto (-27), 3) := by decide +kernel
theorem dX12_layPlay_40 : decode cX12_layPlay 40 = .ok (.return_, 1) := by decide +kernel
theorem dX12_judge_0 : decode cX12_judge 0 = .ok (.aload_n 0, 1) := by decide +kernel
theorem dX12_judge_1 : decode cX12_judge 1 = .ok (.invokevirtual 210, 3) := by decide +kernel
theorem dX12_judge_4 : decode cX12_judge 4 = .ok (.aload_n 0, 1) := by decide +kernel
theorem dX12_judge_5 : decode cX12_judge 5 = .ok (.aload_n 0, 1) := by decide +kernel
theorem dX12_judge_6 : decode cX12_judge 6 = .ok (.invokevirtual 178, 3) := by decide +kernel
theorem dX12_judge_9 : decode cX12_judge 9 = .ok (.ifCond .ne 7, 3) := by decide +kernel
theorem dX12_judge_12 : decode cX12_judge 12 = .ok (.iconst 4, 1) := by decide +kernel
theorem dX12_judge_13 : decode cX12_judge 13 = .ok (.goto 15, 3) := by decide +kernel
theorem dX12_judge_16 : decode cX12_judge 16 = .ok (.aload_n 0, 1) := by decide +kernel
theorem dX12_judge_17 : decode cX12_judge 17 = .ok (.getfield 213, 3) := by decide +kernel
theorem dX12_judge_20 : decode cX12_judge 20 = .ok (.ifCond .ne 7, 3) := by decide +kernel
theorem dX12_judge_23 : decode cX12_judge 23 = .ok (.iconst 3, 1) := by decide +kernel
theorem dX12_judge_24 : decode cX12_judge 24 = .ok (.goto 4, 3) := by decide +kernel
theorem dX12_judge_27 : decode cX12_judge 27 = .ok (.iconst 1, 1) := by decide +kernel
theorem dX12_judge_28 : decode cX12_judge 28 = .ok (.putfield 126, 3) := by decide +kernel
theorem dX12_judge_31 : decode cX12_judge 31 = .ok (.return_, 1) := by decide +kernel
theorem dX12_play_0 : decode cX12_play 0 = .ok (.aload_n 0, 1) := by decide +kernel
theorem dX12_play_1 : decode cX12_play 1 = .ok (.iload_n 1, 1) := by decide +kernel
theorem dX12_play_2 : decode cX12_play 2 = .ok (.invokevirtual 141, 3) := by decide +kernel
theorem dX12_play_5 : decode cX12_play 5 = .ok (.ifCond .ne 11, 3) := by decide +kernel
theorem dX12_play_8 : decode cX12_play 8 = .ok (.aload_n 0, 1) := by decide +kernel
theorem dX12_play_9 : decode cX12_play 9 = .ok (.iload_n 2, 1) := by decide +kernel
theorem dX12_play_10 : decode cX12_play 10 = .ok (.invokevirtual 141, 3) := by decide +kernel
theorem dX12_play_13 : decode cX12_play 13 = .ok (.ifCond .eq 5, 3) := by decide +kernel
theorem dX12_play_16 : decode cX12_play 16 = .ok (.iconst (-1), 1) := by decide +kernel
theorem dX12_play_17 : decode cX12_play 17 = .ok (.ireturn, 1) := by decide +kernel
theorem dX12_play_18 : decode cX12_play 18 = .ok (.iload_n 3, 1) := by decide +kernel
theorem dX12_play_19 : decode cX12_play 19 = .ok (.iconst 0, 1) := by decide +kernel
theorem dX12_play_20 : decode cX12_play 20 = .ok (.iconst 3, 1) := by decide +kernel
theorem dX12_play_21 : decode cX12_play 21 = .ok (.invokestatic 133, 3) := by decide +kernel
theorem dX12_play_24 : decode cX12_play 24 = .ok (.ifCond .ne 6, 3) := by decide +kernel
theorem dX12_play_27 : decode cX12_play 27 = .ok (.bipush (-2), 2) := by decide +kernel
theorem dX12_play_29 : decode cX12_play 29 = .ok (.ireturn, 1) := by decide +kernel
theorem dX12_play_30 : decode cX12_play 30 = .ok (.aload_n 0, 1) := by decide +kernel
theorem dX12_play_31 : decode cX12_play 31 = .ok (.iload_n 1, 1) := by decide +kernel
theorem dX12_play_32 : decode cX12_play 32 = .ok (.bipush 6, 2) := by decide +kernel
theorem dX12_play_34 : decode cX12_play 34 = .ok (.invokevirtual 216, 3) := by decide +kernel
theorem dX12_play_37 : decode cX12_play 37 = .ok (.aload_n 0, 1) := by decide +kernel
theorem dX12_play_38 : decode cX12_play 38 = .ok (.iload_n 2, 1) := by decide +kernel
theorem dX12_play_39 : decode cX12_play 39 = .ok (.bipush 7, 2) := by decide +kernel
theorem dX12_play_41 : decode cX12_play 41 = .ok (.invokevirtual 216, 3) := by decide +kernel
theorem dX12_play_44 : decode cX12_play 44 = .ok (.aload_n 0, 1) := by decide +kernel
theorem dX12_play_45 : decode cX12_play 45 = .ok (.iload_n 3, 1) := by decide +kernel
theorem dX12_play_46 : decode cX12_play 46 = .ok (.putfield 213, 3) := by decide +kernel
theorem dX12_play_49 : decode cX12_play 49 = .ok (.aload_n 0, 1) := by decide +kernel
theorem dX12_play_50 : decode cX12_play 50 = .ok (.iconst 0, 1) := by decide +kernel
theorem dX12_play_51 : decode cX12_play 51 = .ok (.putfield 207, 3) := by decide +kernel
theorem dX12_play_54 : decode cX12_play 54 = .ok (.aload_n 0, 1) := by decide +kernel
theorem dX12_play_55 : decode cX12_play 55 = .ok (.invokevirtual 219, 3) := by decide +kernel
theorem dX12_play_58 : decode cX12_play 58 = .ok (.iconst 1, 1) := by decide +kernel
theorem dX12_play_59 : decode cX12_play 59 = .ok (.ireturn, 1) := by decide +kernel
theorem dX12_pick_0 : decode cX12_pick 0 = .ok (.aload_n 0, 1) := by decide +kernel
theorem dX12_pick_1 : decode cX12_pick 1 = .ok (.getfield 126, 3) := by decide +kernel
theorem dX12_pick_4 : decode cX12_pick 4 = .ok (.iconst 1, 1) := by decide +kernel
theorem dX12_pick_5 : decode cX12_pick 5 = .ok (.if_icmp .eq 6, 3) := by decide +kernel
theorem dX12_pick_8 : decode cX12_pick 8 = .ok (.bipush (-3), 2) := by decide +kernel
theorem dX12_pick_10 : decode cX12_pick 10 = .ok (.ireturn, 1) := by decide +kernel
theorem dX12_pick_11 : decode cX12_pick 11 = .ok (.iload_n 1, 1) := by decide +kernel
theorem dX12_pick_12 : decode cX12_pick 12 = .ok (.iconst 0, 1) := by decide +kernel
theorem dX12_pick_13 : decode cX12_pick 13 = .ok (.iconst 1, 1) := by decide +kernel
theorem dX12_pick_14 : decode cX12_pick 14 = .ok (.invokestatic 133, 3) := by decide +kernel
theorem dX12_pick_17 : decode cX12_pick 17 = .ok (.ifCond .eq 22, 3) := by decide +kernel
theorem dX12_pick_20 : decode cX12_pick 20 = .ok (.iload_n 2, 1) := by decide +kernel
theorem dX12_pick_21 : decode cX12_pick 21 = .ok (.iconst 0, 1) := by decide +kernel
theorem dX12_pick_22 : decode cX12_pick 22 = .ok (.aload_n 0, 1) := by decide +kernel
theorem dX12_pick_23 : decode cX12_pick 23 = .ok (.getfield 7, 3) := by decide +kernel
theorem dX12_pick_26 : decode cX12_pick 26 = .ok (.bipush 6, 2) := by decide +kernel
theorem dX12_pick_28 : decode cX12_pick 28 = .ok (.iload_n 1, 1) := by decide +kernel
theorem dX12_pick_29 : decode cX12_pick 29 = .ok (.iadd, 1) := by decide +kernel
theorem dX12_pick_30 : decode cX12_pick 30 = .ok (.iaload, 1) := by decide +kernel
theorem dX12_pick_31 : decode cX12_pick 31 = .ok (.iconst 1, 1) := by decide +kernel
theorem dX12_pick_32 : decode cX12_pick 32 = .ok (.isub, 1) := by decide +kernel
theorem dX12_pick_33 : decode cX12_pick 33 = .ok (.invokestatic 133, 3) := by decide +kernel
theorem dX12_pick_36 : decode cX12_pick 36 = .ok (.ifCond .ne 6, 3) := by decide +kernel
theorem dX12_pick_39 : decode cX12_pick 39 = .ok (.bipush (-2), 2) := by decide +kernel
theorem dX12_pick_41 : decode cX12_pick 41 = .ok (.ireturn, 1) := by decide +kernel
theorem dX12_pick_42 : decode cX12_pick 42 = .ok (.aload_n 0, 1) := by decide +kernel
theorem dX12_pick_43 : decode cX12_pick 43 = .ok (.iload_n 1, 1) := by decide +kernel
theorem dX12_pick_44 : decode cX12_pick 44 = .ok (.putfield 222, 3) := by decide +kernel
theorem dX12_pick_47 : decode cX12_pick 47 = .ok (.aload_n 0, 1) := by decide +kernel
theorem dX12_pick_48 : decode cX12_pick 48 = .ok (.iload_n 2, 1) := by decide +kernel
theorem dX12_pick_49 : decode cX12_pick 49 = .ok (.putfield 225, 3) := by decide +kernel
theorem dX12_pick_52 : decode cX12_pick 52 = .ok (.aload_n 0, 1) := by decide +kernel
theorem dX12_pick_53 : decode cX12_pick 53 = .ok (.iconst 2, 1) := by decide +kernel
theorem dX12_pick_54 : decode cX12_pick 54 = .ok (.putfield 126, 3) := by decide +kernel
theorem dX12_pick_57 : decode cX12_pick 57 = .ok (.iconst 1, 1) := by decide +kernel
theorem dX12_pick_58 : decode cX12_pick 58 = .ok (.ireturn, 1) := by decide +kernel
theorem dX12_answer_0 : decode cX12_answer 0 = .ok (.aload_n 0, 1) := by decide +kernel
theorem dX12_answer_1 : decode cX12_answer 1 = .ok (.getfield 126, 3) := by decide +kernel
theorem dX12_answer_4 : decode cX12_answer 4 = .ok (.iconst 2, 1) := by decide +kernel
theorem dX12_answer_5 : decode cX12_answer 5 = .ok (.if_icmp .eq 6, 3) := by decide +kernel
theorem dX12_answer_8 : decode cX12_answer 8 = .ok (.bipush (-3), 2) := by decide +kernel
theorem dX12_answer_10 : decode cX12_answer 10 = .ok (.ireturn, 1) := by decide +kernel
theorem dX12_answer_11 : decode cX12_answer 11 = .ok (.iload_n 1, 1) := by decide +kernel
theorem dX12_answer_12 : decode cX12_answer 12 = .ok (.iconst 0, 1) := by decide +kernel
theorem dX12_answer_13 : decode cX12_answer 13 = .ok (.aload_n 0, 1) := by decide +kernel
theorem dX12_answer_14 : decode cX12_answer 14 = .ok (.getfield 7, 3) := by decide +kernel
theorem dX12_answer_17 : decode cX12_answer 17 = .ok (.bipush 7, 2) := by decide +kernel
theorem dX12_answer_19 : decode cX12_answer 19 = .ok (.aload_n 0, 1) := by decide +kernel
theorem dX12_answer_20 : decode cX12_answer 20 = .ok (.getfield 222, 3) := by decide +kernel
theorem dX12_answer_23 : decode cX12_answer 23 = .ok (.isub, 1) := by decide +kernel
theorem dX12_answer_24 : decode cX12_answer 24 = .ok (.iaload, 1) := by decide +kernel
theorem dX12_answer_25 : decode cX12_answer 25 = .ok (.iconst 1, 1) := by decide +kernel
theorem dX12_answer_26 : decode cX12_answer 26 = .ok (.isub, 1) := by decide +kernel
theorem dX12_answer_27 : decode cX12_answer 27 = .ok (.invokestatic 133, 3) := by decide +kernel
theorem dX12_answer_30 : decode cX12_answer 30 = .ok (.ifCond .ne 6, 3) := by decide +kernel
theorem dX12_answer_33 : decode cX12_answer 33 = .ok (.bipush (-2), 2) := by decide +kernel
theorem dX12_answer_35 : decode cX12_answer 35 = .ok (.ireturn, 1) := by decide +kernel
theorem dX12_answer_36 : decode cX12_answer 36 = .ok (.aload_n 0, 1) := by decide +kernel
theorem dX12_answer_37 : decode cX12_answer 37 = .ok (.getfield 31, 3) := by decide +kernel
theorem dX12_answer_40 : decode cX12_answer 40 = .ok (.aload_n 0, 1) := by decide +kernel
theorem dX12_answer_41 : decode cX12_answer 41 = .ok (.getfield 207, 3) := by decide +kernel
theorem dX12_answer_44 : decode cX12_answer 44 = .ok (.aload_n 0, 1) := by decide +kernel
theorem dX12_answer_45 : decode cX12_answer 45 = .ok (.getfield 222, 3) := by decide +kernel
theorem dX12_answer_48 : decode cX12_answer 48 = .ok (.ifCond .ne 10, 3) := by decide +kernel
theorem dX12_answer_51 : decode cX12_answer 51 = .ok (.aload_n 0, 1) := by decide +kernel
theorem dX12_answer_52 : decode cX12_answer 52 = .ok (.getfield 225, 3) := by decide +kernel
theorem dX12_answer_55 : decode cX12_answer 55 = .ok (.goto 4, 3) := by decide +kernel
theorem dX12_answer_58 : decode cX12_answer 58 = .ok (.iload_n 1, 1) := by decide +kernel
theorem dX12_answer_59 : decode cX12_answer 59 = .ok (.iastore, 1) := by decide +kernel
theorem dX12_answer_60 : decode cX12_answer 60 = .ok (.aload_n 0, 1) := by decide +kernel
theorem dX12_answer_61 : decode cX12_answer 61 = .ok (.getfield 34, 3) := by decide +kernel
theorem dX12_answer_64 : decode cX12_answer 64 = .ok (.aload_n 0, 1) := by decide +kernel
theorem dX12_answer_65 : decode cX12_answer 65 = .ok (.getfield 207, 3) := by decide +kernel
theorem dX12_answer_68 : decode cX12_answer 68 = .ok (.aload_n 0, 1) := by decide +kernel
theorem dX12_answer_69 : decode cX12_answer 69 = .ok (.getfield 222, 3) := by decide +kernel
theorem dX12_answer_72 : decode cX12_answer 72 = .ok (.ifCond .ne 7, 3) := by decide +kernel
theorem dX12_answer_75 : decode cX12_answer 75 = .ok (.iload_n 1, 1) := by decide +kernel
theorem dX12_answer_76 : decode cX12_answer 76 = .ok (.goto 7, 3) := by decide +kernel
theorem dX12_answer_79 : decode cX12_answer 79 = .ok (.aload_n 0, 1) := by decide +kernel
theorem dX12_answer_80 : decode cX12_answer 80 = .ok (.getfield 225, 3) := by decide +kernel
theorem dX12_answer_83 : decode cX12_answer 83 = .ok (.iastore, 1) := by decide +kernel
theorem dX12_answer_84 : decode cX12_answer 84 = .ok (.aload_n 0, 1) := by decide +kernel
theorem dX12_answer_85 : decode cX12_answer 85 = .ok (.dup, 1) := by decide +kernel
theorem dX12_answer_86 : decode cX12_answer 86 = .ok (.getfield 207, 3) := by decide +kernel
theorem dX12_answer_89 : decode cX12_answer 89 = .ok (.iconst 1, 1) := by decide +kernel
theorem dX12_answer_90 : decode cX12_answer 90 = .ok (.iadd, 1) := by decide +kernel
theorem dX12_answer_91 : decode cX12_answer 91 = .ok (.putfield 207, 3) := by decide +kernel
theorem dX12_answer_94 : decode cX12_answer 94 = .ok (.aload_n 0, 1) := by decide +kernel
theorem dX12_answer_95 : decode cX12_answer 95 = .ok (.dup, 1) := by decide +kernel
theorem dX12_answer_96 : decode cX12_answer 96 = .ok (.getfield 213, 3) := by decide +kernel
theorem dX12_answer_99 : decode cX12_answer 99 = .ok (.iconst 1, 1) := by decide +kernel
theorem dX12_answer_100 : decode cX12_answer 100 = .ok (.isub, 1) := by decide +kernel
theorem dX12_answer_101 : decode cX12_answer 101 = .ok (.putfield 213, 3) := by decide +kernel
theorem dX12_answer_104 : decode cX12_answer 104 = .ok (.aload_n 0, 1) := by decide +kernel
theorem dX12_answer_105 : decode cX12_answer 105 = .ok (.invokevirtual 219, 3) := by decide +kernel
theorem dX12_answer_108 : decode cX12_answer 108 = .ok (.iconst 1, 1) := by decide +kernel
theorem dX12_answer_109 : decode cX12_answer 109 = .ok (.ireturn, 1) := by decide +kernel
theorem dX12_answerTo_0 : decode cX12_answerTo 0 = .ok (.iconst 0, 1) := by decide +kernel
theorem dX12_answerTo_1 : decode cX12_answerTo 1 = .ok (.istore 4, 2) := by decide +kernel
theorem dX12_answerTo_3 : decode cX12_answerTo 3 = .ok (.iload 4, 2) := by decide +kernel
theorem dX12_answerTo_5 : decode cX12_answerTo 5 = .ok (.aload_n 0, 1) := by decide +kernel
theorem dX12_answerTo_6 : decode cX12_answerTo 6 = .ok (.iconst 1, 1) := by decide +kernel
theorem dX12_answerTo_7 : decode cX12_answerTo 7 = .ok (.iload_n 1, 1) := by decide +kernel
theorem dX12_answerTo_8 : decode cX12_answerTo 8 = .ok (.isub, 1) := by decide +kernel
theorem dX12_answerTo_9 : decode cX12_answerTo 9 = .ok (.invokevirtual 182, 3) := by decide +kernel
theorem dX12_answerTo_12 : decode cX12_answerTo 12 = .ok (.if_icmp .ge 42, 3) := by decide +kernel
theorem dX12_answerTo_15 : decode cX12_answerTo 15 = .ok (.aload_n 0, 1) := by decide +kernel
theorem dX12_answerTo_16 : decode cX12_answerTo 16 = .ok (.iload_n 1, 1) := by decide +kernel
theorem dX12_answerTo_17 : decode cX12_answerTo 17 = .ok (.iload_n 2, 1) := by decide +kernel
theorem dX12_answerTo_18 : decode cX12_answerTo 18 = .ok (.iload 4, 2) := by decide +kernel
theorem dX12_answerTo_20 : decode cX12_answerTo 20 = .ok (.invokevirtual 185, 3) := by decide +kernel
theorem dX12_answerTo_23 : decode cX12_answerTo 23 = .ok (.aload_n 0, 1) := by decide +kernel
theorem dX12_answerTo_24 : decode cX12_answerTo 24 = .ok (.iload_n 3, 1) := by decide +kernel
theorem dX12_answerTo_25 : decode cX12_answerTo 25 = .ok (.invokevirtual 201, 3) := by decide +kernel
theorem dX12_answerTo_28 : decode cX12_answerTo 28 = .ok (.istore 5, 2) := by decide +kernel
theorem dX12_answerTo_30 : decode cX12_answerTo 30 = .ok (.aload_n 0, 1) := by decide +kernel
theorem dX12_answerTo_31 : decode cX12_answerTo 31 = .ok (.dup, 1) := by decide +kernel
theorem dX12_answerTo_32 : decode cX12_answerTo 32 = .ok (.getfield 169, 3) := by decide +kernel
theorem dX12_answerTo_35 : decode cX12_answerTo 35 = .ok (.iconst 1, 1) := by decide +kernel
theorem dX12_answerTo_36 : decode cX12_answerTo 36 = .ok (.isub, 1) := by decide +kernel
theorem dX12_answerTo_37 : decode cX12_answerTo 37 = .ok (.putfield 169, 3) := by decide +kernel
theorem dX12_answerTo_40 : decode cX12_answerTo 40 = .ok (.iload 5, 2) := by decide +kernel
theorem dX12_answerTo_42 : decode cX12_answerTo 42 = .ok (.ifCond .eq 6, 3) := by decide +kernel
theorem dX12_answerTo_45 : decode cX12_answerTo 45 = .ok (.iload 4, 2) := by decide +kernel
theorem dX12_answerTo_47 : decode cX12_answerTo 47 = .ok (.ireturn, 1) := by decide +kernel
theorem dX12_answerTo_48 : decode cX12_answerTo 48 = .ok (.iinc 4 1, 3) := by decide +kernel
theorem dX12_answerTo_51 : decode cX12_answerTo 51 = .ok (.goto (-48), 3) := by decide +kernel
theorem dX12_answerTo_54 : decode cX12_answerTo 54 = .ok (.iconst (-1), 1) := by decide +kernel
theorem dX12_answerTo_55 : decode cX12_answerTo 55 = .ok (.ireturn, 1) := by decide +kernel
theorem dX12_best_0 : decode cX12_best 0 = .ok (.aload_n 0, 1) := by decide +kernel
theorem dX12_best_1 : decode cX12_best 1 = .ok (.getfield 126, 3) := by decide +kernel
theorem dX12_best_4 : decode cX12_best 4 = .ok (.iconst 1, 1) := by decide +kernel
theorem dX12_best_5 : decode cX12_best 5 = .ok (.if_icmp .eq 14, 3) := by decide +kernel
theorem dX12_best_8 : decode cX12_best 8 = .ok (.aload_n 0, 1) := by decide +kernel
theorem dX12_best_9 : decode cX12_best 9 = .ok (.getfield 126, 3) := by decide +kernel
theorem dX12_best_12 : decode cX12_best 12 = .ok (.iconst 2, 1) := by decide +kernel
theorem dX12_best_13 : decode cX12_best 13 = .ok (.if_icmp .eq 6, 3) := by decide +kernel
theorem dX12_best_16 : decode cX12_best 16 = .ok (.bipush (-3), 2) := by decide +kernel
theorem dX12_best_18 : decode cX12_best 18 = .ok (.ireturn, 1) := by decide +kernel
theorem dX12_best_19 : decode cX12_best 19 = .ok (.aload_n 0, 1) := by decide +kernel
theorem dX12_best_20 : decode cX12_best 20 = .ok (.invokevirtual 210, 3) := by decide +kernel
theorem dX12_best_23 : decode cX12_best 23 = .ok (.aload_n 0, 1) := by decide +kernel
theorem dX12_best_24 : decode cX12_best 24 = .ok (.getfield 126, 3) := by decide +kernel
theorem dX12_best_27 : decode cX12_best 27 = .ok (.iconst 2, 1) := by decide +kernel
theorem dX12_best_28 : decode cX12_best 28 = .ok (.if_icmp .ne 33, 3) := by decide +kernel
theorem dX12_best_31 : decode cX12_best 31 = .ok (.aload_n 0, 1) := by decide +kernel
theorem dX12_best_32 : decode cX12_best 32 = .ok (.aload_n 0, 1) := by decide +kernel
theorem dX12_best_33 : decode cX12_best 33 = .ok (.getfield 222, 3) := by decide +kernel
theorem dX12_best_36 : decode cX12_best 36 = .ok (.aload_n 0, 1) := by decide +kernel
theorem dX12_best_37 : decode cX12_best 37 = .ok (.getfield 225, 3) := by decide +kernel
theorem dX12_best_40 : decode cX12_best 40 = .ok (.aload_n 0, 1) := by decide +kernel
theorem dX12_best_41 : decode cX12_best 41 = .ok (.getfield 213, 3) := by decide +kernel
theorem dX12_best_44 : decode cX12_best 44 = .ok (.iconst 1, 1) := by decide +kernel
theorem dX12_best_45 : decode cX12_best 45 = .ok (.isub, 1) := by decide +kernel
theorem dX12_best_46 : decode cX12_best 46 = .ok (.invokevirtual 228, 3) := by decide +kernel
theorem dX12_best_49 : decode cX12_best 49 = .ok (.istore_n 1, 1) := by decide +kernel
theorem dX12_best_50 : decode cX12_best 50 = .ok (.iload_n 1, 1) := by decide +kernel
theorem dX12_best_51 : decode cX12_best 51 = .ok (.ifCond .ge 8, 3) := by decide +kernel
theorem dX12_best_54 : decode cX12_best 54 = .ok (.bipush (-9), 2) := by decide +kernel
theorem dX12_best_56 : decode cX12_best 56 = .ok (.goto 4, 3) := by decide +kernel
theorem dX12_best_59 : decode cX12_best 59 = .ok (.iload_n 1, 1) := by decide +kernel
theorem dX12_best_60 : decode cX12_best 60 = .ok (.ireturn, 1) := by decide +kernel
theorem dX12_best_61 : decode cX12_best 61 = .ok (.iconst 0, 1) := by decide +kernel
theorem dX12_best_62 : decode cX12_best 62 = .ok (.istore_n 1, 1) := by decide +kernel
theorem dX12_best_63 : decode cX12_best 63 = .ok (.iload_n 1, 1) := by decide +kernel
theorem dX12_best_64 : decode cX12_best 64 = .ok (.iconst 2, 1) := by decide +kernel
theorem dX12_best_65 : decode cX12_best 65 = .ok (.if_icmp .ge 48, 3) := by decide +kernel
theorem dX12_best_68 : decode cX12_best 68 = .ok (.iconst 0, 1) := by decide +kernel
theorem dX12_best_69 : decode cX12_best 69 = .ok (.istore_n 2, 1) := by decide +kernel
theorem dX12_best_70 : decode cX12_best 70 = .ok (.iload_n 2, 1) := by decide +kernel
theorem dX12_best_71 : decode cX12_best 71 = .ok (.aload_n 0, 1) := by decide +kernel
theorem dX12_best_72 : decode cX12_best 72 = .ok (.iload_n 1, 1) := by decide +kernel
theorem dX12_best_73 : decode cX12_best 73 = .ok (.invokevirtual 182, 3) := by decide +kernel
theorem dX12_best_76 : decode cX12_best 76 = .ok (.if_icmp .ge 31, 3) := by decide +kernel
theorem dX12_best_79 : decode cX12_best 79 = .ok (.aload_n 0, 1) := by decide +kernel
theorem dX12_best_80 : decode cX12_best 80 = .ok (.iload_n 1, 1) := by decide +kernel
theorem dX12_best_81 : decode cX12_best 81 = .ok (.iload_n 2, 1) := by decide +kernel
theorem dX12_best_82 : decode cX12_best 82 = .ok (.aload_n 0, 1) := by decide +kernel
theorem dX12_best_83 : decode cX12_best 83 = .ok (.getfield 213, 3) := by decide +kernel
theorem dX12_best_86 : decode cX12_best 86 = .ok (.iconst 1, 1) := by decide +kernel
theorem dX12_best_87 : decode cX12_best 87 = .ok (.isub, 1) := by decide +kernel
theorem dX12_best_88 : decode cX12_best 88 = .ok (.invokevirtual 228, 3) := by decide +kernel
theorem dX12_best_91 : decode cX12_best 91 = .ok (.ifCond .ge 10, 3) := by decide +kernel
theorem dX12_best_94 : decode cX12_best 94 = .ok (.bipush 10, 2) := by decide +kernel
theorem dX12_best_96 : decode cX12_best 96 = .ok (.iload_n 1, 1) := by decide +kernel
theorem dX12_best_97 : decode cX12_best 97 = .ok (.imul, 1) := by decide +kernel
theorem dX12_best_98 : decode cX12_best 98 = .ok (.iload_n 2, 1) := by decide +kernel
theorem dX12_best_99 : decode cX12_best 99 = .ok (.iadd, 1) := by decide +kernel
theorem dX12_best_100 : decode cX12_best 100 = .ok (.ireturn, 1) := by decide +kernel
theorem dX12_best_101 : decode cX12_best 101 = .ok (.iinc 2 1, 3) := by decide +kernel
theorem dX12_best_104 : decode cX12_best 104 = .ok (.goto (-34), 3) := by decide +kernel
theorem dX12_best_107 : decode cX12_best 107 = .ok (.iinc 1 1, 3) := by decide +kernel
theorem dX12_best_110 : decode cX12_best 110 = .ok (.goto (-47), 3) := by decide +kernel
theorem dX12_best_113 : decode cX12_best 113 = .ok (.bipush (-9), 2) := by decide +kernel
theorem dX12_best_115 : decode cX12_best 115 = .ok (.ireturn, 1) := by decide +kernel
theorem dX12_state_0 : decode cX12_state 0 = .ok (.aload_n 0, 1) := by decide +kernel
theorem dX12_state_1 : decode cX12_state 1 = .ok (.getfield 126, 3) := by decide +kernel
theorem dX12_state_4 : decode cX12_state 4 = .ok (.ireturn, 1) := by decide +kernel
theorem dX12_left_0 : decode cX12_left 0 = .ok (.aload_n 0, 1) := by decide +kernel
theorem dX12_left_1 : decode cX12_left 1 = .ok (.getfield 126, 3) := by decide +kernel
theorem dX12_left_4 : decode cX12_left 4 = .ok (.ifCond .ne 8, 3) := by decide +kernel
theorem dX12_left_7 : decode cX12_left 7 = .ok (.bipush (-3), 2) := by decide +kernel
theorem dX12_left_9 : decode cX12_left 9 = .ok (.goto 7, 3) := by decide +kernel
theorem dX12_left_12 : decode cX12_left 12 = .ok (.aload_n 0, 1) := by decide +kernel
theorem dX12_left_13 : decode cX12_left 13 = .ok (.getfield 213, 3) := by decide +kernel
theorem dX12_left_16 : decode cX12_left 16 = .ok (.ireturn, 1) := by decide +kernel
theorem dX12_feed_0 : decode cX12_feed 0 = .ok (.aload_n 0, 1) := by decide +kernel
theorem dX12_feed_1 : decode cX12_feed 1 = .ok (.getfield 231, 3) := by decide +kernel
theorem dX12_feed_4 : decode cX12_feed 4 = .ok (.bipush 20, 2) := by decide +kernel
theorem dX12_feed_6 : decode cX12_feed 6 = .ok (.iadd, 1) := by decide +kernel
theorem dX12_feed_7 : decode cX12_feed 7 = .ok (.sipush 800, 3) := by decide +kernel
theorem dX12_feed_10 : decode cX12_feed 10 = .ok (.if_icmp .le 6, 3) := by decide +kernel
theorem dX12_feed_13 : decode cX12_feed 13 = .ok (.bipush (-4), 2) := by decide +kernel
theorem dX12_feed_15 : decode cX12_feed 15 = .ok (.ireturn, 1) := by decide +kernel
theorem dX12_feed_16 : decode cX12_feed 16 = .ok (.bipush 24, 2) := by decide +kernel
theorem dX12_feed_18 : decode cX12_feed 18 = .ok (.istore 6, 2) := by decide +kernel
theorem dX12_feed_20 : decode cX12_feed 20 = .ok (.iload 6, 2) := by decide +kernel
theorem dX12_feed_22 : decode cX12_feed 22 = .ok (.ifCond .lt 96, 3) := by decide +kernel
theorem dX12_feed_25 : decode cX12_feed 25 = .ok (.aload_n 0, 1) := by decide +kernel
theorem dX12_feed_26 : decode cX12_feed 26 = .ok (.getfield 231, 3) := by decide +kernel
theorem dX12_feed_29 : decode cX12_feed 29 = .ok (.iconst 3, 1) := by decide +kernel
theorem dX12_feed_30 : decode cX12_feed 30 = .ok (.iadd, 1) := by decide +kernel
theorem dX12_feed_31 : decode cX12_feed 31 = .ok (.iload 6, 2) := by decide +kernel
theorem dX12_feed_33 : decode cX12_feed 33 = .ok (.bipush 8, 2) := by decide +kernel
theorem dX12_feed_35 : decode cX12_feed 35 = .ok (.idiv, 1) := by decide +kernel
theorem dX12_feed_36 : decode cX12_feed 36 = .ok (.isub, 1) := by decide +kernel
theorem dX12_feed_37 : decode cX12_feed 37 = .ok (.istore 7, 2) := by decide +kernel
theorem dX12_feed_39 : decode cX12_feed 39 = .ok (.aload_n 0, 1) := by decide +kernel
theorem dX12_feed_40 : decode cX12_feed 40 = .ok (.getfield 62, 3) := by decide +kernel
theorem dX12_feed_43 : decode cX12_feed 43 = .ok (.iload 7, 2) := by decide +kernel
theorem dX12_feed_45 : decode cX12_feed 45 = .ok (.iload_n 1, 1) := by decide +kernel
theorem dX12_feed_46 : decode cX12_feed 46 = .ok (.iload 6, 2) := by decide +kernel
theorem dX12_feed_48 : decode cX12_feed 48 = .ok (.ishr, 1) := by decide +kernel
theorem dX12_feed_49 : decode cX12_feed 49 = .ok (.i2b, 1) := by decide +kernel
theorem dX12_feed_50 : decode cX12_feed 50 = .ok (.bastore, 1) := by decide +kernel
theorem dX12_feed_51 : decode cX12_feed 51 = .ok (.aload_n 0, 1) := by decide +kernel
theorem dX12_feed_52 : decode cX12_feed 52 = .ok (.getfield 62, 3) := by decide +kernel
theorem dX12_feed_55 : decode cX12_feed 55 = .ok (.iload 7, 2) := by decide +kernel
theorem dX12_feed_57 : decode cX12_feed 57 = .ok (.iconst 4, 1) := by decide +kernel
theorem dX12_feed_58 : decode cX12_feed 58 = .ok (.iadd, 1) := by decide +kernel
theorem dX12_feed_59 : decode cX12_feed 59 = .ok (.iload_n 2, 1) := by decide +kernel
theorem dX12_feed_60 : decode cX12_feed 60 = .ok (.iload 6, 2) := by decide +kernel
theorem dX12_feed_62 : decode cX12_feed 62 = .ok (.ishr, 1) := by decide +kernel
theorem dX12_feed_63 : decode cX12_feed 63 = .ok (.i2b, 1) := by decide +kernel
theorem dX12_feed_64 : decode cX12_feed 64 = .ok (.bastore, 1) := by decide +kernel
theorem dX12_feed_65 : decode cX12_feed 65 = .ok (.aload_n 0, 1) := by decide +kernel
theorem dX12_feed_66 : decode cX12_feed 66 = .ok (.getfield 62, 3) := by decide +kernel
theorem dX12_feed_69 : decode cX12_feed 69 = .ok (.iload 7, 2) := by decide +kernel
theorem dX12_feed_71 : decode cX12_feed 71 = .ok (.bipush 8, 2) := by decide +kernel
theorem dX12_feed_73 : decode cX12_feed 73 = .ok (.iadd, 1) := by decide +kernel
theorem dX12_feed_74 : decode cX12_feed 74 = .ok (.iload_n 3, 1) := by decide +kernel
theorem dX12_feed_75 : decode cX12_feed 75 = .ok (.iload 6, 2) := by decide +kernel
theorem dX12_feed_77 : decode cX12_feed 77 = .ok (.ishr, 1) := by decide +kernel
theorem dX12_feed_78 : decode cX12_feed 78 = .ok (.i2b, 1) := by decide +kernel
theorem dX12_feed_79 : decode cX12_feed 79 = .ok (.bastore, 1) := by decide +kernel
theorem dX12_feed_80 : decode cX12_feed 80 = .ok (.aload_n 0, 1) := by decide +kernel
theorem dX12_feed_81 : decode cX12_feed 81 = .ok (.getfield 62, 3) := by decide +kernel
theorem dX12_feed_84 : decode cX12_feed 84 = .ok (.iload 7, 2) := by decide +kernel
theorem dX12_feed_86 : decode cX12_feed 86 = .ok (.bipush 12, 2) := by decide +kernel
theorem dX12_feed_88 : decode cX12_feed 88 = .ok (.iadd, 1) := by decide +kernel
theorem dX12_feed_89 : decode cX12_feed 89 = .ok (.iload 4, 2) := by decide +kernel
theorem dX12_feed_91 : decode cX12_feed 91 = .ok (.iload 6, 2) := by decide +kernel
theorem dX12_feed_93 : decode cX12_feed 93 = .ok (.ishr, 1) := by decide +kernel
theorem dX12_feed_94 : decode cX12_feed 94 = .ok (.i2b, 1) := by decide +kernel
theorem dX12_feed_95 : decode cX12_feed 95 = .ok (.bastore, 1) := by decide +kernel
theorem dX12_feed_96 : decode cX12_feed 96 = .ok (.aload_n 0, 1) := by decide +kernel
theorem dX12_feed_97 : decode cX12_feed 97 = .ok (.getfield 62, 3) := by decide +kernel
theorem dX12_feed_100 : decode cX12_feed 100 = .ok (.iload 7, 2) := by decide +kernel
theorem dX12_feed_102 : decode cX12_feed 102 = .ok (.bipush 16, 2) := by decide +kernel
theorem dX12_feed_104 : decode cX12_feed 104 = .ok (.iadd, 1) := by decide +kernel
theorem dX12_feed_105 : decode cX12_feed 105 = .ok (.iload 5, 2) := by decide +kernel
theorem dX12_feed_107 : decode cX12_feed 107 = .ok (.iload 6, 2) := by decide +kernel
theorem dX12_feed_109 : decode cX12_feed 109 = .ok (.ishr, 1) := by decide +kernel
theorem dX12_feed_110 : decode cX12_feed 110 = .ok (.i2b, 1) := by decide +kernel
theorem dX12_feed_111 : decode cX12_feed 111 = .ok (.bastore, 1) := by decide +kernel
theorem dX12_feed_112 : decode cX12_feed 112 = .ok (.iinc 6 (-8), 3) := by decide +kernel
theorem dX12_feed_115 : decode cX12_feed 115 = .ok (.goto (-95), 3) := by decide +kernel
theorem dX12_feed_118 : decode cX12_feed 118 = .ok (.aload_n 0, 1) := by decide +kernel
theorem dX12_feed_119 : decode cX12_feed 119 = .ok (.dup, 1) := by decide +kernel
theorem dX12_feed_120 : decode cX12_feed 120 = .ok (.getfield 231, 3) := by decide +kernel
theorem dX12_feed_123 : decode cX12_feed 123 = .ok (.bipush 20, 2) := by decide +kernel
theorem dX12_feed_125 : decode cX12_feed 125 = .ok (.iadd, 1) := by decide +kernel
theorem dX12_feed_126 : decode cX12_feed 126 = .ok (.putfield 231, 3) := by decide +kernel
theorem dX12_feed_129 : decode cX12_feed 129 = .ok (.aload_n 0, 1) := by decide +kernel
theorem dX12_feed_130 : decode cX12_feed 130 = .ok (.getfield 231, 3) := by decide +kernel
theorem dX12_feed_133 : decode cX12_feed 133 = .ok (.ireturn, 1) := by decide +kernel
theorem dX12_trim_0 : decode cX12_trim 0 = .ok (.iload_n 1, 1) := by decide +kernel
theorem dX12_trim_1 : decode cX12_trim 1 = .ok (.iconst 0, 1) := by decide +kernel
theorem dX12_trim_2 : decode cX12_trim 2 = .ok (.aload_n 0, 1) := by decide +kernel
theorem dX12_trim_3 : decode cX12_trim 3 = .ok (.getfield 231, 3) := by decide +kernel
theorem dX12_trim_6 : decode cX12_trim 6 = .ok (.invokestatic 133, 3) := by decide +kernel
theorem dX12_trim_9 : decode cX12_trim 9 = .ok (.ifCond .ne 6, 3) := by decide +kernel
theorem dX12_trim_12 : decode cX12_trim 12 = .ok (.bipush (-2), 2) := by decide +kernel
theorem dX12_trim_14 : decode cX12_trim 14 = .ok (.ireturn, 1) := by decide +kernel
theorem dX12_trim_15 : decode cX12_trim 15 = .ok (.aload_n 0, 1) := by decide +kernel
theorem dX12_trim_16 : decode cX12_trim 16 = .ok (.iload_n 1, 1) := by decide +kernel
theorem dX12_trim_17 : decode cX12_trim 17 = .ok (.putfield 231, 3) := by decide +kernel
theorem dX12_trim_20 : decode cX12_trim 20 = .ok (.iload_n 1, 1) := by decide +kernel
theorem dX12_trim_21 : decode cX12_trim 21 = .ok (.ireturn, 1) := by decide +kernel
theorem dX12_emit_0 : decode cX12_emit 0 = .ok (.aload_n 0, 1) := by decide +kernel
theorem dX12_emit_1 : decode cX12_emit 1 = .ok (.getfield 53, 3) := by decide +kernel
theorem dX12_emit_4 : decode cX12_emit 4 = .ok (.aload_n 0, 1) := by decide +kernel
theorem dX12_emit_5 : decode cX12_emit 5 = .ok (.getfield 234, 3) := by decide +kernel
theorem dX12_emit_8 : decode cX12_emit 8 = .ok (.iload_n 1, 1) := by decide +kernel
theorem dX12_emit_9 : decode cX12_emit 9 = .ok (.i2b, 1) := by decide +kernel
theorem dX12_emit_10 : decode cX12_emit 10 = .ok (.bastore, 1) := by decide +kernel
theorem dX12_emit_11 : decode cX12_emit 11 = .ok (.aload_n 0, 1) := by decide +kernel
theorem dX12_emit_12 : decode cX12_emit 12 = .ok (.getfield 56, 3) := by decide +kernel
theorem dX12_emit_15 : decode cX12_emit 15 = .ok (.aload_n 0, 1) := by decide +kernel
theorem dX12_emit_16 : decode cX12_emit 16 = .ok (.getfield 234, 3) := by decide +kernel
theorem dX12_emit_19 : decode cX12_emit 19 = .ok (.iload_n 2, 1) := by decide +kernel
theorem dX12_emit_20 : decode cX12_emit 20 = .ok (.iastore, 1) := by decide +kernel
theorem dX12_emit_21 : decode cX12_emit 21 = .ok (.aload_n 0, 1) := by decide +kernel
theorem dX12_emit_22 : decode cX12_emit 22 = .ok (.getfield 59, 3) := by decide +kernel
theorem dX12_emit_25 : decode cX12_emit 25 = .ok (.aload_n 0, 1) := by decide +kernel
theorem dX12_emit_26 : decode cX12_emit 26 = .ok (.getfield 234, 3) := by decide +kernel
theorem dX12_emit_29 : decode cX12_emit 29 = .ok (.iload_n 3, 1) := by decide +kernel
theorem dX12_emit_30 : decode cX12_emit 30 = .ok (.i2b, 1) := by decide +kernel
theorem dX12_emit_31 : decode cX12_emit 31 = .ok (.bastore, 1) := by decide +kernel
theorem dX12_emit_32 : decode cX12_emit 32 = .ok (.aload_n 0, 1) := by decide +kernel
theorem dX12_emit_33 : decode cX12_emit 33 = .ok (.dup, 1) := by decide +kernel
theorem dX12_emit_34 : decode cX12_emit 34 = .ok (.getfield 234, 3) := by decide +kernel
theorem dX12_emit_37 : decode cX12_emit 37 = .ok (.iconst 1, 1) := by decide +kernel
theorem dX12_emit_38 : decode cX12_emit 38 = .ok (.iadd, 1) := by decide +kernel
theorem dX12_emit_39 : decode cX12_emit 39 = .ok (.putfield 234, 3) := by decide +kernel
theorem dX12_emit_42 : decode cX12_emit 42 = .ok (.return_, 1) := by decide +kernel
theorem dX12_insert_0 : decode cX12_insert 0 = .ok (.aload_n 0, 1) := by decide +kernel
theorem dX12_insert_1 : decode cX12_insert 1 = .ok (.getfield 234, 3) := by decide +kernel
theorem dX12_insert_4 : decode cX12_insert 4 = .ok (.istore_n 3, 1) := by decide +kernel
theorem dX12_insert_5 : decode cX12_insert 5 = .ok (.iload_n 3, 1) := by decide +kernel
theorem dX12_insert_6 : decode cX12_insert 6 = .ok (.iload_n 1, 1) := by decide +kernel
theorem dX12_insert_7 : decode cX12_insert 7 = .ok (.if_icmp .le 51, 3) := by decide +kernel
theorem dX12_insert_10 : decode cX12_insert 10 = .ok (.aload_n 0, 1) := by decide +kernel
theorem dX12_insert_11 : decode cX12_insert 11 = .ok (.getfield 53, 3) := by decide +kernel
theorem dX12_insert_14 : decode cX12_insert 14 = .ok (.iload_n 3, 1) := by decide +kernel
theorem dX12_insert_15 : decode cX12_insert 15 = .ok (.aload_n 0, 1) := by decide +kernel
theorem dX12_insert_16 : decode cX12_insert 16 = .ok (.getfield 53, 3) := by decide +kernel
theorem dX12_insert_19 : decode cX12_insert 19 = .ok (.iload_n 3, 1) := by decide +kernel
theorem dX12_insert_20 : decode cX12_insert 20 = .ok (.iconst 1, 1) := by decide +kernel
theorem dX12_insert_21 : decode cX12_insert 21 = .ok (.isub, 1) := by decide +kernel
theorem dX12_insert_22 : decode cX12_insert 22 = .ok (.baload, 1) := by decide +kernel
theorem dX12_insert_23 : decode cX12_insert 23 = .ok (.bastore, 1) := by decide +kernel
theorem dX12_insert_24 : decode cX12_insert 24 = .ok (.aload_n 0, 1) := by decide +kernel
theorem dX12_insert_25 : decode cX12_insert 25 = .ok (.getfield 56, 3) := by decide +kernel
theorem dX12_insert_28 : decode cX12_insert 28 = .ok (.iload_n 3, 1) := by decide +kernel
theorem dX12_insert_29 : decode cX12_insert 29 = .ok (.aload_n 0, 1) := by decide +kernel
theorem dX12_insert_30 : decode cX12_insert 30 = .ok (.getfield 56, 3) := by decide +kernel
theorem dX12_insert_33 : decode cX12_insert 33 = .ok (.iload_n 3, 1) := by decide +kernel
theorem dX12_insert_34 : decode cX12_insert 34 = .ok (.iconst 1, 1) := by decide +kernel
theorem dX12_insert_35 : decode cX12_insert 35 = .ok (.isub, 1) := by decide +kernel
theorem dX12_insert_36 : decode cX12_insert 36 = .ok (.iaload, 1) := by decide +kernel
theorem dX12_insert_37 : decode cX12_insert 37 = .ok (.iastore, 1) := by decide +kernel
theorem dX12_insert_38 : decode cX12_insert 38 = .ok (.aload_n 0, 1) := by decide +kernel
theorem dX12_insert_39 : decode cX12_insert 39 = .ok (.getfield 59, 3) := by decide +kernel
theorem dX12_insert_42 : decode cX12_insert 42 = .ok (.iload_n 3, 1) := by decide +kernel
theorem dX12_insert_43 : decode cX12_insert 43 = .ok (.aload_n 0, 1) := by decide +kernel
theorem dX12_insert_44 : decode cX12_insert 44 = .ok (.getfield 59, 3) := by decide +kernel
theorem dX12_insert_47 : decode cX12_insert 47 = .ok (.iload_n 3, 1) := by decide +kernel
theorem dX12_insert_48 : decode cX12_insert 48 = .ok (.iconst 1, 1) := by decide +kernel
theorem dX12_insert_49 : decode cX12_insert 49 = .ok (.isub, 1) := by decide +kernel
theorem dX12_insert_50 : decode cX12_insert 50 = .ok (.baload, 1) := by decide +kernel
theorem dX12_insert_51 : decode cX12_insert 51 = .ok (.bastore, 1) := by decide +kernel
theorem dX12_insert_52 : decode cX12_insert 52 = .ok (.iinc 3 (-1), 3) := by decide +kernel
theorem dX12_insert_55 : decode cX12_insert 55 = .ok (.goto (-50), 3) := by decide +kernel
theorem dX12_insert_58 : decode cX12_insert 58 = .ok (.aload_n 0, 1) := by decide +kernel
theorem dX12_insert_59 : decode cX12_insert 59 = .ok (.getfield 53, 3) := by decide +kernel
theorem dX12_insert_62 : decode cX12_insert 62 = .ok (.iload_n 1, 1) := by decide +kernel
theorem dX12_insert_63 : decode cX12_insert 63 = .ok (.iload_n 2, 1) := by decide +kernel
theorem dX12_insert_64 : decode cX12_insert 64 = .ok (.i2b, 1) := by decide +kernel
theorem dX12_insert_65 : decode cX12_insert 65 = .ok (.bastore, 1) := by decide +kernel
theorem dX12_insert_66 : decode cX12_insert 66 = .ok (.aload_n 0, 1) := by decide +kernel
theorem dX12_insert_67 : decode cX12_insert 67 = .ok (.getfield 56, 3) := by decide +kernel
theorem dX12_insert_70 : decode cX12_insert 70 = .ok (.iload_n 1, 1) := by decide +kernel
theorem dX12_insert_71 : decode cX12_insert 71 = .ok (.iconst 0, 1) := by decide +kernel
theorem dX12_insert_72 : decode cX12_insert 72 = .ok (.iastore, 1) := by decide +kernel
theorem dX12_insert_73 : decode cX12_insert 73 = .ok (.aload_n 0, 1) := by decide +kernel
theorem dX12_insert_74 : decode cX12_insert 74 = .ok (.getfield 59, 3) := by decide +kernel
theorem dX12_insert_77 : decode cX12_insert 77 = .ok (.iload_n 1, 1) := by decide +kernel
theorem dX12_insert_78 : decode cX12_insert 78 = .ok (.iconst 0, 1) := by decide +kernel
theorem dX12_insert_79 : decode cX12_insert 79 = .ok (.bastore, 1) := by decide +kernel
theorem dX12_insert_80 : decode cX12_insert 80 = .ok (.aload_n 0, 1) := by decide +kernel
theorem dX12_insert_81 : decode cX12_insert 81 = .ok (.dup, 1) := by decide +kernel
theorem dX12_insert_82 : decode cX12_insert 82 = .ok (.getfield 234, 3) := by decide +kernel
theorem dX12_insert_85 : decode cX12_insert 85 = .ok (.iconst 1, 1) := by decide +kernel
theorem dX12_insert_86 : decode cX12_insert 86 = .ok (.iadd, 1) := by decide +kernel
theorem dX12_insert_87 : decode cX12_insert 87 = .ok (.putfield 234, 3) := by decide +kernel
theorem dX12_insert_90 : decode cX12_insert 90 = .ok (.return_, 1) := by decide +kernel
theorem dX12_skip_0 : decode cX12_skip 0 = .ok (.aload_n 0, 1) := by decide +kernel
theorem dX12_skip_1 : decode cX12_skip 1 = .ok (.getfield 237, 3) := by decide +kernel
theorem dX12_skip_4 : decode cX12_skip 4 = .ok (.aload_n 0, 1) := by decide +kernel
theorem dX12_skip_5 : decode cX12_skip 5 = .ok (.getfield 231, 3) := by decide +kernel
theorem dX12_skip_8 : decode cX12_skip 8 = .ok (.if_icmp .ge 44, 3) := by decide +kernel
theorem dX12_skip_11 : decode cX12_skip 11 = .ok (.aload_n 0, 1) := by decide +kernel
theorem dX12_skip_12 : decode cX12_skip 12 = .ok (.getfield 62, 3) := by decide +kernel
theorem dX12_skip_15 : decode cX12_skip 15 = .ok (.aload_n 0, 1) := by decide +kernel
theorem dX12_skip_16 : decode cX12_skip 16 = .ok (.getfield 237, 3) := by decide +kernel
theorem dX12_skip_19 : decode cX12_skip 19 = .ok (.baload, 1) := by decide +kernel
theorem dX12_skip_20 : decode cX12_skip 20 = .ok (.bipush 32, 2) := by decide +kernel
theorem dX12_skip_22 : decode cX12_skip 22 = .ok (.if_icmp .eq 17, 3) := by decide +kernel
theorem dX12_skip_25 : decode cX12_skip 25 = .ok (.aload_n 0, 1) := by decide +kernel
theorem dX12_skip_26 : decode cX12_skip 26 = .ok (.getfield 62, 3) := by decide +kernel
theorem dX12_skip_29 : decode cX12_skip 29 = .ok (.aload_n 0, 1) := by decide +kernel
theorem dX12_skip_30 : decode cX12_skip 30 = .ok (.getfield 237, 3) := by decide +kernel
theorem dX12_skip_33 : decode cX12_skip 33 = .ok (.baload, 1) := by decide +kernel
theorem dX12_skip_34 : decode cX12_skip 34 = .ok (.bipush 10, 2) := by decide +kernel
theorem dX12_skip_36 : decode cX12_skip 36 = .ok (.if_icmp .ne 16, 3) := by decide +kernel
theorem dX12_skip_39 : decode cX12_skip 39 = .ok (.aload_n 0, 1) := by decide +kernel
theorem dX12_skip_40 : decode cX12_skip 40 = .ok (.dup, 1) := by decide +kernel
theorem dX12_skip_41 : decode cX12_skip 41 = .ok (.getfield 237, 3) := by decide +kernel
theorem dX12_skip_44 : decode cX12_skip 44 = .ok (.iconst 1, 1) := by decide +kernel
theorem dX12_skip_45 : decode cX12_skip 45 = .ok (.iadd, 1) := by decide +kernel
theorem dX12_skip_46 : decode cX12_skip 46 = .ok (.putfield 237, 3) := by decide +kernel
theorem dX12_skip_49 : decode cX12_skip 49 = .ok (.goto (-49), 3) := by decide +kernel
theorem dX12_skip_52 : decode cX12_skip 52 = .ok (.return_, 1) := by decide +kernel
theorem dX12_here_0 : decode cX12_here 0 = .ok (.aload_n 0, 1) := by decide +kernel
theorem dX12_here_1 : decode cX12_here 1 = .ok (.getfield 237, 3) := by decide +kernel
theorem dX12_here_4 : decode cX12_here 4 = .ok (.aload_n 0, 1) := by decide +kernel
theorem dX12_here_5 : decode cX12_here 5 = .ok (.getfield 231, 3) := by decide +kernel
theorem dX12_here_8 : decode cX12_here 8 = .ok (.if_icmp .ge 15, 3) := by decide +kernel
theorem dX12_here_11 : decode cX12_here 11 = .ok (.aload_n 0, 1) := by decide +kernel
theorem dX12_here_12 : decode cX12_here 12 = .ok (.getfield 62, 3) := by decide +kernel
theorem dX12_here_15 : decode cX12_here 15 = .ok (.aload_n 0, 1) := by decide +kernel
theorem dX12_here_16 : decode cX12_here 16 = .ok (.getfield 237, 3) := by decide +kernel
theorem dX12_here_19 : decode cX12_here 19 = .ok (.baload, 1) := by decide +kernel
theorem dX12_here_20 : decode cX12_here 20 = .ok (.goto 4, 3) := by decide +kernel
theorem dX12_here_23 : decode cX12_here 23 = .ok (.iconst (-1), 1) := by decide +kernel
theorem dX12_here_24 : decode cX12_here 24 = .ok (.ireturn, 1) := by decide +kernel
theorem dX12_openFormula_0 : decode cX12_openFormula 0 = .ok (.aload_n 0, 1) := by decide +kernel
theorem dX12_openFormula_1 : decode cX12_openFormula 1 = .ok (.getfield 65, 3) := by decide +kernel
theorem dX12_openFormula_4 : decode cX12_openFormula 4 = .ok (.aload_n 0, 1) := by decide +kernel
theorem dX12_openFormula_5 : decode cX12_openFormula 5 = .ok (.getfield 240, 3) := by decide +kernel
theorem dX12_openFormula_8 : decode cX12_openFormula 8 = .ok (.iconst 0, 1) := by decide +kernel
theorem dX12_openFormula_9 : decode cX12_openFormula 9 = .ok (.iastore, 1) := by decide +kernel
theorem dX12_openFormula_10 : decode cX12_openFormula 10 = .ok (.aload_n 0, 1) := by decide +kernel
theorem dX12_openFormula_11 : decode cX12_openFormula 11 = .ok (.getfield 68, 3) := by decide +kernel
theorem dX12_openFormula_14 : decode cX12_openFormula 14 = .ok (.aload_n 0, 1) := by decide +kernel
theorem dX12_openFormula_15 : decode cX12_openFormula 15 = .ok (.getfield 240, 3) := by decide +kernel
theorem dX12_openFormula_18 : decode cX12_openFormula 18 = .ok (.aload_n 0, 1) := by decide +kernel
theorem dX12_openFormula_19 : decode cX12_openFormula 19 = .ok (.getfield 234, 3) := by decide +kernel
theorem dX12_openFormula_22 : decode cX12_openFormula 22 = .ok (.iastore, 1) := by decide +kernel
theorem dX12_openFormula_23 : decode cX12_openFormula 23 = .ok (.aload_n 0, 1) := by decide +kernel
theorem dX12_openFormula_24 : decode cX12_openFormula 24 = .ok (.getfield 71, 3) := by decide +kernel
theorem dX12_openFormula_27 : decode cX12_openFormula 27 = .ok (.aload_n 0, 1) := by decide +kernel
theorem dX12_openFormula_28 : decode cX12_openFormula 28 = .ok (.getfield 240, 3) := by decide +kernel
theorem dX12_openFormula_31 : decode cX12_openFormula 31 = .ok (.iconst 0, 1) := by decide +kernel
theorem dX12_openFormula_32 : decode cX12_openFormula 32 = .ok (.iastore, 1) := by decide +kernel
theorem dX12_openFormula_33 : decode cX12_openFormula 33 = .ok (.aload_n 0, 1) := by decide +kernel
theorem dX12_openFormula_34 : decode cX12_openFormula 34 = .ok (.dup, 1) := by decide +kernel
theorem dX12_openFormula_35 : decode cX12_openFormula 35 = .ok (.getfield 240, 3) := by decide +kernel
theorem dX12_openFormula_38 : decode cX12_openFormula 38 = .ok (.iconst 1, 1) := by decide +kernel
theorem dX12_openFormula_39 : decode cX12_openFormula 39 = .ok (.iadd, 1) := by decide +kernel
theorem dX12_openFormula_40 : decode cX12_openFormula 40 = .ok (.putfield 240, 3) := by decide +kernel
theorem dX12_openFormula_43 : decode cX12_openFormula 43 = .ok (.return_, 1) := by decide +kernel
theorem dX12_openNode_0 : decode cX12_openNode 0 = .ok (.aload_n 0, 1) := by decide +kernel
theorem dX12_openNode_1 : decode cX12_openNode 1 = .ok (.getfield 65, 3) := by decide +kernel
theorem dX12_openNode_4 : decode cX12_openNode 4 = .ok (.aload_n 0, 1) := by decide +kernel
theorem dX12_openNode_5 : decode cX12_openNode 5 = .ok (.getfield 240, 3) := by decide +kernel
theorem dX12_openNode_8 : decode cX12_openNode 8 = .ok (.iload_n 1, 1) := by decide +kernel
theorem dX12_openNode_9 : decode cX12_openNode 9 = .ok (.iastore, 1) := by decide +kernel
theorem dX12_openNode_10 : decode cX12_openNode 10 = .ok (.aload_n 0, 1) := by decide +kernel
theorem dX12_openNode_11 : decode cX12_openNode 11 = .ok (.dup, 1) := by decide +kernel
theorem dX12_openNode_12 : decode cX12_openNode 12 = .ok (.getfield 240, 3) := by decide +kernel
theorem dX12_openNode_15 : decode cX12_openNode 15 = .ok (.iconst 1, 1) := by decide +kernel
theorem dX12_openNode_16 : decode cX12_openNode 16 = .ok (.iadd, 1) := by decide +kernel
theorem dX12_openNode_17 : decode cX12_openNode 17 = .ok (.putfield 240, 3) := by decide +kernel
theorem dX12_openNode_20 : decode cX12_openNode 20 = .ok (.aload_n 0, 1) := by decide +kernel
theorem dX12_openNode_21 : decode cX12_openNode 21 = .ok (.dup, 1) := by decide +kernel
theorem dX12_openNode_22 : decode cX12_openNode 22 = .ok (.getfield 243, 3) := by decide +kernel
theorem dX12_openNode_25 : decode cX12_openNode 25 = .ok (.iconst 1, 1) := by decide +kernel
theorem dX12_openNode_26 : decode cX12_openNode 26 = .ok (.iadd, 1) := by decide +kernel
theorem dX12_openNode_27 : decode cX12_openNode 27 = .ok (.putfield 243, 3) := by decide +kernel
theorem dX12_openNode_30 : decode cX12_openNode 30 = .ok (.return_, 1) := by decide +kernel
theorem dX12_variable_0 : decode cX12_variable 0 = .ok (.aload_n 0, 1) := by decide +kernel
theorem dX12_variable_1 : decode cX12_variable 1 = .ok (.invokevirtual 246, 3) := by decide +kernel
theorem dX12_variable_4 : decode cX12_variable 4 = .ok (.aload_n 0, 1) := by decide +kernel
theorem dX12_variable_5 : decode cX12_variable 5 = .ok (.invokevirtual 249, 3) := by decide +kernel
theorem dX12_variable_8 : decode cX12_variable 8 = .ok (.istore_n 1, 1) := by decide +kernel
theorem dX12_variable_9 : decode cX12_variable 9 = .ok (.iconst (-1), 1) := by decide +kernel
theorem dX12_variable_10 : decode cX12_variable 10 = .ok (.istore_n 2, 1) := by decide +kernel
theorem dX12_variable_11 : decode cX12_variable 11 = .ok (.iconst 0, 1) := by decide +kernel
theorem dX12_variable_12 : decode cX12_variable 12 = .ok (.istore_n 3, 1) := by decide +kernel
theorem dX12_variable_13 : decode cX12_variable 13 = .ok (.iload_n 3, 1) := by decide +kernel
theorem dX12_variable_14 : decode cX12_variable 14 = .ok (.aload_n 0, 1) := by decide +kernel
theorem dX12_variable_15 : decode cX12_variable 15 = .ok (.getfield 253, 3) := by decide +kernel
theorem dX12_variable_18 : decode cX12_variable 18 = .ok (.if_icmp .ge 25, 3) := by decide +kernel
theorem dX12_variable_21 : decode cX12_variable 21 = .ok (.aload_n 0, 1) := by decide +kernel
theorem dX12_variable_22 : decode cX12_variable 22 = .ok (.getfield 74, 3) := by decide +kernel
theorem dX12_variable_25 : decode cX12_variable 25 = .ok (.iload_n 3, 1) := by decide +kernel
theorem dX12_variable_26 : decode cX12_variable 26 = .ok (.iaload, 1) := by decide +kernel
theorem dX12_variable_27 : decode cX12_variable 27 = .ok (.iload_n 1, 1) := by decide +kernel
theorem dX12_variable_28 : decode cX12_variable 28 = .ok (.if_icmp .ne 7, 3) := by decide +kernel
theorem dX12_variable_31 : decode cX12_variable 31 = .ok (.iload_n 3, 1) := by decide +kernel
theorem dX12_variable_32 : decode cX12_variable 32 = .ok (.goto 4, 3) := by decide +kernel
theorem dX12_variable_35 : decode cX12_variable 35 = .ok (.iload_n 2, 1) := by decide +kernel
theorem dX12_variable_36 : decode cX12_variable 36 = .ok (.istore_n 2, 1) := by decide +kernel
theorem dX12_variable_37 : decode cX12_variable 37 = .ok (.iinc 3 1, 3) := by decide +kernel
theorem dX12_variable_40 : decode cX12_variable 40 = .ok (.goto (-27), 3) := by decide +kernel
theorem dX12_variable_43 : decode cX12_variable 43 = .ok (.iload_n 2, 1) := by decide +kernel
theorem dX12_variable_44 : decode cX12_variable 44 = .ok (.ifCond .ge 14, 3) := by decide +kernel
theorem dX12_variable_47 : decode cX12_variable 47 = .ok (.aload_n 0, 1) := by decide +kernel
theorem dX12_variable_48 : decode cX12_variable 48 = .ok (.aload_n 0, 1) := by decide +kernel
theorem dX12_variable_49 : decode cX12_variable 49 = .ok (.getfield 237, 3) := by decide +kernel
theorem dX12_variable_52 : decode cX12_variable 52 = .ok (.putfield 256, 3) := by decide +kernel
theorem dX12_variable_55 : decode cX12_variable 55 = .ok (.goto 13, 3) := by decide +kernel
theorem dX12_variable_58 : decode cX12_variable 58 = .ok (.aload_n 0, 1) := by decide +kernel
theorem dX12_variable_59 : decode cX12_variable 59 = .ok (.dup, 1) := by decide +kernel
theorem dX12_variable_60 : decode cX12_variable 60 = .ok (.getfield 237, 3) := by decide +kernel
theorem dX12_variable_63 : decode cX12_variable 63 = .ok (.iconst 1, 1) := by decide +kernel
theorem dX12_variable_64 : decode cX12_variable 64 = .ok (.iadd, 1) := by decide +kernel
theorem dX12_variable_65 : decode cX12_variable 65 = .ok (.putfield 237, 3) := by decide +kernel
theorem dX12_variable_68 : decode cX12_variable 68 = .ok (.iload_n 2, 1) := by decide +kernel
theorem dX12_variable_69 : decode cX12_variable 69 = .ok (.ireturn, 1) := by decide +kernel
theorem dX12_partDone_0 : decode cX12_partDone 0 = .ok (.aload_n 0, 1) := by decide +kernel
theorem dX12_partDone_1 : decode cX12_partDone 1 = .ok (.getfield 65, 3) := by decide +kernel
theorem dX12_partDone_4 : decode cX12_partDone 4 = .ok (.aload_n 0, 1) := by decide +kernel
theorem dX12_partDone_5 : decode cX12_partDone 5 = .ok (.getfield 240, 3) := by decide +kernel
theorem dX12_partDone_8 : decode cX12_partDone 8 = .ok (.iconst 1, 1) := by decide +kernel
theorem dX12_partDone_9 : decode cX12_partDone 9 = .ok (.isub, 1) := by decide +kernel
theorem dX12_partDone_10 : decode cX12_partDone 10 = .ok (.iaload, 1) := by decide +kernel
theorem dX12_partDone_11 : decode cX12_partDone 11 = .ok (.ifCond .eq 53, 3) := by decide +kernel
theorem dX12_partDone_14 : decode cX12_partDone 14 = .ok (.aload_n 0, 1) := by decide +kernel
theorem dX12_partDone_15 : decode cX12_partDone 15 = .ok (.dup, 1) := by decide +kernel
theorem dX12_partDone_16 : decode cX12_partDone 16 = .ok (.getfield 240, 3) := by decide +kernel
theorem dX12_partDone_19 : decode cX12_partDone 19 = .ok (.iconst 1, 1) := by decide +kernel
theorem dX12_partDone_20 : decode cX12_partDone 20 = .ok (.isub, 1) := by decide +kernel
theorem dX12_partDone_21 : decode cX12_partDone 21 = .ok (.putfield 240, 3) := by decide +kernel
theorem dX12_partDone_24 : decode cX12_partDone 24 = .ok (.aload_n 0, 1) := by decide +kernel
theorem dX12_partDone_25 : decode cX12_partDone 25 = .ok (.dup, 1) := by decide +kernel
theorem dX12_partDone_26 : decode cX12_partDone 26 = .ok (.getfield 243, 3) := by decide +kernel
theorem dX12_partDone_29 : decode cX12_partDone 29 = .ok (.iconst 1, 1) := by decide +kernel
theorem dX12_partDone_30 : decode cX12_partDone 30 = .ok (.isub, 1) := by decide +kernel
theorem dX12_partDone_31 : decode cX12_partDone 31 = .ok (.putfield 243, 3) := by decide +kernel
theorem dX12_partDone_34 : decode cX12_partDone 34 = .ok (.aload_n 0, 1) := by decide +kernel
theorem dX12_partDone_35 : decode cX12_partDone 35 = .ok (.dup, 1) := by decide +kernel
theorem dX12_partDone_36 : decode cX12_partDone 36 = .ok (.getfield 253, 3) := by decide +kernel
theorem dX12_partDone_39 : decode cX12_partDone 39 = .ok (.aload_n 0, 1) := by decide +kernel
theorem dX12_partDone_40 : decode cX12_partDone 40 = .ok (.getfield 65, 3) := by decide +kernel
theorem dX12_partDone_43 : decode cX12_partDone 43 = .ok (.aload_n 0, 1) := by decide +kernel
theorem dX12_partDone_44 : decode cX12_partDone 44 = .ok (.getfield 240, 3) := by decide +kernel
theorem dX12_partDone_47 : decode cX12_partDone 47 = .ok (.iaload, 1) := by decide +kernel
theorem dX12_partDone_48 : decode cX12_partDone 48 = .ok (.iconst 1, 1) := by decide +kernel
theorem dX12_partDone_49 : decode cX12_partDone 49 = .ok (.if_icmp .ne 7, 3) := by decide +kernel
theorem dX12_partDone_52 : decode cX12_partDone 52 = .ok (.iconst 0, 1) := by decide +kernel
theorem dX12_partDone_53 : decode cX12_partDone 53 = .ok (.goto 4, 3) := by decide +kernel
theorem dX12_partDone_56 : decode cX12_partDone 56 = .ok (.iconst 1, 1) := by decide +kernel
theorem dX12_partDone_57 : decode cX12_partDone 57 = .ok (.isub, 1) := by decide +kernel
theorem dX12_partDone_58 : decode cX12_partDone 58 = .ok (.putfield 253, 3) := by decide +kernel
theorem dX12_partDone_61 : decode cX12_partDone 61 = .ok (.goto (-61), 3) := by decide +kernel
theorem dX12_partDone_64 : decode cX12_partDone 64 = .ok (.aload_n 0, 1) := by decide +kernel
theorem dX12_partDone_65 : decode cX12_partDone 65 = .ok (.getfield 71, 3) := by decide +kernel
theorem dX12_partDone_68 : decode cX12_partDone 68 = .ok (.aload_n 0, 1) := by decide +kernel
theorem dX12_partDone_69 : decode cX12_partDone 69 = .ok (.getfield 240, 3) := by decide +kernel
theorem dX12_partDone_72 : decode cX12_partDone 72 = .ok (.iconst 1, 1) := by decide +kernel
theorem dX12_partDone_73 : decode cX12_partDone 73 = .ok (.isub, 1) := by decide +kernel
theorem dX12_partDone_74 : decode cX12_partDone 74 = .ok (.iaload, 1) := by decide +kernel
theorem dX12_partDone_75 : decode cX12_partDone 75 = .ok (.ifCond .eq 23, 3) := by decide +kernel
theorem dX12_partDone_78 : decode cX12_partDone 78 = .ok (.aload_n 0, 1) := by decide +kernel
theorem dX12_partDone_79 : decode cX12_partDone 79 = .ok (.getfield 56, 3) := by decide +kernel
theorem dX12_partDone_82 : decode cX12_partDone 82 = .ok (.aload_n 0, 1) := by decide +kernel
theorem dX12_partDone_83 : decode cX12_partDone 83 = .ok (.getfield 68, 3) := by decide +kernel
theorem dX12_partDone_86 : decode cX12_partDone 86 = .ok (.aload_n 0, 1) := by decide +kernel
theorem dX12_partDone_87 : decode cX12_partDone 87 = .ok (.getfield 240, 3) := by decide +kernel
theorem dX12_partDone_90 : decode cX12_partDone 90 = .ok (.iconst 1, 1) := by decide +kernel
theorem dX12_partDone_91 : decode cX12_partDone 91 = .ok (.isub, 1) := by decide +kernel
theorem dX12_partDone_92 : decode cX12_partDone 92 = .ok (.iaload, 1) := by decide +kernel
theorem dX12_partDone_93 : decode cX12_partDone 93 = .ok (.dup2, 1) := by decide +kernel
theorem dX12_partDone_94 : decode cX12_partDone 94 = .ok (.iaload, 1) := by decide +kernel
theorem dX12_partDone_95 : decode cX12_partDone 95 = .ok (.iconst 1, 1) := by decide +kernel
theorem dX12_partDone_96 : decode cX12_partDone 96 = .ok (.iadd, 1) := by decide +kernel
theorem dX12_partDone_97 : decode cX12_partDone 97 = .ok (.iastore, 1) := by decide +kernel
theorem dX12_partDone_98 : decode cX12_partDone 98 = .ok (.return_, 1) := by decide +kernel
theorem dX12_atom_0 : decode cX12_atom 0 = .ok (.aload_n 0, 1) := by decide +kernel
theorem dX12_atom_1 : decode cX12_atom 1 = .ok (.dup, 1) := by decide +kernel
theorem dX12_atom_2 : decode cX12_atom 2 = .ok (.getfield 237, 3) := by decide +kernel
theorem dX12_atom_5 : decode cX12_atom 5 = .ok (.iconst 1, 1) := by decide +kernel
theorem dX12_atom_6 : decode cX12_atom 6 = .ok (.iadd, 1) := by decide +kernel
theorem dX12_atom_7 : decode cX12_atom 7 = .ok (.putfield 237, 3) := by decide +kernel
theorem dX12_atom_10 : decode cX12_atom 10 = .ok (.iload_n 2, 1) := by decide +kernel
theorem dX12_atom_11 : decode cX12_atom 11 = .ok (.ifCond .le 10, 3) := by decide +kernel
theorem dX12_atom_14 : decode cX12_atom 14 = .ok (.aload_n 0, 1) := by decide +kernel
theorem dX12_atom_15 : decode cX12_atom 15 = .ok (.invokevirtual 259, 3) := by decide +kernel
theorem dX12_atom_18 : decode cX12_atom 18 = .ok (.goto 4, 3) := by decide +kernel
theorem dX12_atom_21 : decode cX12_atom 21 = .ok (.iconst 0, 1) := by decide +kernel
theorem dX12_atom_22 : decode cX12_atom 22 = .ok (.istore_n 3, 1) := by decide +kernel
theorem dX12_atom_23 : decode cX12_atom 23 = .ok (.iload_n 3, 1) := by decide +kernel
theorem dX12_atom_24 : decode cX12_atom 24 = .ok (.ifCond .lt 15, 3) := by decide +kernel
theorem dX12_atom_27 : decode cX12_atom 27 = .ok (.iload_n 2, 1) := by decide +kernel
theorem dX12_atom_28 : decode cX12_atom 28 = .ok (.iconst 1, 1) := by decide +kernel
theorem dX12_atom_29 : decode cX12_atom 29 = .ok (.if_icmp .le 10, 3) := by decide +kernel
theorem dX12_atom_32 : decode cX12_atom 32 = .ok (.aload_n 0, 1) := by decide +kernel
theorem dX12_atom_33 : decode cX12_atom 33 = .ok (.invokevirtual 259, 3) := by decide +kernel
theorem dX12_atom_36 : decode cX12_atom 36 = .ok (.goto 4, 3) := by decide +kernel
theorem dX12_atom_39 : decode cX12_atom 39 = .ok (.iconst 0, 1) := by decide +kernel
theorem dX12_atom_40 : decode cX12_atom 40 = .ok (.istore 4, 2) := by decide +kernel
theorem dX12_atom_42 : decode cX12_atom 42 = .ok (.iload_n 3, 1) := by decide +kernel
theorem dX12_atom_43 : decode cX12_atom 43 = .ok (.ifCond .lt 20, 3) := by decide +kernel
theorem dX12_atom_46 : decode cX12_atom 46 = .ok (.iload 4, 2) := by decide +kernel
theorem dX12_atom_48 : decode cX12_atom 48 = .ok (.ifCond .lt 15, 3) := by decide +kernel
theorem dX12_atom_51 : decode cX12_atom 51 = .ok (.aload_n 0, 1) := by decide +kernel
theorem dX12_atom_52 : decode cX12_atom 52 = .ok (.iload_n 1, 1) := by decide +kernel
theorem dX12_atom_53 : decode cX12_atom 53 = .ok (.iload_n 3, 1) := by decide +kernel
theorem dX12_atom_54 : decode cX12_atom 54 = .ok (.iload 4, 2) := by decide +kernel
theorem dX12_atom_56 : decode cX12_atom 56 = .ok (.invokevirtual 262, 3) := by decide +kernel
theorem dX12_atom_59 : decode cX12_atom 59 = .ok (.aload_n 0, 1) := by decide +kernel
theorem dX12_atom_60 : decode cX12_atom 60 = .ok (.invokevirtual 265, 3) := by decide +kernel
theorem dX12_atom_63 : decode cX12_atom 63 = .ok (.return_, 1) := by decide +kernel
theorem dX12_quantifier_0 : decode cX12_quantifier 0 = .ok (.aload_n 0, 1) := by decide +kernel
theorem dX12_quantifier_1 : decode cX12_quantifier 1 = .ok (.getfield 243, 3) := by decide +kernel
theorem dX12_quantifier_4 : decode cX12_quantifier 4 = .ok (.bipush 12, 2) := by decide +kernel
theorem dX12_quantifier_6 : decode cX12_quantifier 6 = .ok (.if_icmp .eq 12, 3) := by decide +kernel
theorem dX12_quantifier_9 : decode cX12_quantifier 9 = .ok (.aload_n 0, 1) := by decide +kernel
theorem dX12_quantifier_10 : decode cX12_quantifier 10 = .ok (.getfield 253, 3) := by decide +kernel
theorem dX12_quantifier_13 : decode cX12_quantifier 13 = .ok (.bipush 8, 2) := by decide +kernel
theorem dX12_quantifier_15 : decode cX12_quantifier 15 = .ok (.if_icmp .ne 12, 3) := by decide +kernel
theorem dX12_quantifier_18 : decode cX12_quantifier 18 = .ok (.aload_n 0, 1) := by decide +kernel
theorem dX12_quantifier_19 : decode cX12_quantifier 19 = .ok (.aload_n 0, 1) := by decide +kernel
theorem dX12_quantifier_20 : decode cX12_quantifier 20 = .ok (.getfield 237, 3) := by decide +kernel
theorem dX12_quantifier_23 : decode cX12_quantifier 23 = .ok (.putfield 256, 3) := by decide +kernel
theorem dX12_quantifier_26 : decode cX12_quantifier 26 = .ok (.return_, 1) := by decide +kernel
theorem dX12_quantifier_27 : decode cX12_quantifier 27 = .ok (.aload_n 0, 1) := by decide +kernel
theorem dX12_quantifier_28 : decode cX12_quantifier 28 = .ok (.dup, 1) := by decide +kernel
theorem dX12_quantifier_29 : decode cX12_quantifier 29 = .ok (.getfield 237, 3) := by decide +kernel
theorem dX12_quantifier_32 : decode cX12_quantifier 32 = .ok (.iconst 1, 1) := by decide +kernel
theorem dX12_quantifier_33 : decode cX12_quantifier 33 = .ok (.iadd, 1) := by decide +kernel
theorem dX12_quantifier_34 : decode cX12_quantifier 34 = .ok (.putfield 237, 3) := by decide +kernel
theorem dX12_quantifier_37 : decode cX12_quantifier 37 = .ok (.aload_n 0, 1) := by decide +kernel
theorem dX12_quantifier_38 : decode cX12_quantifier 38 = .ok (.invokevirtual 246, 3) := by decide +kernel
theorem dX12_quantifier_41 : decode cX12_quantifier 41 = .ok (.aload_n 0, 1) := by decide +kernel
theorem dX12_quantifier_42 : decode cX12_quantifier 42 = .ok (.invokevirtual 249, 3) := by decide +kernel
theorem dX12_quantifier_45 : decode cX12_quantifier 45 = .ok (.bipush 97, 2) := by decide +kernel
theorem dX12_quantifier_47 : decode cX12_quantifier 47 = .ok (.bipush 104, 2) := by decide +kernel
theorem dX12_quantifier_49 : decode cX12_quantifier 49 = .ok (.invokestatic 133, 3) := by decide +kernel
theorem dX12_quantifier_52 : decode cX12_quantifier 52 = .ok (.ifCond .ne 12, 3) := by decide +kernel
theorem dX12_quantifier_55 : decode cX12_quantifier 55 = .ok (.aload_n 0, 1) := by decide +kernel
theorem dX12_quantifier_56 : decode cX12_quantifier 56 = .ok (.aload_n 0, 1) := by decide +kernel
theorem dX12_quantifier_57 : decode cX12_quantifier 57 = .ok (.getfield 237, 3) := by decide +kernel
theorem dX12_quantifier_60 : decode cX12_quantifier 60 = .ok (.putfield 256, 3) := by decide +kernel
theorem dX12_quantifier_63 : decode cX12_quantifier 63 = .ok (.return_, 1) := by decide +kernel
theorem dX12_quantifier_64 : decode cX12_quantifier 64 = .ok (.aload_n 0, 1) := by decide +kernel
theorem dX12_quantifier_65 : decode cX12_quantifier 65 = .ok (.iload_n 1, 1) := by decide +kernel
theorem dX12_quantifier_66 : decode cX12_quantifier 66 = .ok (.aload_n 0, 1) := by decide +kernel
theorem dX12_quantifier_67 : decode cX12_quantifier 67 = .ok (.getfield 253, 3) := by decide +kernel
theorem dX12_quantifier_70 : decode cX12_quantifier 70 = .ok (.iconst 0, 1) := by decide +kernel
theorem dX12_quantifier_71 : decode cX12_quantifier 71 = .ok (.invokevirtual 262, 3) := by decide +kernel
theorem dX12_quantifier_74 : decode cX12_quantifier 74 = .ok (.aload_n 0, 1) := by decide +kernel
theorem dX12_quantifier_75 : decode cX12_quantifier 75 = .ok (.getfield 74, 3) := by decide +kernel
theorem dX12_quantifier_78 : decode cX12_quantifier 78 = .ok (.aload_n 0, 1) := by decide +kernel
theorem dX12_quantifier_79 : decode cX12_quantifier 79 = .ok (.getfield 253, 3) := by decide +kernel
theorem dX12_quantifier_82 : decode cX12_quantifier 82 = .ok (.aload_n 0, 1) := by decide +kernel
theorem dX12_quantifier_83 : decode cX12_quantifier 83 = .ok (.invokevirtual 249, 3) := by decide +kernel
theorem dX12_quantifier_86 : decode cX12_quantifier 86 = .ok (.iastore, 1) := by decide +kernel
theorem dX12_quantifier_87 : decode cX12_quantifier 87 = .ok (.aload_n 0, 1) := by decide +kernel
theorem dX12_quantifier_88 : decode cX12_quantifier 88 = .ok (.dup, 1) := by decide +kernel
theorem dX12_quantifier_89 : decode cX12_quantifier 89 = .ok (.getfield 253, 3) := by decide +kernel
theorem dX12_quantifier_92 : decode cX12_quantifier 92 = .ok (.iconst 1, 1) := by decide +kernel
theorem dX12_quantifier_93 : decode cX12_quantifier 93 = .ok (.iadd, 1) := by decide +kernel
theorem dX12_quantifier_94 : decode cX12_quantifier 94 = .ok (.putfield 253, 3) := by decide +kernel
theorem dX12_quantifier_97 : decode cX12_quantifier 97 = .ok (.aload_n 0, 1) := by decide +kernel
theorem dX12_quantifier_98 : decode cX12_quantifier 98 = .ok (.iload_n 1, 1) := by decide +kernel
theorem dX12_quantifier_99 : decode cX12_quantifier 99 = .ok (.invokevirtual 268, 3) := by decide +kernel
theorem dX12_quantifier_102 : decode cX12_quantifier 102 = .ok (.aload_n 0, 1) := by decide +kernel
theorem dX12_quantifier_103 : decode cX12_quantifier 103 = .ok (.dup, 1) := by decide +kernel
theorem dX12_quantifier_104 : decode cX12_quantifier 104 = .ok (.getfield 237, 3) := by decide +kernel
theorem dX12_quantifier_107 : decode cX12_quantifier 107 = .ok (.iconst 1, 1) := by decide +kernel
theorem dX12_quantifier_108 : decode cX12_quantifier 108 = .ok (.iadd, 1) := by decide +kernel
theorem dX12_quantifier_109 : decode cX12_quantifier 109 = .ok (.putfield 237, 3) := by decide +kernel
theorem dX12_quantifier_112 : decode cX12_quantifier 112 = .ok (.return_, 1) := by decide +kernel
theorem dX12_beginPart_0 : decode cX12_beginPart 0 = .ok (.aload_n 0, 1) := by decide +kernel
theorem dX12_beginPart_1 : decode cX12_beginPart 1 = .ok (.invokevirtual 249, 3) := by decide +kernel
theorem dX12_beginPart_4 : decode cX12_beginPart 4 = .ok (.lookupswitch 229 #[(40, 92), (45, 92), (61, 202), (63, 168), (64, 161), (65, 175), (66, 184), (69, 193), (70, 220), (84, 211)], 92) := by decide +kernel
theorem dX12_beginPart_96 : decode cX12_beginPart 96 = .ok (.aload_n 0, 1) := by decide +kernel
theorem dX12_beginPart_97 : decode cX12_beginPart 97 = .ok (.getfield 243, 3) := by decide +kernel
theorem dX12_beginPart_100 : decode cX12_beginPart 100 = .ok (.bipush 12, 2) := by decide +kernel
theorem dX12_beginPart_102 : decode cX12_beginPart 102 = .ok (.if_icmp .ne 13, 3) := by decide +kernel
theorem dX12_beginPart_105 : decode cX12_beginPart 105 = .ok (.aload_n 0, 1) := by decide +kernel
theorem dX12_beginPart_106 : decode cX12_beginPart 106 = .ok (.aload_n 0, 1) := by decide +kernel
theorem dX12_beginPart_107 : decode cX12_beginPart 107 = .ok (.getfield 237, 3) := by decide +kernel
theorem dX12_beginPart_110 : decode cX12_beginPart 110 = .ok (.putfield 256, 3) := by decide +kernel
theorem dX12_beginPart_113 : decode cX12_beginPart 113 = .ok (.iconst 0, 1) := by decide +kernel
theorem dX12_beginPart_114 : decode cX12_beginPart 114 = .ok (.ireturn, 1) := by decide +kernel
theorem dX12_beginPart_115 : decode cX12_beginPart 115 = .ok (.aload_n 0, 1) := by decide +kernel
theorem dX12_beginPart_116 : decode cX12_beginPart 116 = .ok (.invokevirtual 249, 3) := by decide +kernel
theorem dX12_beginPart_119 : decode cX12_beginPart 119 = .ok (.bipush 45, 2) := by decide +kernel
theorem dX12_beginPart_121 : decode cX12_beginPart 121 = .ok (.if_icmp .ne 18, 3) := by decide +kernel
theorem dX12_beginPart_124 : decode cX12_beginPart 124 = .ok (.aload_n 0, 1) := by decide +kernel
theorem dX12_beginPart_125 : decode cX12_beginPart 125 = .ok (.iconst 1, 1) := by decide +kernel
theorem dX12_beginPart_126 : decode cX12_beginPart 126 = .ok (.iconst 0, 1) := by decide +kernel
theorem dX12_beginPart_127 : decode cX12_beginPart 127 = .ok (.iconst 0, 1) := by decide +kernel
theorem dX12_beginPart_128 : decode cX12_beginPart 128 = .ok (.invokevirtual 262, 3) := by decide +kernel
theorem dX12_beginPart_131 : decode cX12_beginPart 131 = .ok (.aload_n 0, 1) := by decide +kernel
theorem dX12_beginPart_132 : decode cX12_beginPart 132 = .ok (.iconst 1, 1) := by decide +kernel
theorem dX12_beginPart_133 : decode cX12_beginPart 133 = .ok (.invokevirtual 268, 3) := by decide +kernel
theorem dX12_beginPart_136 : decode cX12_beginPart 136 = .ok (.goto 17, 3) := by decide +kernel
theorem dX12_beginPart_139 : decode cX12_beginPart 139 = .ok (.aload_n 0, 1) := by decide +kernel
theorem dX12_beginPart_140 : decode cX12_beginPart 140 = .ok (.dup, 1) := by decide +kernel
theorem dX12_beginPart_141 : decode cX12_beginPart 141 = .ok (.getfield 243, 3) := by decide +kernel
theorem dX12_beginPart_144 : decode cX12_beginPart 144 = .ok (.iconst 1, 1) := by decide +kernel
theorem dX12_beginPart_145 : decode cX12_beginPart 145 = .ok (.iadd, 1) := by decide +kernel
theorem dX12_beginPart_146 : decode cX12_beginPart 146 = .ok (.putfield 243, 3) := by decide +kernel
theorem dX12_beginPart_149 : decode cX12_beginPart 149 = .ok (.aload_n 0, 1) := by decide +kernel
theorem dX12_beginPart_150 : decode cX12_beginPart 150 = .ok (.invokevirtual 272, 3) := by decide +kernel
theorem dX12_beginPart_153 : decode cX12_beginPart 153 = .ok (.aload_n 0, 1) := by decide +kernel
theorem dX12_beginPart_154 : decode cX12_beginPart 154 = .ok (.dup, 1) := by decide +kernel
theorem dX12_beginPart_155 : decode cX12_beginPart 155 = .ok (.getfield 237, 3) := by decide +kernel
theorem dX12_beginPart_158 : decode cX12_beginPart 158 = .ok (.iconst 1, 1) := by decide +kernel
theorem dX12_beginPart_159 : decode cX12_beginPart 159 = .ok (.iadd, 1) := by decide +kernel
theorem dX12_beginPart_160 : decode cX12_beginPart 160 = .ok (.putfield 237, 3) := by decide +kernel
theorem dX12_beginPart_163 : decode cX12_beginPart 163 = .ok (.iconst 0, 1) := by decide +kernel
theorem dX12_beginPart_164 : decode cX12_beginPart 164 = .ok (.ireturn, 1) := by decide +kernel
theorem dX12_beginPart_165 : decode cX12_beginPart 165 = .ok (.aload_n 0, 1) := by decide +kernel
theorem dX12_beginPart_166 : decode cX12_beginPart 166 = .ok (.iconst 2, 1) := by decide +kernel
theorem dX12_beginPart_167 : decode cX12_beginPart 167 = .ok (.invokevirtual 275, 3) := by decide +kernel
theorem dX12_beginPart_170 : decode cX12_beginPart 170 = .ok (.iconst 0, 1) := by decide +kernel
theorem dX12_beginPart_171 : decode cX12_beginPart 171 = .ok (.ireturn, 1) := by decide +kernel
theorem dX12_beginPart_172 : decode cX12_beginPart 172 = .ok (.aload_n 0, 1) := by decide +kernel
theorem dX12_beginPart_173 : decode cX12_beginPart 173 = .ok (.iconst 3, 1) := by decide +kernel
theorem dX12_beginPart_174 : decode cX12_beginPart 174 = .ok (.invokevirtual 275, 3) := by decide +kernel
theorem dX12_beginPart_177 : decode cX12_beginPart 177 = .ok (.iconst 0, 1) := by decide +kernel
theorem dX12_beginPart_178 : decode cX12_beginPart 178 = .ok (.ireturn, 1) := by decide +kernel
theorem dX12_beginPart_179 : decode cX12_beginPart 179 = .ok (.aload_n 0, 1) := by decide +kernel
theorem dX12_beginPart_180 : decode cX12_beginPart 180 = .ok (.bipush 6, 2) := by decide +kernel
theorem dX12_beginPart_182 : decode cX12_beginPart 182 = .ok (.iconst 1, 1) := by decide +kernel
theorem dX12_beginPart_183 : decode cX12_beginPart 183 = .ok (.invokevirtual 278, 3) := by decide +kernel
theorem dX12_beginPart_186 : decode cX12_beginPart 186 = .ok (.iconst 1, 1) := by decide +kernel
theorem dX12_beginPart_187 : decode cX12_beginPart 187 = .ok (.ireturn, 1) := by decide +kernel
theorem dX12_beginPart_188 : decode cX12_beginPart 188 = .ok (.aload_n 0, 1) := by decide +kernel
theorem dX12_beginPart_189 : decode cX12_beginPart 189 = .ok (.bipush 7, 2) := by decide +kernel
theorem dX12_beginPart_191 : decode cX12_beginPart 191 = .ok (.iconst 1, 1) := by decide +kernel
theorem dX12_beginPart_192 : decode cX12_beginPart 192 = .ok (.invokevirtual 278, 3) := by decide +kernel
theorem dX12_beginPart_195 : decode cX12_beginPart 195 = .ok (.iconst 1, 1) := by decide +kernel
theorem dX12_beginPart_196 : decode cX12_beginPart 196 = .ok (.ireturn, 1) := by decide +kernel
theorem dX12_beginPart_197 : decode cX12_beginPart 197 = .ok (.aload_n 0, 1) := by decide +kernel
theorem dX12_beginPart_198 : decode cX12_beginPart 198 = .ok (.bipush 8, 2) := by decide +kernel
theorem dX12_beginPart_200 : decode cX12_beginPart 200 = .ok (.iconst 2, 1) := by decide +kernel
theorem dX12_beginPart_201 : decode cX12_beginPart 201 = .ok (.invokevirtual 278, 3) := by decide +kernel
theorem dX12_beginPart_204 : decode cX12_beginPart 204 = .ok (.iconst 1, 1) := by decide +kernel
theorem dX12_beginPart_205 : decode cX12_beginPart 205 = .ok (.ireturn, 1) := by decide +kernel
theorem dX12_beginPart_206 : decode cX12_beginPart 206 = .ok (.aload_n 0, 1) := by decide +kernel
theorem dX12_beginPart_207 : decode cX12_beginPart 207 = .ok (.bipush 9, 2) := by decide +kernel
theorem dX12_beginPart_209 : decode cX12_beginPart 209 = .ok (.iconst 2, 1) := by decide +kernel
theorem dX12_beginPart_210 : decode cX12_beginPart 210 = .ok (.invokevirtual 278, 3) := by decide +kernel
theorem dX12_beginPart_213 : decode cX12_beginPart 213 = .ok (.iconst 1, 1) := by decide +kernel
theorem dX12_beginPart_214 : decode cX12_beginPart 214 = .ok (.ireturn, 1) := by decide +kernel
theorem dX12_beginPart_215 : decode cX12_beginPart 215 = .ok (.aload_n 0, 1) := by decide +kernel
theorem dX12_beginPart_216 : decode cX12_beginPart 216 = .ok (.bipush 10, 2) := by decide +kernel
theorem dX12_beginPart_218 : decode cX12_beginPart 218 = .ok (.iconst 0, 1) := by decide +kernel
theorem dX12_beginPart_219 : decode cX12_beginPart 219 = .ok (.invokevirtual 278, 3) := by decide +kernel
theorem dX12_beginPart_222 : decode cX12_beginPart 222 = .ok (.iconst 1, 1) := by decide +kernel
theorem dX12_beginPart_223 : decode cX12_beginPart 223 = .ok (.ireturn, 1) := by decide +kernel
theorem dX12_beginPart_224 : decode cX12_beginPart 224 = .ok (.aload_n 0, 1) := by decide +kernel
theorem dX12_beginPart_225 : decode cX12_beginPart 225 = .ok (.bipush 11, 2) := by decide +kernel
theorem dX12_beginPart_227 : decode cX12_beginPart 227 = .ok (.iconst 0, 1) := by decide +kernel
theorem dX12_beginPart_228 : decode cX12_beginPart 228 = .ok (.invokevirtual 278, 3) := by decide +kernel
theorem dX12_beginPart_231 : decode cX12_beginPart 231 = .ok (.iconst 1, 1) := by decide +kernel
theorem dX12_beginPart_232 : decode cX12_beginPart 232 = .ok (.ireturn, 1) := by decide +kernel
theorem dX12_beginPart_233 : decode cX12_beginPart 233 = .ok (.aload_n 0, 1) := by decide +kernel
theorem dX12_beginPart_234 : decode cX12_beginPart 234 = .ok (.aload_n 0, 1) := by decide +kernel
theorem dX12_beginPart_235 : decode cX12_beginPart 235 = .ok (.getfield 237, 3) := by decide +kernel
theorem dX12_beginPart_238 : decode cX12_beginPart 238 = .ok (.putfield 256, 3) := by decide +kernel
theorem dX12_beginPart_241 : decode cX12_beginPart 241 = .ok (.iconst 0, 1) := by decide +kernel
theorem dX12_beginPart_242 : decode cX12_beginPart 242 = .ok (.ireturn, 1) := by decide +kernel
theorem dX12_goOn_0 : decode cX12_goOn 0 = .ok (.aload_n 0, 1) := by decide +kernel
theorem dX12_goOn_1 : decode cX12_goOn 1 = .ok (.invokevirtual 249, 3) := by decide +kernel
theorem dX12_goOn_4 : decode cX12_goOn 4 = .ok (.istore_n 1, 1) := by decide +kernel
theorem dX12_goOn_5 : decode cX12_goOn 5 = .ok (.aload_n 0, 1) := by decide +kernel
theorem dX12_goOn_6 : decode cX12_goOn 6 = .ok (.getfield 240, 3) := by decide +kernel
theorem dX12_goOn_9 : decode cX12_goOn 9 = .ok (.iconst 1, 1) := by decide +kernel
theorem dX12_goOn_10 : decode cX12_goOn 10 = .ok (.isub, 1) := by decide +kernel
theorem dX12_goOn_11 : decode cX12_goOn 11 = .ok (.istore_n 2, 1) := by decide +kernel
theorem dX12_goOn_12 : decode cX12_goOn 12 = .ok (.iload_n 1, 1) := by decide +kernel
theorem dX12_goOn_13 : decode cX12_goOn 13 = .ok (.bipush 41, 2) := by decide +kernel
theorem dX12_goOn_15 : decode cX12_goOn 15 = .ok (.if_icmp .ne 47, 3) := by decide +kernel
theorem dX12_goOn_18 : decode cX12_goOn 18 = .ok (.aload_n 0, 1) := by decide +kernel
theorem dX12_goOn_19 : decode cX12_goOn 19 = .ok (.getfield 240, 3) := by decide +kernel
theorem dX12_goOn_22 : decode cX12_goOn 22 = .ok (.iconst 1, 1) := by decide +kernel
theorem dX12_goOn_23 : decode cX12_goOn 23 = .ok (.if_icmp .le 39, 3) := by decide +kernel
theorem dX12_goOn_26 : decode cX12_goOn 26 = .ok (.aload_n 0, 1) := by decide +kernel
theorem dX12_goOn_27 : decode cX12_goOn 27 = .ok (.dup, 1) := by decide +kernel
theorem dX12_goOn_28 : decode cX12_goOn 28 = .ok (.getfield 240, 3) := by decide +kernel
theorem dX12_goOn_31 : decode cX12_goOn 31 = .ok (.iconst 1, 1) := by decide +kernel
theorem dX12_goOn_32 : decode cX12_goOn 32 = .ok (.isub, 1) := by decide +kernel
theorem dX12_goOn_33 : decode cX12_goOn 33 = .ok (.putfield 240, 3) := by decide +kernel
theorem dX12_goOn_36 : decode cX12_goOn 36 = .ok (.aload_n 0, 1) := by decide +kernel
theorem dX12_goOn_37 : decode cX12_goOn 37 = .ok (.dup, 1) := by decide +kernel
theorem dX12_goOn_38 : decode cX12_goOn 38 = .ok (.getfield 243, 3) := by decide +kernel
theorem dX12_goOn_41 : decode cX12_goOn 41 = .ok (.iconst 1, 1) := by decide +kernel
theorem dX12_goOn_42 : decode cX12_goOn 42 = .ok (.isub, 1) := by decide +kernel
theorem dX12_goOn_43 : decode cX12_goOn 43 = .ok (.putfield 243, 3) := by decide +kernel
theorem dX12_goOn_46 : decode cX12_goOn 46 = .ok (.aload_n 0, 1) := by decide +kernel
theorem dX12_goOn_47 : decode cX12_goOn 47 = .ok (.dup, 1) := by decide +kernel
theorem dX12_goOn_48 : decode cX12_goOn 48 = .ok (.getfield 237, 3) := by decide +kernel
theorem dX12_goOn_51 : decode cX12_goOn 51 = .ok (.iconst 1, 1) := by decide +kernel
theorem dX12_goOn_52 : decode cX12_goOn 52 = .ok (.iadd, 1) := by decide +kernel
theorem dX12_goOn_53 : decode cX12_goOn 53 = .ok (.putfield 237, 3) := by decide +kernel
theorem dX12_goOn_56 : decode cX12_goOn 56 = .ok (.aload_n 0, 1) := by decide +kernel
theorem dX12_goOn_57 : decode cX12_goOn 57 = .ok (.invokevirtual 265, 3) := by decide +kernel
theorem dX12_goOn_60 : decode cX12_goOn 60 = .ok (.iconst 0, 1) := by decide +kernel
theorem dX12_goOn_61 : decode cX12_goOn 61 = .ok (.ireturn, 1) := by decide +kernel
theorem dX12_goOn_62 : decode cX12_goOn 62 = .ok (.iload_n 1, 1) := by decide +kernel
theorem dX12_goOn_63 : decode cX12_goOn 63 = .ok (.bipush 38, 2) := by decide +kernel
theorem dX12_goOn_65 : decode cX12_goOn 65 = .ok (.if_icmp .ne 7, 3) := by decide +kernel
theorem dX12_goOn_68 : decode cX12_goOn 68 = .ok (.iconst 4, 1) := by decide +kernel
theorem dX12_goOn_69 : decode cX12_goOn 69 = .ok (.goto 14, 3) := by decide +kernel
theorem dX12_goOn_72 : decode cX12_goOn 72 = .ok (.iload_n 1, 1) := by decide +kernel
theorem dX12_goOn_73 : decode cX12_goOn 73 = .ok (.bipush 124, 2) := by decide +kernel
theorem dX12_goOn_75 : decode cX12_goOn 75 = .ok (.if_icmp .ne 7, 3) := by decide +kernel
theorem dX12_goOn_78 : decode cX12_goOn 78 = .ok (.iconst 5, 1) := by decide +kernel
theorem dX12_goOn_79 : decode cX12_goOn 79 = .ok (.goto 4, 3) := by decide +kernel
theorem dX12_goOn_82 : decode cX12_goOn 82 = .ok (.iconst 0, 1) := by decide +kernel
theorem dX12_goOn_83 : decode cX12_goOn 83 = .ok (.istore_n 3, 1) := by decide +kernel
theorem dX12_goOn_84 : decode cX12_goOn 84 = .ok (.iload_n 3, 1) := by decide +kernel
theorem dX12_goOn_85 : decode cX12_goOn 85 = .ok (.ifCond .eq 22, 3) := by decide +kernel
theorem dX12_goOn_88 : decode cX12_goOn 88 = .ok (.aload_n 0, 1) := by decide +kernel
theorem dX12_goOn_89 : decode cX12_goOn 89 = .ok (.getfield 71, 3) := by decide +kernel
theorem dX12_goOn_92 : decode cX12_goOn 92 = .ok (.iload_n 2, 1) := by decide +kernel
theorem dX12_goOn_93 : decode cX12_goOn 93 = .ok (.iaload, 1) := by decide +kernel
theorem dX12_goOn_94 : decode cX12_goOn 94 = .ok (.ifCond .eq 23, 3) := by decide +kernel
theorem dX12_goOn_97 : decode cX12_goOn 97 = .ok (.aload_n 0, 1) := by decide +kernel
theorem dX12_goOn_98 : decode cX12_goOn 98 = .ok (.getfield 71, 3) := by decide +kernel
theorem dX12_goOn_101 : decode cX12_goOn 101 = .ok (.iload_n 2, 1) := by decide +kernel
theorem dX12_goOn_102 : decode cX12_goOn 102 = .ok (.iaload, 1) := by decide +kernel
theorem dX12_goOn_103 : decode cX12_goOn 103 = .ok (.iload_n 3, 1) := by decide +kernel
theorem dX12_goOn_104 : decode cX12_goOn 104 = .ok (.if_icmp .eq 13, 3) := by decide +kernel
theorem dX12_goOn_107 : decode cX12_goOn 107 = .ok (.aload_n 0, 1) := by decide +kernel
theorem dX12_goOn_108 : decode cX12_goOn 108 = .ok (.aload_n 0, 1) := by decide +kernel
theorem dX12_goOn_109 : decode cX12_goOn 109 = .ok (.getfield 237, 3) := by decide +kernel
theorem dX12_goOn_112 : decode cX12_goOn 112 = .ok (.putfield 256, 3) := by decide +kernel
theorem dX12_goOn_115 : decode cX12_goOn 115 = .ok (.iconst 0, 1) := by decide +kernel
theorem dX12_goOn_116 : decode cX12_goOn 116 = .ok (.ireturn, 1) := by decide +kernel
theorem dX12_goOn_117 : decode cX12_goOn 117 = .ok (.aload_n 0, 1) := by decide +kernel
theorem dX12_goOn_118 : decode cX12_goOn 118 = .ok (.getfield 71, 3) := by decide +kernel
theorem dX12_goOn_121 : decode cX12_goOn 121 = .ok (.iload_n 2, 1) := by decide +kernel
theorem dX12_goOn_122 : decode cX12_goOn 122 = .ok (.iaload, 1) := by decide +kernel
theorem dX12_goOn_123 : decode cX12_goOn 123 = .ok (.ifCond .ne 33, 3) := by decide +kernel
theorem dX12_goOn_126 : decode cX12_goOn 126 = .ok (.aload_n 0, 1) := by decide +kernel
theorem dX12_goOn_127 : decode cX12_goOn 127 = .ok (.getfield 71, 3) := by decide +kernel
theorem dX12_goOn_130 : decode cX12_goOn 130 = .ok (.iload_n 2, 1) := by decide +kernel
theorem dX12_goOn_131 : decode cX12_goOn 131 = .ok (.iload_n 3, 1) := by decide +kernel
theorem dX12_goOn_132 : decode cX12_goOn 132 = .ok (.iastore, 1) := by decide +kernel
theorem dX12_goOn_133 : decode cX12_goOn 133 = .ok (.aload_n 0, 1) := by decide +kernel
theorem dX12_goOn_134 : decode cX12_goOn 134 = .ok (.aload_n 0, 1) := by decide +kernel
theorem dX12_goOn_135 : decode cX12_goOn 135 = .ok (.getfield 68, 3) := by decide +kernel
theorem dX12_goOn_138 : decode cX12_goOn 138 = .ok (.iload_n 2, 1) := by decide +kernel
theorem dX12_goOn_139 : decode cX12_goOn 139 = .ok (.iaload, 1) := by decide +kernel
theorem dX12_goOn_140 : decode cX12_goOn 140 = .ok (.iload_n 3, 1) := by decide +kernel
theorem dX12_goOn_141 : decode cX12_goOn 141 = .ok (.invokevirtual 281, 3) := by decide +kernel
theorem dX12_goOn_144 : decode cX12_goOn 144 = .ok (.aload_n 0, 1) := by decide +kernel
theorem dX12_goOn_145 : decode cX12_goOn 145 = .ok (.getfield 56, 3) := by decide +kernel
theorem dX12_goOn_148 : decode cX12_goOn 148 = .ok (.aload_n 0, 1) := by decide +kernel
theorem dX12_goOn_149 : decode cX12_goOn 149 = .ok (.getfield 68, 3) := by decide +kernel
theorem dX12_goOn_152 : decode cX12_goOn 152 = .ok (.iload_n 2, 1) := by decide +kernel
theorem dX12_goOn_153 : decode cX12_goOn 153 = .ok (.iaload, 1) := by decide +kernel
theorem dX12_goOn_154 : decode cX12_goOn 154 = .ok (.iconst 1, 1) := by decide +kernel
theorem dX12_goOn_155 : decode cX12_goOn 155 = .ok (.iastore, 1) := by decide +kernel
theorem dX12_goOn_156 : decode cX12_goOn 156 = .ok (.aload_n 0, 1) := by decide +kernel
theorem dX12_goOn_157 : decode cX12_goOn 157 = .ok (.dup, 1) := by decide +kernel
theorem dX12_goOn_158 : decode cX12_goOn 158 = .ok (.getfield 237, 3) := by decide +kernel
theorem dX12_goOn_161 : decode cX12_goOn 161 = .ok (.iconst 1, 1) := by decide +kernel
theorem dX12_goOn_162 : decode cX12_goOn 162 = .ok (.iadd, 1) := by decide +kernel
theorem dX12_goOn_163 : decode cX12_goOn 163 = .ok (.putfield 237, 3) := by decide +kernel
theorem dX12_goOn_166 : decode cX12_goOn 166 = .ok (.iconst 1, 1) := by decide +kernel
theorem dX12_goOn_167 : decode cX12_goOn 167 = .ok (.ireturn, 1) := by decide +kernel
theorem dX12_parse_0 : decode cX12_parse 0 = .ok (.aload_n 0, 1) := by decide +kernel
theorem dX12_parse_1 : decode cX12_parse 1 = .ok (.iconst 0, 1) := by decide +kernel
theorem dX12_parse_2 : decode cX12_parse 2 = .ok (.putfield 234, 3) := by decide +kernel
theorem dX12_parse_5 : decode cX12_parse 5 = .ok (.aload_n 0, 1) := by decide +kernel
theorem dX12_parse_6 : decode cX12_parse 6 = .ok (.iconst 0, 1) := by decide +kernel
theorem dX12_parse_7 : decode cX12_parse 7 = .ok (.putfield 240, 3) := by decide +kernel
theorem dX12_parse_10 : decode cX12_parse 10 = .ok (.aload_n 0, 1) := by decide +kernel
theorem dX12_parse_11 : decode cX12_parse 11 = .ok (.iconst 0, 1) := by decide +kernel
theorem dX12_parse_12 : decode cX12_parse 12 = .ok (.putfield 243, 3) := by decide +kernel
theorem dX12_parse_15 : decode cX12_parse 15 = .ok (.aload_n 0, 1) := by decide +kernel
theorem dX12_parse_16 : decode cX12_parse 16 = .ok (.iconst 0, 1) := by decide +kernel
theorem dX12_parse_17 : decode cX12_parse 17 = .ok (.putfield 253, 3) := by decide +kernel
theorem dX12_parse_20 : decode cX12_parse 20 = .ok (.aload_n 0, 1) := by decide +kernel
theorem dX12_parse_21 : decode cX12_parse 21 = .ok (.iconst 0, 1) := by decide +kernel
theorem dX12_parse_22 : decode cX12_parse 22 = .ok (.putfield 237, 3) := by decide +kernel
theorem dX12_parse_25 : decode cX12_parse 25 = .ok (.aload_n 0, 1) := by decide +kernel
theorem dX12_parse_26 : decode cX12_parse 26 = .ok (.iconst (-1), 1) := by decide +kernel
theorem dX12_parse_27 : decode cX12_parse 27 = .ok (.putfield 256, 3) := by decide +kernel
theorem dX12_parse_30 : decode cX12_parse 30 = .ok (.aload_n 0, 1) := by decide +kernel
theorem dX12_parse_31 : decode cX12_parse 31 = .ok (.invokevirtual 272, 3) := by decide +kernel
theorem dX12_parse_34 : decode cX12_parse 34 = .ok (.iconst 1, 1) := by decide +kernel
theorem dX12_parse_35 : decode cX12_parse 35 = .ok (.istore_n 1, 1) := by decide +kernel
theorem dX12_parse_36 : decode cX12_parse 36 = .ok (.aload_n 0, 1) := by decide +kernel
theorem dX12_parse_37 : decode cX12_parse 37 = .ok (.invokevirtual 246, 3) := by decide +kernel
theorem dX12_parse_40 : decode cX12_parse 40 = .ok (.aload_n 0, 1) := by decide +kernel
theorem dX12_parse_41 : decode cX12_parse 41 = .ok (.getfield 256, 3) := by decide +kernel
theorem dX12_parse_44 : decode cX12_parse 44 = .ok (.ifCond .ge 65, 3) := by decide +kernel
theorem dX12_parse_47 : decode cX12_parse 47 = .ok (.iload_n 1, 1) := by decide +kernel
theorem dX12_parse_48 : decode cX12_parse 48 = .ok (.ifCond .ne 22, 3) := by decide +kernel
theorem dX12_parse_51 : decode cX12_parse 51 = .ok (.aload_n 0, 1) := by decide +kernel
theorem dX12_parse_52 : decode cX12_parse 52 = .ok (.getfield 240, 3) := by decide +kernel
theorem dX12_parse_55 : decode cX12_parse 55 = .ok (.iconst 1, 1) := by decide +kernel
theorem dX12_parse_56 : decode cX12_parse 56 = .ok (.if_icmp .gt 14, 3) := by decide +kernel
theorem dX12_parse_59 : decode cX12_parse 59 = .ok (.aload_n 0, 1) := by decide +kernel
theorem dX12_parse_60 : decode cX12_parse 60 = .ok (.getfield 237, 3) := by decide +kernel
theorem dX12_parse_63 : decode cX12_parse 63 = .ok (.aload_n 0, 1) := by decide +kernel
theorem dX12_parse_64 : decode cX12_parse 64 = .ok (.getfield 231, 3) := by decide +kernel
theorem dX12_parse_67 : decode cX12_parse 67 = .ok (.if_icmp .ge 42, 3) := by decide +kernel
theorem dX12_parse_70 : decode cX12_parse 70 = .ok (.iload_n 1, 1) := by decide +kernel
theorem dX12_parse_71 : decode cX12_parse 71 = .ok (.ifCond .eq 19, 3) := by decide +kernel
theorem dX12_parse_74 : decode cX12_parse 74 = .ok (.aload_n 0, 1) := by decide +kernel
theorem dX12_parse_75 : decode cX12_parse 75 = .ok (.invokevirtual 284, 3) := by decide +kernel
theorem dX12_parse_78 : decode cX12_parse 78 = .ok (.ifCond .ne 7, 3) := by decide +kernel
theorem dX12_parse_81 : decode cX12_parse 81 = .ok (.iconst 1, 1) := by decide +kernel
theorem dX12_parse_82 : decode cX12_parse 82 = .ok (.goto 4, 3) := by decide +kernel
theorem dX12_parse_85 : decode cX12_parse 85 = .ok (.iconst 0, 1) := by decide +kernel
theorem dX12_parse_86 : decode cX12_parse 86 = .ok (.istore_n 1, 1) := by decide +kernel
theorem dX12_parse_87 : decode cX12_parse 87 = .ok (.goto 8, 3) := by decide +kernel
theorem dX12_parse_90 : decode cX12_parse 90 = .ok (.aload_n 0, 1) := by decide +kernel
theorem dX12_parse_91 : decode cX12_parse 91 = .ok (.invokevirtual 287, 3) := by decide +kernel
theorem dX12_parse_94 : decode cX12_parse 94 = .ok (.istore_n 1, 1) := by decide +kernel
theorem dX12_parse_95 : decode cX12_parse 95 = .ok (.aload_n 0, 1) := by decide +kernel
theorem dX12_parse_96 : decode cX12_parse 96 = .ok (.getfield 256, 3) := by decide +kernel
theorem dX12_parse_99 : decode cX12_parse 99 = .ok (.ifCond .ge (-59), 3) := by decide +kernel
theorem dX12_parse_102 : decode cX12_parse 102 = .ok (.aload_n 0, 1) := by decide +kernel
theorem dX12_parse_103 : decode cX12_parse 103 = .ok (.invokevirtual 246, 3) := by decide +kernel
theorem dX12_parse_106 : decode cX12_parse 106 = .ok (.goto (-66), 3) := by decide +kernel
theorem dX12_parse_109 : decode cX12_parse 109 = .ok (.return_, 1) := by decide +kernel
theorem dX12_findEnds_0 : decode cX12_findEnds 0 = .ok (.aload_n 0, 1) := by decide +kernel
theorem dX12_findEnds_1 : decode cX12_findEnds 1 = .ok (.getfield 37, 3) := by decide +kernel
theorem dX12_findEnds_4 : decode cX12_findEnds 4 = .ok (.iload_n 1, 1) := by decide +kernel
theorem dX12_findEnds_5 : decode cX12_findEnds 5 = .ok (.sipush 600, 3) := by decide +kernel
theorem dX12_findEnds_8 : decode cX12_findEnds 8 = .ok (.idiv, 1) := by decide +kernel
theorem dX12_findEnds_9 : decode cX12_findEnds 9 = .ok (.iaload, 1) := by decide +kernel
theorem dX12_findEnds_10 : decode cX12_findEnds 10 = .ok (.iconst 1, 1) := by decide +kernel
theorem dX12_findEnds_11 : decode cX12_findEnds 11 = .ok (.isub, 1) := by decide +kernel
theorem dX12_findEnds_12 : decode cX12_findEnds 12 = .ok (.istore_n 2, 1) := by decide +kernel
theorem dX12_findEnds_13 : decode cX12_findEnds 13 = .ok (.iload_n 2, 1) := by decide +kernel
theorem dX12_findEnds_14 : decode cX12_findEnds 14 = .ok (.ifCond .lt 99, 3) := by decide +kernel
theorem dX12_findEnds_17 : decode cX12_findEnds 17 = .ok (.iload_n 1, 1) := by decide +kernel
theorem dX12_findEnds_18 : decode cX12_findEnds 18 = .ok (.iload_n 2, 1) := by decide +kernel
theorem dX12_findEnds_19 : decode cX12_findEnds 19 = .ok (.iadd, 1) := by decide +kernel
theorem dX12_findEnds_20 : decode cX12_findEnds 20 = .ok (.istore_n 3, 1) := by decide +kernel
theorem dX12_findEnds_21 : decode cX12_findEnds 21 = .ok (.aload_n 0, 1) := by decide +kernel
theorem dX12_findEnds_22 : decode cX12_findEnds 22 = .ok (.getfield 40, 3) := by decide +kernel
theorem dX12_findEnds_25 : decode cX12_findEnds 25 = .ok (.iload_n 3, 1) := by decide +kernel
theorem dX12_findEnds_26 : decode cX12_findEnds 26 = .ok (.baload, 1) := by decide +kernel
theorem dX12_findEnds_27 : decode cX12_findEnds 27 = .ok (.iconst 4, 1) := by decide +kernel
theorem dX12_findEnds_28 : decode cX12_findEnds 28 = .ok (.if_icmp .eq 13, 3) := by decide +kernel
theorem dX12_findEnds_31 : decode cX12_findEnds 31 = .ok (.aload_n 0, 1) := by decide +kernel
theorem dX12_findEnds_32 : decode cX12_findEnds 32 = .ok (.getfield 40, 3) := by decide +kernel
theorem dX12_findEnds_35 : decode cX12_findEnds 35 = .ok (.iload_n 3, 1) := by decide +kernel
theorem dX12_findEnds_36 : decode cX12_findEnds 36 = .ok (.baload, 1) := by decide +kernel
theorem dX12_findEnds_37 : decode cX12_findEnds 37 = .ok (.iconst 5, 1) := by decide +kernel
theorem dX12_findEnds_38 : decode cX12_findEnds 38 = .ok (.if_icmp .ne 12, 3) := by decide +kernel
theorem dX12_findEnds_41 : decode cX12_findEnds 41 = .ok (.aload_n 0, 1) := by decide +kernel
theorem dX12_findEnds_42 : decode cX12_findEnds 42 = .ok (.getfield 44, 3) := by decide +kernel
theorem dX12_findEnds_45 : decode cX12_findEnds 45 = .ok (.iload_n 3, 1) := by decide +kernel
theorem dX12_findEnds_46 : decode cX12_findEnds 46 = .ok (.iaload, 1) := by decide +kernel
theorem dX12_findEnds_47 : decode cX12_findEnds 47 = .ok (.goto 18, 3) := by decide +kernel
theorem dX12_findEnds_50 : decode cX12_findEnds 50 = .ok (.aload_n 0, 1) := by decide +kernel
theorem dX12_findEnds_51 : decode cX12_findEnds 51 = .ok (.getfield 40, 3) := by decide +kernel
theorem dX12_findEnds_54 : decode cX12_findEnds 54 = .ok (.iload_n 3, 1) := by decide +kernel
theorem dX12_findEnds_55 : decode cX12_findEnds 55 = .ok (.baload, 1) := by decide +kernel
theorem dX12_findEnds_56 : decode cX12_findEnds 56 = .ok (.iconst 3, 1) := by decide +kernel
theorem dX12_findEnds_57 : decode cX12_findEnds 57 = .ok (.if_icmp .gt 7, 3) := by decide +kernel
theorem dX12_findEnds_60 : decode cX12_findEnds 60 = .ok (.iconst 1, 1) := by decide +kernel
theorem dX12_findEnds_61 : decode cX12_findEnds 61 = .ok (.goto 4, 3) := by decide +kernel
theorem dX12_findEnds_64 : decode cX12_findEnds 64 = .ok (.iconst 0, 1) := by decide +kernel
theorem dX12_findEnds_65 : decode cX12_findEnds 65 = .ok (.istore 4, 2) := by decide +kernel
theorem dX12_findEnds_67 : decode cX12_findEnds 67 = .ok (.iload_n 2, 1) := by decide +kernel
theorem dX12_findEnds_68 : decode cX12_findEnds 68 = .ok (.iconst 1, 1) := by decide +kernel
theorem dX12_findEnds_69 : decode cX12_findEnds 69 = .ok (.iadd, 1) := by decide +kernel
theorem dX12_findEnds_70 : decode cX12_findEnds 70 = .ok (.istore 5, 2) := by decide +kernel
theorem dX12_findEnds_72 : decode cX12_findEnds 72 = .ok (.iconst 0, 1) := by decide +kernel
theorem dX12_findEnds_73 : decode cX12_findEnds 73 = .ok (.istore 6, 2) := by decide +kernel
theorem dX12_findEnds_75 : decode cX12_findEnds 75 = .ok (.iload 6, 2) := by decide +kernel
theorem dX12_findEnds_77 : decode cX12_findEnds 77 = .ok (.iload 4, 2) := by decide +kernel
theorem dX12_findEnds_79 : decode cX12_findEnds 79 = .ok (.if_icmp .ge 20, 3) := by decide +kernel
theorem dX12_findEnds_82 : decode cX12_findEnds 82 = .ok (.aload_n 0, 1) := by decide +kernel
theorem dX12_findEnds_83 : decode cX12_findEnds 83 = .ok (.getfield 50, 3) := by decide +kernel
theorem dX12_findEnds_86 : decode cX12_findEnds 86 = .ok (.iload_n 1, 1) := by decide +kernel
theorem dX12_findEnds_87 : decode cX12_findEnds 87 = .ok (.iload 5, 2) := by decide +kernel
theorem dX12_findEnds_89 : decode cX12_findEnds 89 = .ok (.iadd, 1) := by decide +kernel
theorem dX12_findEnds_90 : decode cX12_findEnds 90 = .ok (.iaload, 1) := by decide +kernel
theorem dX12_findEnds_91 : decode cX12_findEnds 91 = .ok (.istore 5, 2) := by decide +kernel
theorem dX12_findEnds_93 : decode cX12_findEnds 93 = .ok (.iinc 6 1, 3) := by decide +kernel
theorem dX12_findEnds_96 : decode cX12_findEnds 96 = .ok (.goto (-21), 3) := by decide +kernel
theorem dX12_findEnds_99 : decode cX12_findEnds 99 = .ok (.aload_n 0, 1) := by decide +kernel
theorem dX12_findEnds_100 : decode cX12_findEnds 100 = .ok (.getfield 50, 3) := by decide +kernel
theorem dX12_findEnds_103 : decode cX12_findEnds 103 = .ok (.iload_n 3, 1) := by decide +kernel
theorem dX12_findEnds_104 : decode cX12_findEnds 104 = .ok (.iload 5, 2) := by decide +kernel
theorem dX12_findEnds_106 : decode cX12_findEnds 106 = .ok (.iastore, 1) := by decide +kernel
theorem dX12_findEnds_107 : decode cX12_findEnds 107 = .ok (.iinc 2 (-1), 3) := by decide +kernel
theorem dX12_findEnds_110 : decode cX12_findEnds 110 = .ok (.goto (-97), 3) := by decide +kernel
theorem dX12_findEnds_113 : decode cX12_findEnds 113 = .ok (.return_, 1) := by decide +kernel
theorem dX12_keep_0 : decode cX12_keep 0 = .ok (.sipush 600, 3) := by decide +kernel
theorem dX12_keep_3 : decode cX12_keep 3 = .ok (.aload_n 0, 1) := by decide +kernel
theorem dX12_keep_4 : decode cX12_keep 4 = .ok (.getfield 290, 3) := by decide +kernel
theorem dX12_keep_7 : decode cX12_keep 7 = .ok (.imul, 1) := by decide +kernel
theorem dX12_keep_8 : decode cX12_keep 8 = .ok (.istore_n 1, 1) := by decide +kernel
theorem dX12_keep_9 : decode cX12_keep 9 = .ok (.aload_n 0, 1) := by decide +kernel
theorem dX12_keep_10 : decode cX12_keep 10 = .ok (.getfield 37, 3) := by decide +kernel
theorem dX12_keep_13 : decode cX12_keep 13 = .ok (.aload_n 0, 1) := by decide +kernel
theorem dX12_keep_14 : decode cX12_keep 14 = .ok (.getfield 290, 3) := by decide +kernel
theorem dX12_keep_17 : decode cX12_keep 17 = .ok (.aload_n 0, 1) := by decide +kernel
theorem dX12_keep_18 : decode cX12_keep 18 = .ok (.getfield 234, 3) := by decide +kernel
theorem dX12_keep_21 : decode cX12_keep 21 = .ok (.iastore, 1) := by decide +kernel
theorem dX12_keep_22 : decode cX12_keep 22 = .ok (.iconst 0, 1) := by decide +kernel
theorem dX12_keep_23 : decode cX12_keep 23 = .ok (.istore_n 2, 1) := by decide +kernel
theorem dX12_keep_24 : decode cX12_keep 24 = .ok (.iload_n 2, 1) := by decide +kernel
theorem dX12_keep_25 : decode cX12_keep 25 = .ok (.aload_n 0, 1) := by decide +kernel
theorem dX12_keep_26 : decode cX12_keep 26 = .ok (.getfield 234, 3) := by decide +kernel
theorem dX12_keep_29 : decode cX12_keep 29 = .ok (.if_icmp .ge 51, 3) := by decide +kernel
theorem dX12_keep_32 : decode cX12_keep 32 = .ok (.aload_n 0, 1) := by decide +kernel
theorem dX12_keep_33 : decode cX12_keep 33 = .ok (.getfield 40, 3) := by decide +kernel
theorem dX12_keep_36 : decode cX12_keep 36 = .ok (.iload_n 1, 1) := by decide +kernel
theorem dX12_keep_37 : decode cX12_keep 37 = .ok (.iload_n 2, 1) := by decide +kernel
theorem dX12_keep_38 : decode cX12_keep 38 = .ok (.iadd, 1) := by decide +kernel
theorem dX12_keep_39 : decode cX12_keep 39 = .ok (.aload_n 0, 1) := by decide +kernel
theorem dX12_keep_40 : decode cX12_keep 40 = .ok (.getfield 53, 3) := by decide +kernel
theorem dX12_keep_43 : decode cX12_keep 43 = .ok (.iload_n 2, 1) := by decide +kernel
theorem dX12_keep_44 : decode cX12_keep 44 = .ok (.baload, 1) := by decide +kernel
theorem dX12_keep_45 : decode cX12_keep 45 = .ok (.bastore, 1) := by decide +kernel
theorem dX12_keep_46 : decode cX12_keep 46 = .ok (.aload_n 0, 1) := by decide +kernel
theorem dX12_keep_47 : decode cX12_keep 47 = .ok (.getfield 44, 3) := by decide +kernel
theorem dX12_keep_50 : decode cX12_keep 50 = .ok (.iload_n 1, 1) := by decide +kernel
theorem dX12_keep_51 : decode cX12_keep 51 = .ok (.iload_n 2, 1) := by decide +kernel
theorem dX12_keep_52 : decode cX12_keep 52 = .ok (.iadd, 1) := by decide +kernel
theorem dX12_keep_53 : decode cX12_keep 53 = .ok (.aload_n 0, 1) := by decide +kernel
theorem dX12_keep_54 : decode cX12_keep 54 = .ok (.getfield 56, 3) := by decide +kernel
theorem dX12_keep_57 : decode cX12_keep 57 = .ok (.iload_n 2, 1) := by decide +kernel
theorem dX12_keep_58 : decode cX12_keep 58 = .ok (.iaload, 1) := by decide +kernel
theorem dX12_keep_59 : decode cX12_keep 59 = .ok (.iastore, 1) := by decide +kernel
theorem dX12_keep_60 : decode cX12_keep 60 = .ok (.aload_n 0, 1) := by decide +kernel
theorem dX12_keep_61 : decode cX12_keep 61 = .ok (.getfield 47, 3) := by decide +kernel
theorem dX12_keep_64 : decode cX12_keep 64 = .ok (.iload_n 1, 1) := by decide +kernel
theorem dX12_keep_65 : decode cX12_keep 65 = .ok (.iload_n 2, 1) := by decide +kernel
theorem dX12_keep_66 : decode cX12_keep 66 = .ok (.iadd, 1) := by decide +kernel
theorem dX12_keep_67 : decode cX12_keep 67 = .ok (.aload_n 0, 1) := by decide +kernel
theorem dX12_keep_68 : decode cX12_keep 68 = .ok (.getfield 59, 3) := by decide +kernel
theorem dX12_keep_71 : decode cX12_keep 71 = .ok (.iload_n 2, 1) := by decide +kernel
theorem dX12_keep_72 : decode cX12_keep 72 = .ok (.baload, 1) := by decide +kernel
theorem dX12_keep_73 : decode cX12_keep 73 = .ok (.bastore, 1) := by decide +kernel
theorem dX12_keep_74 : decode cX12_keep 74 = .ok (.iinc 2 1, 3) := by decide +kernel
theorem dX12_keep_77 : decode cX12_keep 77 = .ok (.goto (-53), 3) := by decide +kernel
theorem dX12_keep_80 : decode cX12_keep 80 = .ok (.aload_n 0, 1) := by decide +kernel
theorem dX12_keep_81 : decode cX12_keep 81 = .ok (.iload_n 1, 1) := by decide +kernel
theorem dX12_keep_82 : decode cX12_keep 82 = .ok (.invokevirtual 293, 3) := by decide +kernel
theorem dX12_keep_85 : decode cX12_keep 85 = .ok (.aload_n 0, 1) := by decide +kernel
theorem dX12_keep_86 : decode cX12_keep 86 = .ok (.dup, 1) := by decide +kernel
theorem dX12_keep_87 : decode cX12_keep 87 = .ok (.getfield 290, 3) := by decide +kernel
theorem dX12_keep_90 : decode cX12_keep 90 = .ok (.iconst 1, 1) := by decide +kernel
theorem dX12_keep_91 : decode cX12_keep 91 = .ok (.iadd, 1) := by decide +kernel
theorem dX12_keep_92 : decode cX12_keep 92 = .ok (.putfield 290, 3) := by decide +kernel
theorem dX12_keep_95 : decode cX12_keep 95 = .ok (.aload_n 0, 1) := by decide +kernel
theorem dX12_keep_96 : decode cX12_keep 96 = .ok (.getfield 290, 3) := by decide +kernel
theorem dX12_keep_99 : decode cX12_keep 99 = .ok (.iconst 1, 1) := by decide +kernel
theorem dX12_keep_100 : decode cX12_keep 100 = .ok (.isub, 1) := by decide +kernel
theorem dX12_keep_101 : decode cX12_keep 101 = .ok (.ireturn, 1) := by decide +kernel
theorem dX12_read_0 : decode cX12_read 0 = .ok (.aload_n 0, 1) := by decide +kernel
theorem dX12_read_1 : decode cX12_read 1 = .ok (.invokevirtual 296, 3) := by decide +kernel
theorem dX12_read_4 : decode cX12_read 4 = .ok (.aload_n 0, 1) := by decide +kernel
theorem dX12_read_5 : decode cX12_read 5 = .ok (.iconst 0, 1) := by decide +kernel
theorem dX12_read_6 : decode cX12_read 6 = .ok (.putfield 231, 3) := by decide +kernel
theorem dX12_read_9 : decode cX12_read 9 = .ok (.aload_n 0, 1) := by decide +kernel
theorem dX12_read_10 : decode cX12_read 10 = .ok (.getfield 256, 3) := by decide +kernel
theorem dX12_read_13 : decode cX12_read 13 = .ok (.ifCond .lt 11, 3) := by decide +kernel
theorem dX12_read_16 : decode cX12_read 16 = .ok (.bipush (-20), 2) := by decide +kernel
theorem dX12_read_18 : decode cX12_read 18 = .ok (.aload_n 0, 1) := by decide +kernel
theorem dX12_read_19 : decode cX12_read 19 = .ok (.getfield 256, 3) := by decide +kernel
theorem dX12_read_22 : decode cX12_read 22 = .ok (.isub, 1) := by decide +kernel
theorem dX12_read_23 : decode cX12_read 23 = .ok (.ireturn, 1) := by decide +kernel
theorem dX12_read_24 : decode cX12_read 24 = .ok (.aload_n 0, 1) := by decide +kernel
theorem dX12_read_25 : decode cX12_read 25 = .ok (.getfield 234, 3) := by decide +kernel
theorem dX12_read_28 : decode cX12_read 28 = .ok (.sipush 600, 3) := by decide +kernel
theorem dX12_read_31 : decode cX12_read 31 = .ok (.if_icmp .gt 12, 3) := by decide +kernel
theorem dX12_read_34 : decode cX12_read 34 = .ok (.aload_n 0, 1) := by decide +kernel
theorem dX12_read_35 : decode cX12_read 35 = .ok (.getfield 290, 3) := by decide +kernel
theorem dX12_read_38 : decode cX12_read 38 = .ok (.bipush 20, 2) := by decide +kernel
theorem dX12_read_40 : decode cX12_read 40 = .ok (.if_icmp .ne 8, 3) := by decide +kernel
theorem dX12_read_43 : decode cX12_read 43 = .ok (.bipush (-4), 2) := by decide +kernel
theorem dX12_read_45 : decode cX12_read 45 = .ok (.goto 7, 3) := by decide +kernel
theorem dX12_read_48 : decode cX12_read 48 = .ok (.aload_n 0, 1) := by decide +kernel
theorem dX12_read_49 : decode cX12_read 49 = .ok (.invokevirtual 299, 3) := by decide +kernel
theorem dX12_read_52 : decode cX12_read 52 = .ok (.ireturn, 1) := by decide +kernel
theorem dX12_noSentence_0 : decode cX12_noSentence 0 = .ok (.iload_n 1, 1) := by decide +kernel
theorem dX12_noSentence_1 : decode cX12_noSentence 1 = .ok (.iconst 0, 1) := by decide +kernel
theorem dX12_noSentence_2 : decode cX12_noSentence 2 = .ok (.aload_n 0, 1) := by decide +kernel
theorem dX12_noSentence_3 : decode cX12_noSentence 3 = .ok (.getfield 290, 3) := by decide +kernel
theorem dX12_noSentence_6 : decode cX12_noSentence 6 = .ok (.iconst 1, 1) := by decide +kernel
theorem dX12_noSentence_7 : decode cX12_noSentence 7 = .ok (.isub, 1) := by decide +kernel
theorem dX12_noSentence_8 : decode cX12_noSentence 8 = .ok (.invokestatic 133, 3) := by decide +kernel
theorem dX12_noSentence_11 : decode cX12_noSentence 11 = .ok (.ifCond .ne 7, 3) := by decide +kernel
theorem dX12_noSentence_14 : decode cX12_noSentence 14 = .ok (.iconst 1, 1) := by decide +kernel
theorem dX12_noSentence_15 : decode cX12_noSentence 15 = .ok (.goto 4, 3) := by decide +kernel
theorem dX12_noSentence_18 : decode cX12_noSentence 18 = .ok (.iconst 0, 1) := by decide +kernel
theorem dX12_noSentence_19 : decode cX12_noSentence 19 = .ok (.ireturn, 1) := by decide +kernel
theorem dX12_depthOf_0 : decode cX12_depthOf 0 = .ok (.sipush 600, 3) := by decide +kernel
theorem dX12_depthOf_3 : decode cX12_depthOf 3 = .ok (.iload_n 1, 1) := by decide +kernel
theorem dX12_depthOf_4 : decode cX12_depthOf 4 = .ok (.imul, 1) := by decide +kernel
theorem dX12_depthOf_5 : decode cX12_depthOf 5 = .ok (.istore_n 2, 1) := by decide +kernel
theorem dX12_depthOf_6 : decode cX12_depthOf 6 = .ok (.iconst 0, 1) := by decide +kernel
theorem dX12_depthOf_7 : decode cX12_depthOf 7 = .ok (.istore_n 3, 1) := by decide +kernel
theorem dX12_depthOf_8 : decode cX12_depthOf 8 = .ok (.iconst 0, 1) := by decide +kernel
theorem dX12_depthOf_9 : decode cX12_depthOf 9 = .ok (.istore 4, 2) := by decide +kernel
theorem dX12_depthOf_11 : decode cX12_depthOf 11 = .ok (.iload 4, 2) := by decide +kernel
theorem dX12_depthOf_13 : decode cX12_depthOf 13 = .ok (.aload_n 0, 1) := by decide +kernel
theorem dX12_depthOf_14 : decode cX12_depthOf 14 = .ok (.getfield 37, 3) := by decide +kernel
theorem dX12_depthOf_17 : decode cX12_depthOf 17 = .ok (.iload_n 1, 1) := by decide +kernel
theorem dX12_depthOf_18 : decode cX12_depthOf 18 = .ok (.iaload, 1) := by decide +kernel
theorem dX12_depthOf_19 : decode cX12_depthOf 19 = .ok (.if_icmp .ge 91, 3) := by decide +kernel
theorem dX12_depthOf_22 : decode cX12_depthOf 22 = .ok (.iconst 0, 1) := by decide +kernel
theorem dX12_depthOf_23 : decode cX12_depthOf 23 = .ok (.istore 5, 2) := by decide +kernel
theorem dX12_depthOf_25 : decode cX12_depthOf 25 = .ok (.iconst 0, 1) := by decide +kernel
theorem dX12_depthOf_26 : decode cX12_depthOf 26 = .ok (.istore 6, 2) := by decide +kernel
theorem dX12_depthOf_28 : decode cX12_depthOf 28 = .ok (.iload 6, 2) := by decide +kernel
theorem dX12_depthOf_30 : decode cX12_depthOf 30 = .ok (.iload 4, 2) := by decide +kernel
theorem dX12_depthOf_32 : decode cX12_depthOf 32 = .ok (.if_icmp .gt 59, 3) := by decide +kernel
theorem dX12_depthOf_35 : decode cX12_depthOf 35 = .ok (.iload 5, 2) := by decide +kernel
theorem dX12_depthOf_37 : decode cX12_depthOf 37 = .ok (.aload_n 0, 1) := by decide +kernel
theorem dX12_depthOf_38 : decode cX12_depthOf 38 = .ok (.getfield 40, 3) := by decide +kernel
theorem dX12_depthOf_41 : decode cX12_depthOf 41 = .ok (.iload_n 2, 1) := by decide +kernel
theorem dX12_depthOf_42 : decode cX12_depthOf 42 = .ok (.iload 6, 2) := by decide +kernel
theorem dX12_depthOf_44 : decode cX12_depthOf 44 = .ok (.iadd, 1) := by decide +kernel
theorem dX12_depthOf_45 : decode cX12_depthOf 45 = .ok (.baload, 1) := by decide +kernel
theorem dX12_depthOf_46 : decode cX12_depthOf 46 = .ok (.iconst 2, 1) := by decide +kernel
theorem dX12_depthOf_47 : decode cX12_depthOf 47 = .ok (.if_icmp .eq 16, 3) := by decide +kernel
theorem dX12_depthOf_50 : decode cX12_depthOf 50 = .ok (.aload_n 0, 1) := by decide +kernel
theorem dX12_depthOf_51 : decode cX12_depthOf 51 = .ok (.getfield 40, 3) := by decide +kernel
theorem dX12_depthOf_54 : decode cX12_depthOf 54 = .ok (.iload_n 2, 1) := by decide +kernel
theorem dX12_depthOf_55 : decode cX12_depthOf 55 = .ok (.iload 6, 2) := by decide +kernel
theorem dX12_depthOf_57 : decode cX12_depthOf 57 = .ok (.iadd, 1) := by decide +kernel
theorem dX12_depthOf_58 : decode cX12_depthOf 58 = .ok (.baload, 1) := by decide +kernel
theorem dX12_depthOf_59 : decode cX12_depthOf 59 = .ok (.iconst 3, 1) := by decide +kernel
theorem dX12_depthOf_60 : decode cX12_depthOf 60 = .ok (.if_icmp .ne 21, 3) := by decide +kernel
theorem dX12_depthOf_63 : decode cX12_depthOf 63 = .ok (.aload_n 0, 1) := by decide +kernel
theorem dX12_depthOf_64 : decode cX12_depthOf 64 = .ok (.getfield 50, 3) := by decide +kernel
theorem dX12_depthOf_67 : decode cX12_depthOf 67 = .ok (.iload_n 2, 1) := by decide +kernel
theorem dX12_depthOf_68 : decode cX12_depthOf 68 = .ok (.iload 6, 2) := by decide +kernel
theorem dX12_depthOf_70 : decode cX12_depthOf 70 = .ok (.iadd, 1) := by decide +kernel
theorem dX12_depthOf_71 : decode cX12_depthOf 71 = .ok (.iaload, 1) := by decide +kernel
theorem dX12_depthOf_72 : decode cX12_depthOf 72 = .ok (.iload 4, 2) := by decide +kernel
theorem dX12_depthOf_74 : decode cX12_depthOf 74 = .ok (.if_icmp .le 7, 3) := by decide +kernel
theorem dX12_depthOf_77 : decode cX12_depthOf 77 = .ok (.iconst 1, 1) := by decide +kernel
theorem dX12_depthOf_78 : decode cX12_depthOf 78 = .ok (.goto 4, 3) := by decide +kernel
theorem dX12_depthOf_81 : decode cX12_depthOf 81 = .ok (.iconst 0, 1) := by decide +kernel
theorem dX12_depthOf_82 : decode cX12_depthOf 82 = .ok (.iadd, 1) := by decide +kernel
theorem dX12_depthOf_83 : decode cX12_depthOf 83 = .ok (.istore 5, 2) := by decide +kernel
theorem dX12_depthOf_85 : decode cX12_depthOf 85 = .ok (.iinc 6 1, 3) := by decide +kernel
theorem dX12_depthOf_88 : decode cX12_depthOf 88 = .ok (.goto (-60), 3) := by decide +kernel
theorem dX12_depthOf_91 : decode cX12_depthOf 91 = .ok (.iload 5, 2) := by decide +kernel
theorem dX12_depthOf_93 : decode cX12_depthOf 93 = .ok (.iload_n 3, 1) := by decide +kernel
theorem dX12_depthOf_94 : decode cX12_depthOf 94 = .ok (.if_icmp .le 8, 3) := by decide +kernel
theorem dX12_depthOf_97 : decode cX12_depthOf 97 = .ok (.iload 5, 2) := by decide +kernel
theorem dX12_depthOf_99 : decode cX12_depthOf 99 = .ok (.goto 4, 3) := by decide +kernel
theorem dX12_depthOf_102 : decode cX12_depthOf 102 = .ok (.iload_n 3, 1) := by decide +kernel
theorem dX12_depthOf_103 : decode cX12_depthOf 103 = .ok (.istore_n 3, 1) := by decide +kernel
theorem dX12_depthOf_104 : decode cX12_depthOf 104 = .ok (.iinc 4 1, 3) := by decide +kernel
theorem dX12_depthOf_107 : decode cX12_depthOf 107 = .ok (.goto (-96), 3) := by decide +kernel
theorem dX12_depthOf_110 : decode cX12_depthOf 110 = .ok (.iload_n 3, 1) := by decide +kernel
theorem dX12_depthOf_111 : decode cX12_depthOf 111 = .ok (.ireturn, 1) := by decide +kernel
theorem dX12_write_0 : decode cX12_write 0 = .ok (.aload_n 0, 1) := by decide +kernel
theorem dX12_write_1 : decode cX12_write 1 = .ok (.getfield 86, 3) := by decide +kernel
theorem dX12_write_4 : decode cX12_write 4 = .ok (.aload_n 0, 1) := by decide +kernel
theorem dX12_write_5 : decode cX12_write 5 = .ok (.getfield 302, 3) := by decide +kernel
theorem dX12_write_8 : decode cX12_write 8 = .ok (.iload_n 1, 1) := by decide +kernel
theorem dX12_write_9 : decode cX12_write 9 = .ok (.i2b, 1) := by decide +kernel
theorem dX12_write_10 : decode cX12_write 10 = .ok (.bastore, 1) := by decide +kernel
theorem dX12_write_11 : decode cX12_write 11 = .ok (.aload_n 0, 1) := by decide +kernel
theorem dX12_write_12 : decode cX12_write 12 = .ok (.dup, 1) := by decide +kernel
theorem dX12_write_13 : decode cX12_write 13 = .ok (.getfield 302, 3) := by decide +kernel
theorem dX12_write_16 : decode cX12_write 16 = .ok (.iconst 1, 1) := by decide +kernel
theorem dX12_write_17 : decode cX12_write 17 = .ok (.iadd, 1) := by decide +kernel
theorem dX12_write_18 : decode cX12_write 18 = .ok (.putfield 302, 3) := by decide +kernel
theorem dX12_write_21 : decode cX12_write 21 = .ok (.return_, 1) := by decide +kernel
theorem dX12_writeAtom_0 : decode cX12_writeAtom 0 = .ok (.aload_n 0, 1) := by decide +kernel
theorem dX12_writeAtom_1 : decode cX12_writeAtom 1 = .ok (.getfield 40, 3) := by decide +kernel
theorem dX12_writeAtom_4 : decode cX12_writeAtom 4 = .ok (.iload_n 1, 1) := by decide +kernel
theorem dX12_writeAtom_5 : decode cX12_writeAtom 5 = .ok (.baload, 1) := by decide +kernel
theorem dX12_writeAtom_6 : decode cX12_writeAtom 6 = .ok (.istore_n 2, 1) := by decide +kernel
theorem dX12_writeAtom_7 : decode cX12_writeAtom 7 = .ok (.aload_n 0, 1) := by decide +kernel
theorem dX12_writeAtom_8 : decode cX12_writeAtom 8 = .ok (.iload_n 2, 1) := by decide +kernel
theorem dX12_writeAtom_9 : decode cX12_writeAtom 9 = .ok (.bipush 6, 2) := by decide +kernel
theorem dX12_writeAtom_11 : decode cX12_writeAtom 11 = .ok (.if_icmp .ne 8, 3) := by decide +kernel
theorem dX12_writeAtom_14 : decode cX12_writeAtom 14 = .ok (.bipush 65, 2) := by decide +kernel
theorem dX12_writeAtom_16 : decode cX12_writeAtom 16 = .ok (.goto 49, 3) := by decide +kernel
theorem dX12_writeAtom_19 : decode cX12_writeAtom 19 = .ok (.iload_n 2, 1) := by decide +kernel
theorem dX12_writeAtom_20 : decode cX12_writeAtom 20 = .ok (.bipush 7, 2) := by decide +kernel
theorem dX12_writeAtom_22 : decode cX12_writeAtom 22 = .ok (.if_icmp .ne 8, 3) := by decide +kernel
theorem dX12_writeAtom_25 : decode cX12_writeAtom 25 = .ok (.bipush 66, 2) := by decide +kernel
theorem dX12_writeAtom_27 : decode cX12_writeAtom 27 = .ok (.goto 38, 3) := by decide +kernel
theorem dX12_writeAtom_30 : decode cX12_writeAtom 30 = .ok (.iload_n 2, 1) := by decide +kernel
theorem dX12_writeAtom_31 : decode cX12_writeAtom 31 = .ok (.bipush 8, 2) := by decide +kernel
theorem dX12_writeAtom_33 : decode cX12_writeAtom 33 = .ok (.if_icmp .ne 8, 3) := by decide +kernel
theorem dX12_writeAtom_36 : decode cX12_writeAtom 36 = .ok (.bipush 69, 2) := by decide +kernel
theorem dX12_writeAtom_38 : decode cX12_writeAtom 38 = .ok (.goto 27, 3) := by decide +kernel
theorem dX12_writeAtom_41 : decode cX12_writeAtom 41 = .ok (.iload_n 2, 1) := by decide +kernel
theorem dX12_writeAtom_42 : decode cX12_writeAtom 42 = .ok (.bipush 9, 2) := by decide +kernel
theorem dX12_writeAtom_44 : decode cX12_writeAtom 44 = .ok (.if_icmp .ne 8, 3) := by decide +kernel
theorem dX12_writeAtom_47 : decode cX12_writeAtom 47 = .ok (.bipush 61, 2) := by decide +kernel
theorem dX12_writeAtom_49 : decode cX12_writeAtom 49 = .ok (.goto 16, 3) := by decide +kernel
theorem dX12_writeAtom_52 : decode cX12_writeAtom 52 = .ok (.iload_n 2, 1) := by decide +kernel
theorem dX12_writeAtom_53 : decode cX12_writeAtom 53 = .ok (.bipush 10, 2) := by decide +kernel
theorem dX12_writeAtom_55 : decode cX12_writeAtom 55 = .ok (.if_icmp .ne 8, 3) := by decide +kernel
theorem dX12_writeAtom_58 : decode cX12_writeAtom 58 = .ok (.bipush 84, 2) := by decide +kernel
theorem dX12_writeAtom_60 : decode cX12_writeAtom 60 = .ok (.goto 5, 3) := by decide +kernel
theorem dX12_writeAtom_63 : decode cX12_writeAtom 63 = .ok (.bipush 70, 2) := by decide +kernel
theorem dX12_writeAtom_65 : decode cX12_writeAtom 65 = .ok (.invokevirtual 305, 3) := by decide +kernel
theorem dX12_writeAtom_68 : decode cX12_writeAtom 68 = .ok (.iload_n 2, 1) := by decide +kernel
theorem dX12_writeAtom_69 : decode cX12_writeAtom 69 = .ok (.bipush 10, 2) := by decide +kernel
theorem dX12_writeAtom_71 : decode cX12_writeAtom 71 = .ok (.if_icmp .ge 16, 3) := by decide +kernel
theorem dX12_writeAtom_74 : decode cX12_writeAtom 74 = .ok (.aload_n 0, 1) := by decide +kernel
theorem dX12_writeAtom_75 : decode cX12_writeAtom 75 = .ok (.bipush 97, 2) := by decide +kernel
theorem dX12_writeAtom_77 : decode cX12_writeAtom 77 = .ok (.aload_n 0, 1) := by decide +kernel
theorem dX12_writeAtom_78 : decode cX12_writeAtom 78 = .ok (.getfield 44, 3) := by decide +kernel
theorem dX12_writeAtom_81 : decode cX12_writeAtom 81 = .ok (.iload_n 1, 1) := by decide +kernel
theorem dX12_writeAtom_82 : decode cX12_writeAtom 82 = .ok (.iaload, 1) := by decide +kernel
theorem dX12_writeAtom_83 : decode cX12_writeAtom 83 = .ok (.iadd, 1) := by decide +kernel
theorem dX12_writeAtom_84 : decode cX12_writeAtom 84 = .ok (.invokevirtual 305, 3) := by decide +kernel
theorem dX12_writeAtom_87 : decode cX12_writeAtom 87 = .ok (.iload_n 2, 1) := by decide +kernel
theorem dX12_writeAtom_88 : decode cX12_writeAtom 88 = .ok (.bipush 8, 2) := by decide +kernel
theorem dX12_writeAtom_90 : decode cX12_writeAtom 90 = .ok (.if_icmp .eq 9, 3) := by decide +kernel
theorem dX12_writeAtom_93 : decode cX12_writeAtom 93 = .ok (.iload_n 2, 1) := by decide +kernel
theorem dX12_writeAtom_94 : decode cX12_writeAtom 94 = .ok (.bipush 9, 2) := by decide +kernel
theorem dX12_writeAtom_96 : decode cX12_writeAtom 96 = .ok (.if_icmp .ne 16, 3) := by decide +kernel
theorem dX12_writeAtom_99 : decode cX12_writeAtom 99 = .ok (.aload_n 0, 1) := by decide +kernel
theorem dX12_writeAtom_100 : decode cX12_writeAtom 100 = .ok (.bipush 97, 2) := by decide +kernel
theorem dX12_writeAtom_102 : decode cX12_writeAtom 102 = .ok (.aload_n 0, 1) := by decide +kernel
theorem dX12_writeAtom_103 : decode cX12_writeAtom 103 = .ok (.getfield 47, 3) := by decide +kernel
theorem dX12_writeAtom_106 : decode cX12_writeAtom 106 = .ok (.iload_n 1, 1) := by decide +kernel
theorem dX12_writeAtom_107 : decode cX12_writeAtom 107 = .ok (.baload, 1) := by decide +kernel
theorem dX12_writeAtom_108 : decode cX12_writeAtom 108 = .ok (.iadd, 1) := by decide +kernel
theorem dX12_writeAtom_109 : decode cX12_writeAtom 109 = .ok (.invokevirtual 305, 3) := by decide +kernel
theorem dX12_writeAtom_112 : decode cX12_writeAtom 112 = .ok (.return_, 1) := by decide +kernel
theorem dX12_writeBehind_0 : decode cX12_writeBehind 0 = .ok (.sipush 600, 3) := by decide +kernel
theorem dX12_writeBehind_3 : decode cX12_writeBehind 3 = .ok (.iload_n 1, 1) := by decide +kernel
theorem dX12_writeBehind_4 : decode cX12_writeBehind 4 = .ok (.imul, 1) := by decide +kernel
theorem dX12_writeBehind_5 : decode cX12_writeBehind 5 = .ok (.istore_n 3, 1) := by decide +kernel
theorem dX12_writeBehind_6 : decode cX12_writeBehind 6 = .ok (.aload_n 0, 1) := by decide +kernel
theorem dX12_writeBehind_7 : decode cX12_writeBehind 7 = .ok (.getfield 308, 3) := by decide +kernel
theorem dX12_writeBehind_10 : decode cX12_writeBehind 10 = .ok (.ifCond .le 56, 3) := by decide +kernel
theorem dX12_writeBehind_13 : decode cX12_writeBehind 13 = .ok (.aload_n 0, 1) := by decide +kernel
theorem dX12_writeBehind_14 : decode cX12_writeBehind 14 = .ok (.getfield 50, 3) := by decide +kernel
theorem dX12_writeBehind_17 : decode cX12_writeBehind 17 = .ok (.iload_n 3, 1) := by decide +kernel
theorem dX12_writeBehind_18 : decode cX12_writeBehind 18 = .ok (.aload_n 0, 1) := by decide +kernel
theorem dX12_writeBehind_19 : decode cX12_writeBehind 19 = .ok (.getfield 77, 3) := by decide +kernel
theorem dX12_writeBehind_22 : decode cX12_writeBehind 22 = .ok (.aload_n 0, 1) := by decide +kernel
theorem dX12_writeBehind_23 : decode cX12_writeBehind 23 = .ok (.getfield 308, 3) := by decide +kernel
theorem dX12_writeBehind_26 : decode cX12_writeBehind 26 = .ok (.iconst 1, 1) := by decide +kernel
theorem dX12_writeBehind_27 : decode cX12_writeBehind 27 = .ok (.isub, 1) := by decide +kernel
theorem dX12_writeBehind_28 : decode cX12_writeBehind 28 = .ok (.iaload, 1) := by decide +kernel
theorem dX12_writeBehind_29 : decode cX12_writeBehind 29 = .ok (.iadd, 1) := by decide +kernel
theorem dX12_writeBehind_30 : decode cX12_writeBehind 30 = .ok (.iaload, 1) := by decide +kernel
theorem dX12_writeBehind_31 : decode cX12_writeBehind 31 = .ok (.iload_n 2, 1) := by decide +kernel
theorem dX12_writeBehind_32 : decode cX12_writeBehind 32 = .ok (.if_icmp .ne 34, 3) := by decide +kernel
theorem dX12_writeBehind_35 : decode cX12_writeBehind 35 = .ok (.aload_n 0, 1) := by decide +kernel
theorem dX12_writeBehind_36 : decode cX12_writeBehind 36 = .ok (.dup, 1) := by decide +kernel
theorem dX12_writeBehind_37 : decode cX12_writeBehind 37 = .ok (.getfield 308, 3) := by decide +kernel
theorem dX12_writeBehind_40 : decode cX12_writeBehind 40 = .ok (.iconst 1, 1) := by decide +kernel
theorem dX12_writeBehind_41 : decode cX12_writeBehind 41 = .ok (.isub, 1) := by decide +kernel
theorem dX12_writeBehind_42 : decode cX12_writeBehind 42 = .ok (.putfield 308, 3) := by decide +kernel
theorem dX12_writeBehind_45 : decode cX12_writeBehind 45 = .ok (.aload_n 0, 1) := by decide +kernel
theorem dX12_writeBehind_46 : decode cX12_writeBehind 46 = .ok (.getfield 77, 3) := by decide +kernel
theorem dX12_writeBehind_49 : decode cX12_writeBehind 49 = .ok (.aload_n 0, 1) := by decide +kernel
theorem dX12_writeBehind_50 : decode cX12_writeBehind 50 = .ok (.getfield 308, 3) := by decide +kernel
theorem dX12_writeBehind_53 : decode cX12_writeBehind 53 = .ok (.iaload, 1) := by decide +kernel
theorem dX12_writeBehind_54 : decode cX12_writeBehind 54 = .ok (.ifCond .le (-48), 3) := by decide +kernel
theorem dX12_writeBehind_57 : decode cX12_writeBehind 57 = .ok (.aload_n 0, 1) := by decide +kernel
theorem dX12_writeBehind_58 : decode cX12_writeBehind 58 = .ok (.bipush 41, 2) := by decide +kernel
theorem dX12_writeBehind_60 : decode cX12_writeBehind 60 = .ok (.invokevirtual 305, 3) := by decide +kernel
theorem dX12_writeBehind_63 : decode cX12_writeBehind 63 = .ok (.goto (-57), 3) := by decide +kernel
theorem dX12_writeBehind_66 : decode cX12_writeBehind 66 = .ok (.aload_n 0, 1) := by decide +kernel
theorem dX12_writeBehind_67 : decode cX12_writeBehind 67 = .ok (.getfield 308, 3) := by decide +kernel
theorem dX12_writeBehind_70 : decode cX12_writeBehind 70 = .ok (.ifCond .le 70, 3) := by decide +kernel
theorem dX12_writeBehind_73 : decode cX12_writeBehind 73 = .ok (.aload_n 0, 1) := by decide +kernel
theorem dX12_writeBehind_74 : decode cX12_writeBehind 74 = .ok (.getfield 83, 3) := by decide +kernel
theorem dX12_writeBehind_77 : decode cX12_writeBehind 77 = .ok (.aload_n 0, 1) := by decide +kernel
theorem dX12_writeBehind_78 : decode cX12_writeBehind 78 = .ok (.getfield 308, 3) := by decide +kernel
theorem dX12_writeBehind_81 : decode cX12_writeBehind 81 = .ok (.iconst 1, 1) := by decide +kernel
theorem dX12_writeBehind_82 : decode cX12_writeBehind 82 = .ok (.isub, 1) := by decide +kernel
theorem dX12_writeBehind_83 : decode cX12_writeBehind 83 = .ok (.iaload, 1) := by decide +kernel
theorem dX12_writeBehind_84 : decode cX12_writeBehind 84 = .ok (.iload_n 2, 1) := by decide +kernel
theorem dX12_writeBehind_85 : decode cX12_writeBehind 85 = .ok (.if_icmp .ne 55, 3) := by decide +kernel
theorem dX12_writeBehind_88 : decode cX12_writeBehind 88 = .ok (.aload_n 0, 1) := by decide +kernel
theorem dX12_writeBehind_89 : decode cX12_writeBehind 89 = .ok (.aload_n 0, 1) := by decide +kernel
theorem dX12_writeBehind_90 : decode cX12_writeBehind 90 = .ok (.getfield 40, 3) := by decide +kernel
theorem dX12_writeBehind_93 : decode cX12_writeBehind 93 = .ok (.iload_n 3, 1) := by decide +kernel
theorem dX12_writeBehind_94 : decode cX12_writeBehind 94 = .ok (.aload_n 0, 1) := by decide +kernel
theorem dX12_writeBehind_95 : decode cX12_writeBehind 95 = .ok (.getfield 77, 3) := by decide +kernel
theorem dX12_writeBehind_98 : decode cX12_writeBehind 98 = .ok (.aload_n 0, 1) := by decide +kernel
theorem dX12_writeBehind_99 : decode cX12_writeBehind 99 = .ok (.getfield 308, 3) := by decide +kernel
theorem dX12_writeBehind_102 : decode cX12_writeBehind 102 = .ok (.iconst 1, 1) := by decide +kernel
theorem dX12_writeBehind_103 : decode cX12_writeBehind 103 = .ok (.isub, 1) := by decide +kernel
theorem dX12_writeBehind_104 : decode cX12_writeBehind 104 = .ok (.iaload, 1) := by decide +kernel
theorem dX12_writeBehind_105 : decode cX12_writeBehind 105 = .ok (.iadd, 1) := by decide +kernel
theorem dX12_writeBehind_106 : decode cX12_writeBehind 106 = .ok (.baload, 1) := by decide +kernel
theorem dX12_writeBehind_107 : decode cX12_writeBehind 107 = .ok (.iconst 4, 1) := by decide +kernel
theorem dX12_writeBehind_108 : decode cX12_writeBehind 108 = .ok (.if_icmp .ne 8, 3) := by decide +kernel
theorem dX12_writeBehind_111 : decode cX12_writeBehind 111 = .ok (.bipush 38, 2) := by decide +kernel
theorem dX12_writeBehind_113 : decode cX12_writeBehind 113 = .ok (.goto 5, 3) := by decide +kernel
theorem dX12_writeBehind_116 : decode cX12_writeBehind 116 = .ok (.bipush 124, 2) := by decide +kernel
theorem dX12_writeBehind_118 : decode cX12_writeBehind 118 = .ok (.invokevirtual 305, 3) := by decide +kernel
theorem dX12_writeBehind_121 : decode cX12_writeBehind 121 = .ok (.aload_n 0, 1) := by decide +kernel
theorem dX12_writeBehind_122 : decode cX12_writeBehind 122 = .ok (.getfield 83, 3) := by decide +kernel
theorem dX12_writeBehind_125 : decode cX12_writeBehind 125 = .ok (.aload_n 0, 1) := by decide +kernel
theorem dX12_writeBehind_126 : decode cX12_writeBehind 126 = .ok (.getfield 308, 3) := by decide +kernel
theorem dX12_writeBehind_129 : decode cX12_writeBehind 129 = .ok (.iconst 1, 1) := by decide +kernel
theorem dX12_writeBehind_130 : decode cX12_writeBehind 130 = .ok (.isub, 1) := by decide +kernel
theorem dX12_writeBehind_131 : decode cX12_writeBehind 131 = .ok (.aload_n 0, 1) := by decide +kernel
theorem dX12_writeBehind_132 : decode cX12_writeBehind 132 = .ok (.getfield 50, 3) := by decide +kernel
theorem dX12_writeBehind_135 : decode cX12_writeBehind 135 = .ok (.iload_n 3, 1) := by decide +kernel
theorem dX12_writeBehind_136 : decode cX12_writeBehind 136 = .ok (.iload_n 2, 1) := by decide +kernel
theorem dX12_writeBehind_137 : decode cX12_writeBehind 137 = .ok (.iadd, 1) := by decide +kernel
theorem dX12_writeBehind_138 : decode cX12_writeBehind 138 = .ok (.iaload, 1) := by decide +kernel
theorem dX12_writeBehind_139 : decode cX12_writeBehind 139 = .ok (.iastore, 1) := by decide +kernel
theorem dX12_writeBehind_140 : decode cX12_writeBehind 140 = .ok (.return_, 1) := by decide +kernel
theorem dX12_writeAll_0 : decode cX12_writeAll 0 = .ok (.sipush 600, 3) := by decide +kernel
theorem dX12_writeAll_3 : decode cX12_writeAll 3 = .ok (.iload_n 1, 1) := by decide +kernel
theorem dX12_writeAll_4 : decode cX12_writeAll 4 = .ok (.imul, 1) := by decide +kernel
theorem dX12_writeAll_5 : decode cX12_writeAll 5 = .ok (.istore_n 2, 1) := by decide +kernel
theorem dX12_writeAll_6 : decode cX12_writeAll 6 = .ok (.aload_n 0, 1) := by decide +kernel
theorem dX12_writeAll_7 : decode cX12_writeAll 7 = .ok (.iconst 0, 1) := by decide +kernel
theorem dX12_writeAll_8 : decode cX12_writeAll 8 = .ok (.putfield 302, 3) := by decide +kernel
theorem dX12_writeAll_11 : decode cX12_writeAll 11 = .ok (.aload_n 0, 1) := by decide +kernel
theorem dX12_writeAll_12 : decode cX12_writeAll 12 = .ok (.iconst 0, 1) := by decide +kernel
theorem dX12_writeAll_13 : decode cX12_writeAll 13 = .ok (.putfield 308, 3) := by decide +kernel
theorem dX12_writeAll_16 : decode cX12_writeAll 16 = .ok (.iconst 0, 1) := by decide +kernel
theorem dX12_writeAll_17 : decode cX12_writeAll 17 = .ok (.istore_n 3, 1) := by decide +kernel
theorem dX12_writeAll_18 : decode cX12_writeAll 18 = .ok (.iload_n 3, 1) := by decide +kernel
theorem dX12_writeAll_19 : decode cX12_writeAll 19 = .ok (.aload_n 0, 1) := by decide +kernel
theorem dX12_writeAll_20 : decode cX12_writeAll 20 = .ok (.getfield 37, 3) := by decide +kernel
theorem dX12_writeAll_23 : decode cX12_writeAll 23 = .ok (.iload_n 1, 1) := by decide +kernel
theorem dX12_writeAll_24 : decode cX12_writeAll 24 = .ok (.iaload, 1) := by decide +kernel
theorem dX12_writeAll_25 : decode cX12_writeAll 25 = .ok (.if_icmp .ge 172, 3) := by decide +kernel
theorem dX12_writeAll_28 : decode cX12_writeAll 28 = .ok (.iload_n 2, 1) := by decide +kernel
theorem dX12_writeAll_29 : decode cX12_writeAll 29 = .ok (.iload_n 3, 1) := by decide +kernel
theorem dX12_writeAll_30 : decode cX12_writeAll 30 = .ok (.iadd, 1) := by decide +kernel
theorem dX12_writeAll_31 : decode cX12_writeAll 31 = .ok (.istore 4, 2) := by decide +kernel
theorem dX12_writeAll_33 : decode cX12_writeAll 33 = .ok (.aload_n 0, 1) := by decide +kernel
theorem dX12_writeAll_34 : decode cX12_writeAll 34 = .ok (.getfield 40, 3) := by decide +kernel
theorem dX12_writeAll_37 : decode cX12_writeAll 37 = .ok (.iload 4, 2) := by decide +kernel
theorem dX12_writeAll_39 : decode cX12_writeAll 39 = .ok (.baload, 1) := by decide +kernel
theorem dX12_writeAll_40 : decode cX12_writeAll 40 = .ok (.iconst 4, 1) := by decide +kernel
theorem dX12_writeAll_41 : decode cX12_writeAll 41 = .ok (.if_icmp .eq 14, 3) := by decide +kernel
theorem dX12_writeAll_44 : decode cX12_writeAll 44 = .ok (.aload_n 0, 1) := by decide +kernel
theorem dX12_writeAll_45 : decode cX12_writeAll 45 = .ok (.getfield 40, 3) := by decide +kernel
theorem dX12_writeAll_48 : decode cX12_writeAll 48 = .ok (.iload 4, 2) := by decide +kernel
theorem dX12_writeAll_50 : decode cX12_writeAll 50 = .ok (.baload, 1) := by decide +kernel
theorem dX12_writeAll_51 : decode cX12_writeAll 51 = .ok (.iconst 5, 1) := by decide +kernel
theorem dX12_writeAll_52 : decode cX12_writeAll 52 = .ok (.if_icmp .ne 55, 3) := by decide +kernel
theorem dX12_writeAll_55 : decode cX12_writeAll 55 = .ok (.iload_n 3, 1) := by decide +kernel
theorem dX12_writeAll_56 : decode cX12_writeAll 56 = .ok (.ifCond .le 9, 3) := by decide +kernel
theorem dX12_writeAll_59 : decode cX12_writeAll 59 = .ok (.aload_n 0, 1) := by decide +kernel
theorem dX12_writeAll_60 : decode cX12_writeAll 60 = .ok (.bipush 40, 2) := by decide +kernel
theorem dX12_writeAll_62 : decode cX12_writeAll 62 = .ok (.invokevirtual 305, 3) := by decide +kernel
theorem dX12_writeAll_65 : decode cX12_writeAll 65 = .ok (.aload_n 0, 1) := by decide +kernel
theorem dX12_writeAll_66 : decode cX12_writeAll 66 = .ok (.getfield 77, 3) := by decide +kernel
theorem dX12_writeAll_69 : decode cX12_writeAll 69 = .ok (.aload_n 0, 1) := by decide +kernel
theorem dX12_writeAll_70 : decode cX12_writeAll 70 = .ok (.getfield 308, 3) := by decide +kernel
theorem dX12_writeAll_73 : decode cX12_writeAll 73 = .ok (.iload_n 3, 1) := by decide +kernel
theorem dX12_writeAll_74 : decode cX12_writeAll 74 = .ok (.iastore, 1) := by decide +kernel
theorem dX12_writeAll_75 : decode cX12_writeAll 75 = .ok (.aload_n 0, 1) := by decide +kernel
theorem dX12_writeAll_76 : decode cX12_writeAll 76 = .ok (.getfield 83, 3) := by decide +kernel
theorem dX12_writeAll_79 : decode cX12_writeAll 79 = .ok (.aload_n 0, 1) := by decide +kernel
theorem dX12_writeAll_80 : decode cX12_writeAll 80 = .ok (.getfield 308, 3) := by decide +kernel
theorem dX12_writeAll_83 : decode cX12_writeAll 83 = .ok (.aload_n 0, 1) := by decide +kernel
theorem dX12_writeAll_84 : decode cX12_writeAll 84 = .ok (.getfield 50, 3) := by decide +kernel
theorem dX12_writeAll_87 : decode cX12_writeAll 87 = .ok (.iload_n 2, 1) := by decide +kernel
theorem dX12_writeAll_88 : decode cX12_writeAll 88 = .ok (.iload_n 3, 1) := by decide +kernel
theorem dX12_writeAll_89 : decode cX12_writeAll 89 = .ok (.iadd, 1) := by decide +kernel
theorem dX12_writeAll_90 : decode cX12_writeAll 90 = .ok (.iconst 1, 1) := by decide +kernel
theorem dX12_writeAll_91 : decode cX12_writeAll 91 = .ok (.iadd, 1) := by decide +kernel
theorem dX12_writeAll_92 : decode cX12_writeAll 92 = .ok (.iaload, 1) := by decide +kernel
theorem dX12_writeAll_93 : decode cX12_writeAll 93 = .ok (.iastore, 1) := by decide +kernel
theorem dX12_writeAll_94 : decode cX12_writeAll 94 = .ok (.aload_n 0, 1) := by decide +kernel
theorem dX12_writeAll_95 : decode cX12_writeAll 95 = .ok (.dup, 1) := by decide +kernel
theorem dX12_writeAll_96 : decode cX12_writeAll 96 = .ok (.getfield 308, 3) := by decide +kernel
theorem dX12_writeAll_99 : decode cX12_writeAll 99 = .ok (.iconst 1, 1) := by decide +kernel
theorem dX12_writeAll_100 : decode cX12_writeAll 100 = .ok (.iadd, 1) := by decide +kernel
theorem dX12_writeAll_101 : decode cX12_writeAll 101 = .ok (.putfield 308, 3) := by decide +kernel
theorem dX12_writeAll_104 : decode cX12_writeAll 104 = .ok (.goto 87, 3) := by decide +kernel
theorem dX12_writeAll_107 : decode cX12_writeAll 107 = .ok (.aload_n 0, 1) := by decide +kernel
theorem dX12_writeAll_108 : decode cX12_writeAll 108 = .ok (.getfield 40, 3) := by decide +kernel
theorem dX12_writeAll_111 : decode cX12_writeAll 111 = .ok (.iload 4, 2) := by decide +kernel
theorem dX12_writeAll_113 : decode cX12_writeAll 113 = .ok (.baload, 1) := by decide +kernel
theorem dX12_writeAll_114 : decode cX12_writeAll 114 = .ok (.iconst 1, 1) := by decide +kernel
theorem dX12_writeAll_115 : decode cX12_writeAll 115 = .ok (.if_icmp .ne 12, 3) := by decide +kernel
theorem dX12_writeAll_118 : decode cX12_writeAll 118 = .ok (.aload_n 0, 1) := by decide +kernel
theorem dX12_writeAll_119 : decode cX12_writeAll 119 = .ok (.bipush 45, 2) := by decide +kernel
theorem dX12_writeAll_121 : decode cX12_writeAll 121 = .ok (.invokevirtual 305, 3) := by decide +kernel
theorem dX12_writeAll_124 : decode cX12_writeAll 124 = .ok (.goto 67, 3) := by decide +kernel
theorem dX12_writeAll_127 : decode cX12_writeAll 127 = .ok (.aload_n 0, 1) := by decide +kernel
theorem dX12_writeAll_128 : decode cX12_writeAll 128 = .ok (.getfield 40, 3) := by decide +kernel
theorem dX12_writeAll_131 : decode cX12_writeAll 131 = .ok (.iload 4, 2) := by decide +kernel
theorem dX12_writeAll_133 : decode cX12_writeAll 133 = .ok (.baload, 1) := by decide +kernel
theorem dX12_writeAll_134 : decode cX12_writeAll 134 = .ok (.iconst 4, 1) := by decide +kernel
theorem dX12_writeAll_135 : decode cX12_writeAll 135 = .ok (.if_icmp .ge 42, 3) := by decide +kernel
theorem dX12_writeAll_138 : decode cX12_writeAll 138 = .ok (.aload_n 0, 1) := by decide +kernel
theorem dX12_writeAll_139 : decode cX12_writeAll 139 = .ok (.aload_n 0, 1) := by decide +kernel
theorem dX12_writeAll_140 : decode cX12_writeAll 140 = .ok (.getfield 40, 3) := by decide +kernel
theorem dX12_writeAll_143 : decode cX12_writeAll 143 = .ok (.iload 4, 2) := by decide +kernel
theorem dX12_writeAll_145 : decode cX12_writeAll 145 = .ok (.baload, 1) := by decide +kernel
theorem dX12_writeAll_146 : decode cX12_writeAll 146 = .ok (.iconst 2, 1) := by decide +kernel
theorem dX12_writeAll_147 : decode cX12_writeAll 147 = .ok (.if_icmp .ne 8, 3) := by decide +kernel
theorem dX12_writeAll_150 : decode cX12_writeAll 150 = .ok (.bipush 64, 2) := by decide +kernel
theorem dX12_writeAll_152 : decode cX12_writeAll 152 = .ok (.goto 5, 3) := by decide +kernel
theorem dX12_writeAll_155 : decode cX12_writeAll 155 = .ok (.bipush 63, 2) := by decide +kernel
theorem dX12_writeAll_157 : decode cX12_writeAll 157 = .ok (.invokevirtual 305, 3) := by decide +kernel
theorem dX12_writeAll_160 : decode cX12_writeAll 160 = .ok (.aload_n 0, 1) := by decide +kernel
theorem dX12_writeAll_161 : decode cX12_writeAll 161 = .ok (.bipush 97, 2) := by decide +kernel
theorem dX12_writeAll_163 : decode cX12_writeAll 163 = .ok (.aload_n 0, 1) := by decide +kernel
theorem dX12_writeAll_164 : decode cX12_writeAll 164 = .ok (.getfield 44, 3) := by decide +kernel
theorem dX12_writeAll_167 : decode cX12_writeAll 167 = .ok (.iload 4, 2) := by decide +kernel
theorem dX12_writeAll_169 : decode cX12_writeAll 169 = .ok (.iaload, 1) := by decide +kernel
theorem dX12_writeAll_170 : decode cX12_writeAll 170 = .ok (.iadd, 1) := by decide +kernel
theorem dX12_writeAll_171 : decode cX12_writeAll 171 = .ok (.invokevirtual 305, 3) := by decide +kernel
theorem dX12_writeAll_174 : decode cX12_writeAll 174 = .ok (.goto 17, 3) := by decide +kernel
theorem dX12_writeAll_177 : decode cX12_writeAll 177 = .ok (.aload_n 0, 1) := by decide +kernel
theorem dX12_writeAll_178 : decode cX12_writeAll 178 = .ok (.iload 4, 2) := by decide +kernel
theorem dX12_writeAll_180 : decode cX12_writeAll 180 = .ok (.invokevirtual 311, 3) := by decide +kernel
theorem dX12_writeAll_183 : decode cX12_writeAll 183 = .ok (.aload_n 0, 1) := by decide +kernel
theorem dX12_writeAll_184 : decode cX12_writeAll 184 = .ok (.iload_n 1, 1) := by decide +kernel
theorem dX12_writeAll_185 : decode cX12_writeAll 185 = .ok (.iload_n 3, 1) := by decide +kernel
theorem dX12_writeAll_186 : decode cX12_writeAll 186 = .ok (.iconst 1, 1) := by decide +kernel
theorem dX12_writeAll_187 : decode cX12_writeAll 187 = .ok (.iadd, 1) := by decide +kernel
theorem dX12_writeAll_188 : decode cX12_writeAll 188 = .ok (.invokevirtual 314, 3) := by decide +kernel
theorem dX12_writeAll_191 : decode cX12_writeAll 191 = .ok (.iinc 3 1, 3) := by decide +kernel
theorem dX12_writeAll_194 : decode cX12_writeAll 194 = .ok (.goto (-176), 3) := by decide +kernel
theorem dX12_writeAll_197 : decode cX12_writeAll 197 = .ok (.return_, 1) := by decide +kernel
theorem dX12_sentence_0 : decode cX12_sentence 0 = .ok (.aload_n 0, 1) := by decide +kernel
theorem dX12_sentence_1 : decode cX12_sentence 1 = .ok (.iload_n 1, 1) := by decide +kernel
theorem dX12_sentence_2 : decode cX12_sentence 2 = .ok (.invokevirtual 317, 3) := by decide +kernel
theorem dX12_sentence_5 : decode cX12_sentence 5 = .ok (.ifCond .eq 5, 3) := by decide +kernel
theorem dX12_sentence_8 : decode cX12_sentence 8 = .ok (.iconst (-1), 1) := by decide +kernel
theorem dX12_sentence_9 : decode cX12_sentence 9 = .ok (.ireturn, 1) := by decide +kernel
theorem dX12_sentence_10 : decode cX12_sentence 10 = .ok (.iload_n 2, 1) := by decide +kernel
theorem dX12_sentence_11 : decode cX12_sentence 11 = .ok (.iconst 2, 1) := by decide +kernel
theorem dX12_sentence_12 : decode cX12_sentence 12 = .ok (.if_icmp .ne 13, 3) := by decide +kernel
theorem dX12_sentence_15 : decode cX12_sentence 15 = .ok (.aload_n 0, 1) := by decide +kernel
theorem dX12_sentence_16 : decode cX12_sentence 16 = .ok (.iload_n 1, 1) := by decide +kernel
theorem dX12_sentence_17 : decode cX12_sentence 17 = .ok (.invokevirtual 320, 3) := by decide +kernel
theorem dX12_sentence_20 : decode cX12_sentence 20 = .ok (.aload_n 0, 1) := by decide +kernel
theorem dX12_sentence_21 : decode cX12_sentence 21 = .ok (.getfield 302, 3) := by decide +kernel
theorem dX12_sentence_24 : decode cX12_sentence 24 = .ok (.ireturn, 1) := by decide +kernel
theorem dX12_sentence_25 : decode cX12_sentence 25 = .ok (.iload_n 2, 1) := by decide +kernel
theorem dX12_sentence_26 : decode cX12_sentence 26 = .ok (.ifCond .ne 11, 3) := by decide +kernel
theorem dX12_sentence_29 : decode cX12_sentence 29 = .ok (.aload_n 0, 1) := by decide +kernel
theorem dX12_sentence_30 : decode cX12_sentence 30 = .ok (.iload_n 1, 1) := by decide +kernel
theorem dX12_sentence_31 : decode cX12_sentence 31 = .ok (.invokevirtual 323, 3) := by decide +kernel
theorem dX12_sentence_34 : decode cX12_sentence 34 = .ok (.goto 19, 3) := by decide +kernel
theorem dX12_sentence_37 : decode cX12_sentence 37 = .ok (.iload_n 2, 1) := by decide +kernel
theorem dX12_sentence_38 : decode cX12_sentence 38 = .ok (.iconst 1, 1) := by decide +kernel
theorem dX12_sentence_39 : decode cX12_sentence 39 = .ok (.if_icmp .ne 12, 3) := by decide +kernel
theorem dX12_sentence_42 : decode cX12_sentence 42 = .ok (.aload_n 0, 1) := by decide +kernel
theorem dX12_sentence_43 : decode cX12_sentence 43 = .ok (.getfield 37, 3) := by decide +kernel
theorem dX12_sentence_46 : decode cX12_sentence 46 = .ok (.iload_n 1, 1) := by decide +kernel
theorem dX12_sentence_47 : decode cX12_sentence 47 = .ok (.iaload, 1) := by decide +kernel
theorem dX12_sentence_48 : decode cX12_sentence 48 = .ok (.goto 5, 3) := by decide +kernel
theorem dX12_sentence_51 : decode cX12_sentence 51 = .ok (.bipush (-2), 2) := by decide +kernel
theorem dX12_sentence_53 : decode cX12_sentence 53 = .ok (.ireturn, 1) := by decide +kernel
theorem dX12_written_0 : decode cX12_written 0 = .ok (.aload_n 0, 1) := by decide +kernel
theorem dX12_written_1 : decode cX12_written 1 = .ok (.iload_n 1, 1) := by decide +kernel
theorem dX12_written_2 : decode cX12_written 2 = .ok (.invokevirtual 317, 3) := by decide +kernel
theorem dX12_written_5 : decode cX12_written 5 = .ok (.ifCond .eq 5, 3) := by decide +kernel
theorem dX12_written_8 : decode cX12_written 8 = .ok (.iconst (-1), 1) := by decide +kernel
theorem dX12_written_9 : decode cX12_written 9 = .ok (.ireturn, 1) := by decide +kernel
theorem dX12_written_10 : decode cX12_written 10 = .ok (.aload_n 0, 1) := by decide +kernel
theorem dX12_written_11 : decode cX12_written 11 = .ok (.iload_n 1, 1) := by decide +kernel
theorem dX12_written_12 : decode cX12_written 12 = .ok (.invokevirtual 320, 3) := by decide +kernel
theorem dX12_written_15 : decode cX12_written 15 = .ok (.iload_n 2, 1) := by decide +kernel
theorem dX12_written_16 : decode cX12_written 16 = .ok (.iconst 0, 1) := by decide +kernel
theorem dX12_written_17 : decode cX12_written 17 = .ok (.aload_n 0, 1) := by decide +kernel
theorem dX12_written_18 : decode cX12_written 18 = .ok (.getfield 302, 3) := by decide +kernel
theorem dX12_written_21 : decode cX12_written 21 = .ok (.iconst 1, 1) := by decide +kernel
theorem dX12_written_22 : decode cX12_written 22 = .ok (.isub, 1) := by decide +kernel
theorem dX12_written_23 : decode cX12_written 23 = .ok (.invokestatic 133, 3) := by decide +kernel
theorem dX12_written_26 : decode cX12_written 26 = .ok (.ifCond .eq 12, 3) := by decide +kernel
theorem dX12_written_29 : decode cX12_written 29 = .ok (.aload_n 0, 1) := by decide +kernel
theorem dX12_written_30 : decode cX12_written 30 = .ok (.getfield 86, 3) := by decide +kernel
theorem dX12_written_33 : decode cX12_written 33 = .ok (.iload_n 2, 1) := by decide +kernel
theorem dX12_written_34 : decode cX12_written 34 = .ok (.baload, 1) := by decide +kernel
theorem dX12_written_35 : decode cX12_written 35 = .ok (.goto 4, 3) := by decide +kernel
theorem dX12_written_38 : decode cX12_written 38 = .ok (.iconst (-1), 1) := by decide +kernel
theorem dX12_written_39 : decode cX12_written 39 = .ok (.ireturn, 1) := by decide +kernel
theorem dX12_same_0 : decode cX12_same 0 = .ok (.aload_n 0, 1) := by decide +kernel
theorem dX12_same_1 : decode cX12_same 1 = .ok (.iload_n 1, 1) := by decide +kernel
theorem dX12_same_2 : decode cX12_same 2 = .ok (.invokevirtual 317, 3) := by decide +kernel
theorem dX12_same_5 : decode cX12_same 5 = .ok (.ifCond .ne 11, 3) := by decide +kernel
theorem dX12_same_8 : decode cX12_same 8 = .ok (.aload_n 0, 1) := by decide +kernel
theorem dX12_same_9 : decode cX12_same 9 = .ok (.iload_n 2, 1) := by decide +kernel
theorem dX12_same_10 : decode cX12_same 10 = .ok (.invokevirtual 317, 3) := by decide +kernel
theorem dX12_same_13 : decode cX12_same 13 = .ok (.ifCond .eq 5, 3) := by decide +kernel
theorem dX12_same_16 : decode cX12_same 16 = .ok (.iconst (-1), 1) := by decide +kernel
theorem dX12_same_17 : decode cX12_same 17 = .ok (.ireturn, 1) := by decide +kernel
theorem dX12_same_18 : decode cX12_same 18 = .ok (.aload_n 0, 1) := by decide +kernel
theorem dX12_same_19 : decode cX12_same 19 = .ok (.getfield 37, 3) := by decide +kernel
theorem dX12_same_22 : decode cX12_same 22 = .ok (.iload_n 1, 1) := by decide +kernel
theorem dX12_same_23 : decode cX12_same 23 = .ok (.iaload, 1) := by decide +kernel
theorem dX12_same_24 : decode cX12_same 24 = .ok (.aload_n 0, 1) := by decide +kernel
theorem dX12_same_25 : decode cX12_same 25 = .ok (.getfield 37, 3) := by decide +kernel
theorem dX12_same_28 : decode cX12_same 28 = .ok (.iload_n 2, 1) := by decide +kernel
theorem dX12_same_29 : decode cX12_same 29 = .ok (.iaload, 1) := by decide +kernel
theorem dX12_same_30 : decode cX12_same 30 = .ok (.if_icmp .ne 7, 3) := by decide +kernel
theorem dX12_same_33 : decode cX12_same 33 = .ok (.iconst 1, 1) := by decide +kernel
theorem dX12_same_34 : decode cX12_same 34 = .ok (.goto 4, 3) := by decide +kernel
theorem dX12_same_37 : decode cX12_same 37 = .ok (.iconst 0, 1) := by decide +kernel
theorem dX12_same_38 : decode cX12_same 38 = .ok (.istore_n 3, 1) := by decide +kernel
theorem dX12_same_39 : decode cX12_same 39 = .ok (.iconst 0, 1) := by decide +kernel
theorem dX12_same_40 : decode cX12_same 40 = .ok (.istore 4, 2) := by decide +kernel
theorem dX12_same_42 : decode cX12_same 42 = .ok (.iload 4, 2) := by decide +kernel
theorem dX12_same_44 : decode cX12_same 44 = .ok (.aload_n 0, 1) := by decide +kernel
theorem dX12_same_45 : decode cX12_same 45 = .ok (.getfield 37, 3) := by decide +kernel
theorem dX12_same_48 : decode cX12_same 48 = .ok (.iload_n 1, 1) := by decide +kernel
theorem dX12_same_49 : decode cX12_same 49 = .ok (.iaload, 1) := by decide +kernel
theorem dX12_same_50 : decode cX12_same 50 = .ok (.if_icmp .ge 90, 3) := by decide +kernel
theorem dX12_same_53 : decode cX12_same 53 = .ok (.iload_n 3, 1) := by decide +kernel
theorem dX12_same_54 : decode cX12_same 54 = .ok (.ifCond .eq 86, 3) := by decide +kernel
theorem dX12_same_57 : decode cX12_same 57 = .ok (.sipush 600, 3) := by decide +kernel
theorem dX12_same_60 : decode cX12_same 60 = .ok (.iload_n 1, 1) := by decide +kernel
theorem dX12_same_61 : decode cX12_same 61 = .ok (.imul, 1) := by decide +kernel
theorem dX12_same_62 : decode cX12_same 62 = .ok (.iload 4, 2) := by decide +kernel
theorem dX12_same_64 : decode cX12_same 64 = .ok (.iadd, 1) := by decide +kernel
theorem dX12_same_65 : decode cX12_same 65 = .ok (.istore 5, 2) := by decide +kernel
theorem dX12_same_67 : decode cX12_same 67 = .ok (.sipush 600, 3) := by decide +kernel
theorem dX12_same_70 : decode cX12_same 70 = .ok (.iload_n 2, 1) := by decide +kernel
theorem dX12_same_71 : decode cX12_same 71 = .ok (.imul, 1) := by decide +kernel
theorem dX12_same_72 : decode cX12_same 72 = .ok (.iload 4, 2) := by decide +kernel
theorem dX12_same_74 : decode cX12_same 74 = .ok (.iadd, 1) := by decide +kernel
theorem dX12_same_75 : decode cX12_same 75 = .ok (.istore 6, 2) := by decide +kernel
theorem dX12_same_77 : decode cX12_same 77 = .ok (.aload_n 0, 1) := by decide +kernel
theorem dX12_same_78 : decode cX12_same 78 = .ok (.getfield 40, 3) := by decide +kernel
theorem dX12_same_81 : decode cX12_same 81 = .ok (.iload 5, 2) := by decide +kernel
theorem dX12_same_83 : decode cX12_same 83 = .ok (.baload, 1) := by decide +kernel
theorem dX12_same_84 : decode cX12_same 84 = .ok (.aload_n 0, 1) := by decide +kernel
theorem dX12_same_85 : decode cX12_same 85 = .ok (.getfield 40, 3) := by decide +kernel
theorem dX12_same_88 : decode cX12_same 88 = .ok (.iload 6, 2) := by decide +kernel
theorem dX12_same_90 : decode cX12_same 90 = .ok (.baload, 1) := by decide +kernel
theorem dX12_same_91 : decode cX12_same 91 = .ok (.if_icmp .ne 41, 3) := by decide +kernel
theorem dX12_same_94 : decode cX12_same 94 = .ok (.aload_n 0, 1) := by decide +kernel
theorem dX12_same_95 : decode cX12_same 95 = .ok (.getfield 44, 3) := by decide +kernel
theorem dX12_same_98 : decode cX12_same 98 = .ok (.iload 5, 2) := by decide +kernel
theorem dX12_same_100 : decode cX12_same 100 = .ok (.iaload, 1) := by decide +kernel
theorem dX12_same_101 : decode cX12_same 101 = .ok (.aload_n 0, 1) := by decide +kernel
theorem dX12_same_102 : decode cX12_same 102 = .ok (.getfield 44, 3) := by decide +kernel
theorem dX12_same_105 : decode cX12_same 105 = .ok (.iload 6, 2) := by decide +kernel
theorem dX12_same_107 : decode cX12_same 107 = .ok (.iaload, 1) := by decide +kernel
theorem dX12_same_108 : decode cX12_same 108 = .ok (.if_icmp .ne 24, 3) := by decide +kernel
theorem dX12_same_111 : decode cX12_same 111 = .ok (.aload_n 0, 1) := by decide +kernel
theorem dX12_same_112 : decode cX12_same 112 = .ok (.getfield 47, 3) := by decide +kernel
theorem dX12_same_115 : decode cX12_same 115 = .ok (.iload 5, 2) := by decide +kernel
theorem dX12_same_117 : decode cX12_same 117 = .ok (.baload, 1) := by decide +kernel
theorem dX12_same_118 : decode cX12_same 118 = .ok (.aload_n 0, 1) := by decide +kernel
theorem dX12_same_119 : decode cX12_same 119 = .ok (.getfield 47, 3) := by decide +kernel
theorem dX12_same_122 : decode cX12_same 122 = .ok (.iload 6, 2) := by decide +kernel
theorem dX12_same_124 : decode cX12_same 124 = .ok (.baload, 1) := by decide +kernel
theorem dX12_same_125 : decode cX12_same 125 = .ok (.if_icmp .ne 7, 3) := by decide +kernel
theorem dX12_same_128 : decode cX12_same 128 = .ok (.iconst 1, 1) := by decide +kernel
theorem dX12_same_129 : decode cX12_same 129 = .ok (.goto 4, 3) := by decide +kernel
theorem dX12_same_132 : decode cX12_same 132 = .ok (.iconst 0, 1) := by decide +kernel
theorem dX12_same_133 : decode cX12_same 133 = .ok (.istore_n 3, 1) := by decide +kernel
theorem dX12_same_134 : decode cX12_same 134 = .ok (.iinc 4 1, 3) := by decide +kernel
theorem dX12_same_137 : decode cX12_same 137 = .ok (.goto (-95), 3) := by decide +kernel
theorem dX12_same_140 : decode cX12_same 140 = .ok (.iload_n 3, 1) := by decide +kernel
theorem dX12_same_141 : decode cX12_same 141 = .ok (.ifCond .eq 7, 3) := by decide +kernel
theorem dX12_same_144 : decode cX12_same 144 = .ok (.iconst 1, 1) := by decide +kernel
theorem dX12_same_145 : decode cX12_same 145 = .ok (.goto 4, 3) := by decide +kernel
theorem dX12_same_148 : decode cX12_same 148 = .ok (.iconst 0, 1) := by decide +kernel
theorem dX12_same_149 : decode cX12_same 149 = .ok (.ireturn, 1) := by decide +kernel
theorem dX12_isAtom_0 : decode cX12_isAtom 0 = .ok (.aload_n 0, 1) := by decide +kernel
theorem dX12_isAtom_1 : decode cX12_isAtom 1 = .ok (.getfield 40, 3) := by decide +kernel
theorem dX12_isAtom_4 : decode cX12_isAtom 4 = .ok (.iload_n 2, 1) := by decide +kernel
theorem dX12_isAtom_5 : decode cX12_isAtom 5 = .ok (.baload, 1) := by decide +kernel
theorem dX12_isAtom_6 : decode cX12_isAtom 6 = .ok (.bipush 10, 2) := by decide +kernel
theorem dX12_isAtom_8 : decode cX12_isAtom 8 = .ok (.if_icmp .ge 17, 3) := by decide +kernel
theorem dX12_isAtom_11 : decode cX12_isAtom 11 = .ok (.aload_n 0, 1) := by decide +kernel
theorem dX12_isAtom_12 : decode cX12_isAtom 12 = .ok (.getfield 89, 3) := by decide +kernel
theorem dX12_isAtom_15 : decode cX12_isAtom 15 = .ok (.aload_n 0, 1) := by decide +kernel
theorem dX12_isAtom_16 : decode cX12_isAtom 16 = .ok (.getfield 44, 3) := by decide +kernel
theorem dX12_isAtom_19 : decode cX12_isAtom 19 = .ok (.iload_n 2, 1) := by decide +kernel
theorem dX12_isAtom_20 : decode cX12_isAtom 20 = .ok (.iaload, 1) := by decide +kernel
theorem dX12_isAtom_21 : decode cX12_isAtom 21 = .ok (.iaload, 1) := by decide +kernel
theorem dX12_isAtom_22 : decode cX12_isAtom 22 = .ok (.goto 4, 3) := by decide +kernel
theorem dX12_isAtom_25 : decode cX12_isAtom 25 = .ok (.iconst 0, 1) := by decide +kernel
theorem dX12_isAtom_26 : decode cX12_isAtom 26 = .ok (.istore_n 3, 1) := by decide +kernel
theorem dX12_isAtom_27 : decode cX12_isAtom 27 = .ok (.aload_n 0, 1) := by decide +kernel
theorem dX12_isAtom_28 : decode cX12_isAtom 28 = .ok (.getfield 40, 3) := by decide +kernel
theorem dX12_isAtom_31 : decode cX12_isAtom 31 = .ok (.iload_n 2, 1) := by decide +kernel
theorem dX12_isAtom_32 : decode cX12_isAtom 32 = .ok (.baload, 1) := by decide +kernel
theorem dX12_isAtom_33 : decode cX12_isAtom 33 = .ok (.tableswitch 116 6 9 #[31, 54, 77, 95], 31) := by decide +kernel
theorem dX12_isAtom_64 : decode cX12_isAtom 64 = .ok (.aload_n 0, 1) := by decide +kernel
theorem dX12_isAtom_65 : decode cX12_isAtom 65 = .ok (.getfield 13, 3) := by decide +kernel
theorem dX12_isAtom_68 : decode cX12_isAtom 68 = .ok (.bipush 6, 2) := by decide +kernel
theorem dX12_isAtom_70 : decode cX12_isAtom 70 = .ok (.iload_n 1, 1) := by decide +kernel
theorem dX12_isAtom_71 : decode cX12_isAtom 71 = .ok (.imul, 1) := by decide +kernel
theorem dX12_isAtom_72 : decode cX12_isAtom 72 = .ok (.iload_n 3, 1) := by decide +kernel
theorem dX12_isAtom_73 : decode cX12_isAtom 73 = .ok (.iadd, 1) := by decide +kernel
theorem dX12_isAtom_74 : decode cX12_isAtom 74 = .ok (.iaload, 1) := by decide +kernel
theorem dX12_isAtom_75 : decode cX12_isAtom 75 = .ok (.iconst 1, 1) := by decide +kernel
theorem dX12_isAtom_76 : decode cX12_isAtom 76 = .ok (.iand, 1) := by decide +kernel
theorem dX12_isAtom_77 : decode cX12_isAtom 77 = .ok (.iconst 1, 1) := by decide +kernel
theorem dX12_isAtom_78 : decode cX12_isAtom 78 = .ok (.if_icmp .ne 7, 3) := by decide +kernel
theorem dX12_isAtom_81 : decode cX12_isAtom 81 = .ok (.iconst 1, 1) := by decide +kernel
theorem dX12_isAtom_82 : decode cX12_isAtom 82 = .ok (.goto 4, 3) := by decide +kernel
theorem dX12_isAtom_85 : decode cX12_isAtom 85 = .ok (.iconst 0, 1) := by decide +kernel
theorem dX12_isAtom_86 : decode cX12_isAtom 86 = .ok (.ireturn, 1) := by decide +kernel
theorem dX12_isAtom_87 : decode cX12_isAtom 87 = .ok (.aload_n 0, 1) := by decide +kernel
theorem dX12_isAtom_88 : decode cX12_isAtom 88 = .ok (.getfield 13, 3) := by decide +kernel
theorem dX12_isAtom_91 : decode cX12_isAtom 91 = .ok (.bipush 6, 2) := by decide +kernel
theorem dX12_isAtom_93 : decode cX12_isAtom 93 = .ok (.iload_n 1, 1) := by decide +kernel
theorem dX12_isAtom_94 : decode cX12_isAtom 94 = .ok (.imul, 1) := by decide +kernel
theorem dX12_isAtom_95 : decode cX12_isAtom 95 = .ok (.iload_n 3, 1) := by decide +kernel
theorem dX12_isAtom_96 : decode cX12_isAtom 96 = .ok (.iadd, 1) := by decide +kernel
theorem dX12_isAtom_97 : decode cX12_isAtom 97 = .ok (.iaload, 1) := by decide +kernel
theorem dX12_isAtom_98 : decode cX12_isAtom 98 = .ok (.iconst 2, 1) := by decide +kernel
theorem dX12_isAtom_99 : decode cX12_isAtom 99 = .ok (.iand, 1) := by decide +kernel
theorem dX12_isAtom_100 : decode cX12_isAtom 100 = .ok (.iconst 2, 1) := by decide +kernel
theorem dX12_isAtom_101 : decode cX12_isAtom 101 = .ok (.if_icmp .ne 7, 3) := by decide +kernel
theorem dX12_isAtom_104 : decode cX12_isAtom 104 = .ok (.iconst 1, 1) := by decide +kernel
theorem dX12_isAtom_105 : decode cX12_isAtom 105 = .ok (.goto 4, 3) := by decide +kernel
theorem dX12_isAtom_108 : decode cX12_isAtom 108 = .ok (.iconst 0, 1) := by decide +kernel
theorem dX12_isAtom_109 : decode cX12_isAtom 109 = .ok (.ireturn, 1) := by decide +kernel
theorem dX12_isAtom_110 : decode cX12_isAtom 110 = .ok (.aload_n 0, 1) := by decide +kernel
theorem dX12_isAtom_111 : decode cX12_isAtom 111 = .ok (.iload_n 1, 1) := by decide +kernel
theorem dX12_isAtom_112 : decode cX12_isAtom 112 = .ok (.iload_n 3, 1) := by decide +kernel
theorem dX12_isAtom_113 : decode cX12_isAtom 113 = .ok (.aload_n 0, 1) := by decide +kernel
theorem dX12_isAtom_114 : decode cX12_isAtom 114 = .ok (.getfield 89, 3) := by decide +kernel
theorem dX12_isAtom_117 : decode cX12_isAtom 117 = .ok (.aload_n 0, 1) := by decide +kernel
theorem dX12_isAtom_118 : decode cX12_isAtom 118 = .ok (.getfield 47, 3) := by decide +kernel
theorem dX12_isAtom_121 : decode cX12_isAtom 121 = .ok (.iload_n 2, 1) := by decide +kernel
theorem dX12_isAtom_122 : decode cX12_isAtom 122 = .ok (.baload, 1) := by decide +kernel
theorem dX12_isAtom_123 : decode cX12_isAtom 123 = .ok (.iaload, 1) := by decide +kernel
theorem dX12_isAtom_124 : decode cX12_isAtom 124 = .ok (.invokevirtual 152, 3) := by decide +kernel
theorem dX12_isAtom_127 : decode cX12_isAtom 127 = .ok (.ireturn, 1) := by decide +kernel
theorem dX12_isAtom_128 : decode cX12_isAtom 128 = .ok (.iload_n 3, 1) := by decide +kernel
theorem dX12_isAtom_129 : decode cX12_isAtom 129 = .ok (.aload_n 0, 1) := by decide +kernel
theorem dX12_isAtom_130 : decode cX12_isAtom 130 = .ok (.getfield 89, 3) := by decide +kernel
theorem dX12_isAtom_133 : decode cX12_isAtom 133 = .ok (.aload_n 0, 1) := by decide +kernel
theorem dX12_isAtom_134 : decode cX12_isAtom 134 = .ok (.getfield 47, 3) := by decide +kernel
theorem dX12_isAtom_137 : decode cX12_isAtom 137 = .ok (.iload_n 2, 1) := by decide +kernel
theorem dX12_isAtom_138 : decode cX12_isAtom 138 = .ok (.baload, 1) := by decide +kernel
theorem dX12_isAtom_139 : decode cX12_isAtom 139 = .ok (.iaload, 1) := by decide +kernel
theorem dX12_isAtom_140 : decode cX12_isAtom 140 = .ok (.if_icmp .ne 7, 3) := by decide +kernel
theorem dX12_isAtom_143 : decode cX12_isAtom 143 = .ok (.iconst 1, 1) := by decide +kernel
theorem dX12_isAtom_144 : decode cX12_isAtom 144 = .ok (.goto 4, 3) := by decide +kernel
theorem dX12_isAtom_147 : decode cX12_isAtom 147 = .ok (.iconst 0, 1) := by decide +kernel
theorem dX12_isAtom_148 : decode cX12_isAtom 148 = .ok (.ireturn, 1) := by decide +kernel
theorem dX12_isAtom_149 : decode cX12_isAtom 149 = .ok (.aload_n 0, 1) := by decide +kernel
theorem dX12_isAtom_150 : decode cX12_isAtom 150 = .ok (.getfield 40, 3) := by decide +kernel
theorem dX12_isAtom_153 : decode cX12_isAtom 153 = .ok (.iload_n 2, 1) := by decide +kernel
theorem dX12_isAtom_154 : decode cX12_isAtom 154 = .ok (.baload, 1) := by decide +kernel
theorem dX12_isAtom_155 : decode cX12_isAtom 155 = .ok (.bipush 10, 2) := by decide +kernel
theorem dX12_isAtom_157 : decode cX12_isAtom 157 = .ok (.if_icmp .ne 7, 3) := by decide +kernel
theorem dX12_isAtom_160 : decode cX12_isAtom 160 = .ok (.iconst 1, 1) := by decide +kernel
theorem dX12_isAtom_161 : decode cX12_isAtom 161 = .ok (.goto 4, 3) := by decide +kernel
theorem dX12_isAtom_164 : decode cX12_isAtom 164 = .ok (.iconst 0, 1) := by decide +kernel
theorem dX12_isAtom_165 : decode cX12_isAtom 165 = .ok (.ireturn, 1) := by decide +kernel
theorem dX12_nextAsked_0 : decode cX12_nextAsked 0 = .ok (.sipush 600, 3) := by decide +kernel
theorem dX12_nextAsked_3 : decode cX12_nextAsked 3 = .ok (.iload_n 1, 1) := by decide +kernel
theorem dX12_nextAsked_4 : decode cX12_nextAsked 4 = .ok (.imul, 1) := by decide +kernel
theorem dX12_nextAsked_5 : decode cX12_nextAsked 5 = .ok (.istore 4, 2) := by decide +kernel
theorem dX12_nextAsked_7 : decode cX12_nextAsked 7 = .ok (.iload_n 3, 1) := by decide +kernel
theorem dX12_nextAsked_8 : decode cX12_nextAsked 8 = .ok (.istore 5, 2) := by decide +kernel
theorem dX12_nextAsked_10 : decode cX12_nextAsked 10 = .ok (.aload_n 0, 1) := by decide +kernel
theorem dX12_nextAsked_11 : decode cX12_nextAsked 11 = .ok (.getfield 308, 3) := by decide +kernel
theorem dX12_nextAsked_14 : decode cX12_nextAsked 14 = .ok (.ifCond .le 249, 3) := by decide +kernel
theorem dX12_nextAsked_17 : decode cX12_nextAsked 17 = .ok (.aload_n 0, 1) := by decide +kernel
theorem dX12_nextAsked_18 : decode cX12_nextAsked 18 = .ok (.getfield 77, 3) := by decide +kernel
theorem dX12_nextAsked_21 : decode cX12_nextAsked 21 = .ok (.aload_n 0, 1) := by decide +kernel
theorem dX12_nextAsked_22 : decode cX12_nextAsked 22 = .ok (.getfield 308, 3) := by decide +kernel
theorem dX12_nextAsked_25 : decode cX12_nextAsked 25 = .ok (.iconst 1, 1) := by decide +kernel
theorem dX12_nextAsked_26 : decode cX12_nextAsked 26 = .ok (.isub, 1) := by decide +kernel
theorem dX12_nextAsked_27 : decode cX12_nextAsked 27 = .ok (.iaload, 1) := by decide +kernel
theorem dX12_nextAsked_28 : decode cX12_nextAsked 28 = .ok (.istore 6, 2) := by decide +kernel
theorem dX12_nextAsked_30 : decode cX12_nextAsked 30 = .ok (.iload 4, 2) := by decide +kernel
theorem dX12_nextAsked_32 : decode cX12_nextAsked 32 = .ok (.iload 6, 2) := by decide +kernel
theorem dX12_nextAsked_34 : decode cX12_nextAsked 34 = .ok (.iadd, 1) := by decide +kernel
theorem dX12_nextAsked_35 : decode cX12_nextAsked 35 = .ok (.istore 7, 2) := by decide +kernel
theorem dX12_nextAsked_37 : decode cX12_nextAsked 37 = .ok (.aload_n 0, 1) := by decide +kernel
theorem dX12_nextAsked_38 : decode cX12_nextAsked 38 = .ok (.getfield 40, 3) := by decide +kernel
theorem dX12_nextAsked_41 : decode cX12_nextAsked 41 = .ok (.iload 7, 2) := by decide +kernel
theorem dX12_nextAsked_43 : decode cX12_nextAsked 43 = .ok (.baload, 1) := by decide +kernel
theorem dX12_nextAsked_44 : decode cX12_nextAsked 44 = .ok (.iconst 1, 1) := by decide +kernel
theorem dX12_nextAsked_45 : decode cX12_nextAsked 45 = .ok (.if_icmp .ne 18, 3) := by decide +kernel
theorem dX12_nextAsked_48 : decode cX12_nextAsked 48 = .ok (.iload 5, 2) := by decide +kernel
theorem dX12_nextAsked_50 : decode cX12_nextAsked 50 = .ok (.ifCond .ne 7, 3) := by decide +kernel
theorem dX12_nextAsked_53 : decode cX12_nextAsked 53 = .ok (.iconst 1, 1) := by decide +kernel
theorem dX12_nextAsked_54 : decode cX12_nextAsked 54 = .ok (.goto 4, 3) := by decide +kernel
theorem dX12_nextAsked_57 : decode cX12_nextAsked 57 = .ok (.iconst 0, 1) := by decide +kernel
theorem dX12_nextAsked_58 : decode cX12_nextAsked 58 = .ok (.istore 5, 2) := by decide +kernel
theorem dX12_nextAsked_60 : decode cX12_nextAsked 60 = .ok (.goto 190, 3) := by decide +kernel
theorem dX12_nextAsked_63 : decode cX12_nextAsked 63 = .ok (.aload_n 0, 1) := by decide +kernel
theorem dX12_nextAsked_64 : decode cX12_nextAsked 64 = .ok (.getfield 40, 3) := by decide +kernel
theorem dX12_nextAsked_67 : decode cX12_nextAsked 67 = .ok (.iload 7, 2) := by decide +kernel
theorem dX12_nextAsked_69 : decode cX12_nextAsked 69 = .ok (.baload, 1) := by decide +kernel
theorem dX12_nextAsked_70 : decode cX12_nextAsked 70 = .ok (.iconst 4, 1) := by decide +kernel
theorem dX12_nextAsked_71 : decode cX12_nextAsked 71 = .ok (.if_icmp .eq 14, 3) := by decide +kernel
theorem dX12_nextAsked_74 : decode cX12_nextAsked 74 = .ok (.aload_n 0, 1) := by decide +kernel
theorem dX12_nextAsked_75 : decode cX12_nextAsked 75 = .ok (.getfield 40, 3) := by decide +kernel
theorem dX12_nextAsked_78 : decode cX12_nextAsked 78 = .ok (.iload 7, 2) := by decide +kernel
theorem dX12_nextAsked_80 : decode cX12_nextAsked 80 = .ok (.baload, 1) := by decide +kernel
theorem dX12_nextAsked_81 : decode cX12_nextAsked 81 = .ok (.iconst 5, 1) := by decide +kernel
theorem dX12_nextAsked_82 : decode cX12_nextAsked 82 = .ok (.if_icmp .ne 82, 3) := by decide +kernel
theorem dX12_nextAsked_85 : decode cX12_nextAsked 85 = .ok (.iload 5, 2) := by decide +kernel
theorem dX12_nextAsked_87 : decode cX12_nextAsked 87 = .ok (.aload_n 0, 1) := by decide +kernel
theorem dX12_nextAsked_88 : decode cX12_nextAsked 88 = .ok (.getfield 40, 3) := by decide +kernel
theorem dX12_nextAsked_91 : decode cX12_nextAsked 91 = .ok (.iload 7, 2) := by decide +kernel
theorem dX12_nextAsked_93 : decode cX12_nextAsked 93 = .ok (.baload, 1) := by decide +kernel
theorem dX12_nextAsked_94 : decode cX12_nextAsked 94 = .ok (.iconst 4, 1) := by decide +kernel
theorem dX12_nextAsked_95 : decode cX12_nextAsked 95 = .ok (.if_icmp .ne 7, 3) := by decide +kernel
theorem dX12_nextAsked_98 : decode cX12_nextAsked 98 = .ok (.iconst 1, 1) := by decide +kernel
theorem dX12_nextAsked_99 : decode cX12_nextAsked 99 = .ok (.goto 4, 3) := by decide +kernel
theorem dX12_nextAsked_102 : decode cX12_nextAsked 102 = .ok (.iconst 0, 1) := by decide +kernel
theorem dX12_nextAsked_103 : decode cX12_nextAsked 103 = .ok (.if_icmp .ne 147, 3) := by decide +kernel
theorem dX12_nextAsked_106 : decode cX12_nextAsked 106 = .ok (.aload_n 0, 1) := by decide +kernel
theorem dX12_nextAsked_107 : decode cX12_nextAsked 107 = .ok (.getfield 83, 3) := by decide +kernel
theorem dX12_nextAsked_110 : decode cX12_nextAsked 110 = .ok (.aload_n 0, 1) := by decide +kernel
theorem dX12_nextAsked_111 : decode cX12_nextAsked 111 = .ok (.getfield 308, 3) := by decide +kernel
theorem dX12_nextAsked_114 : decode cX12_nextAsked 114 = .ok (.iconst 1, 1) := by decide +kernel
theorem dX12_nextAsked_115 : decode cX12_nextAsked 115 = .ok (.isub, 1) := by decide +kernel
theorem dX12_nextAsked_116 : decode cX12_nextAsked 116 = .ok (.iaload, 1) := by decide +kernel
theorem dX12_nextAsked_117 : decode cX12_nextAsked 117 = .ok (.aload_n 0, 1) := by decide +kernel
theorem dX12_nextAsked_118 : decode cX12_nextAsked 118 = .ok (.getfield 50, 3) := by decide +kernel
theorem dX12_nextAsked_121 : decode cX12_nextAsked 121 = .ok (.iload 7, 2) := by decide +kernel
theorem dX12_nextAsked_123 : decode cX12_nextAsked 123 = .ok (.iaload, 1) := by decide +kernel
theorem dX12_nextAsked_124 : decode cX12_nextAsked 124 = .ok (.if_icmp .ge 126, 3) := by decide +kernel
theorem dX12_nextAsked_127 : decode cX12_nextAsked 127 = .ok (.aload_n 0, 1) := by decide +kernel
theorem dX12_nextAsked_128 : decode cX12_nextAsked 128 = .ok (.getfield 83, 3) := by decide +kernel
theorem dX12_nextAsked_131 : decode cX12_nextAsked 131 = .ok (.aload_n 0, 1) := by decide +kernel
theorem dX12_nextAsked_132 : decode cX12_nextAsked 132 = .ok (.getfield 308, 3) := by decide +kernel
theorem dX12_nextAsked_135 : decode cX12_nextAsked 135 = .ok (.iconst 1, 1) := by decide +kernel
theorem dX12_nextAsked_136 : decode cX12_nextAsked 136 = .ok (.isub, 1) := by decide +kernel
theorem dX12_nextAsked_137 : decode cX12_nextAsked 137 = .ok (.iaload, 1) := by decide +kernel
theorem dX12_nextAsked_138 : decode cX12_nextAsked 138 = .ok (.istore 8, 2) := by decide +kernel
theorem dX12_nextAsked_140 : decode cX12_nextAsked 140 = .ok (.aload_n 0, 1) := by decide +kernel
theorem dX12_nextAsked_141 : decode cX12_nextAsked 141 = .ok (.getfield 83, 3) := by decide +kernel
theorem dX12_nextAsked_144 : decode cX12_nextAsked 144 = .ok (.aload_n 0, 1) := by decide +kernel
theorem dX12_nextAsked_145 : decode cX12_nextAsked 145 = .ok (.getfield 308, 3) := by decide +kernel
theorem dX12_nextAsked_148 : decode cX12_nextAsked 148 = .ok (.iconst 1, 1) := by decide +kernel
theorem dX12_nextAsked_149 : decode cX12_nextAsked 149 = .ok (.isub, 1) := by decide +kernel
theorem dX12_nextAsked_150 : decode cX12_nextAsked 150 = .ok (.aload_n 0, 1) := by decide +kernel
theorem dX12_nextAsked_151 : decode cX12_nextAsked 151 = .ok (.getfield 50, 3) := by decide +kernel
theorem dX12_nextAsked_154 : decode cX12_nextAsked 154 = .ok (.iload 4, 2) := by decide +kernel
theorem dX12_nextAsked_156 : decode cX12_nextAsked 156 = .ok (.iload 8, 2) := by decide +kernel
theorem dX12_nextAsked_158 : decode cX12_nextAsked 158 = .ok (.iadd, 1) := by decide +kernel
theorem dX12_nextAsked_159 : decode cX12_nextAsked 159 = .ok (.iaload, 1) := by decide +kernel
theorem dX12_nextAsked_160 : decode cX12_nextAsked 160 = .ok (.iastore, 1) := by decide +kernel
theorem dX12_nextAsked_161 : decode cX12_nextAsked 161 = .ok (.iload 8, 2) := by decide +kernel
theorem dX12_nextAsked_163 : decode cX12_nextAsked 163 = .ok (.ireturn, 1) := by decide +kernel
theorem dX12_nextAsked_164 : decode cX12_nextAsked 164 = .ok (.iload 5, 2) := by decide +kernel
theorem dX12_nextAsked_166 : decode cX12_nextAsked 166 = .ok (.aload_n 0, 1) := by decide +kernel
theorem dX12_nextAsked_167 : decode cX12_nextAsked 167 = .ok (.getfield 40, 3) := by decide +kernel
theorem dX12_nextAsked_170 : decode cX12_nextAsked 170 = .ok (.iload 7, 2) := by decide +kernel
theorem dX12_nextAsked_172 : decode cX12_nextAsked 172 = .ok (.baload, 1) := by decide +kernel
theorem dX12_nextAsked_173 : decode cX12_nextAsked 173 = .ok (.iconst 2, 1) := by decide +kernel
theorem dX12_nextAsked_174 : decode cX12_nextAsked 174 = .ok (.if_icmp .ne 7, 3) := by decide +kernel
theorem dX12_nextAsked_177 : decode cX12_nextAsked 177 = .ok (.iconst 1, 1) := by decide +kernel
theorem dX12_nextAsked_178 : decode cX12_nextAsked 178 = .ok (.goto 4, 3) := by decide +kernel
theorem dX12_nextAsked_181 : decode cX12_nextAsked 181 = .ok (.iconst 0, 1) := by decide +kernel
theorem dX12_nextAsked_182 : decode cX12_nextAsked 182 = .ok (.if_icmp .ne 68, 3) := by decide +kernel
theorem dX12_nextAsked_185 : decode cX12_nextAsked 185 = .ok (.aload_n 0, 1) := by decide +kernel
theorem dX12_nextAsked_186 : decode cX12_nextAsked 186 = .ok (.getfield 80, 3) := by decide +kernel
theorem dX12_nextAsked_189 : decode cX12_nextAsked 189 = .ok (.aload_n 0, 1) := by decide +kernel
theorem dX12_nextAsked_190 : decode cX12_nextAsked 190 = .ok (.getfield 308, 3) := by decide +kernel
theorem dX12_nextAsked_193 : decode cX12_nextAsked 193 = .ok (.iconst 1, 1) := by decide +kernel
theorem dX12_nextAsked_194 : decode cX12_nextAsked 194 = .ok (.isub, 1) := by decide +kernel
theorem dX12_nextAsked_195 : decode cX12_nextAsked 195 = .ok (.iaload, 1) := by decide +kernel
theorem dX12_nextAsked_196 : decode cX12_nextAsked 196 = .ok (.iconst 1, 1) := by decide +kernel
theorem dX12_nextAsked_197 : decode cX12_nextAsked 197 = .ok (.iadd, 1) := by decide +kernel
theorem dX12_nextAsked_198 : decode cX12_nextAsked 198 = .ok (.aload_n 0, 1) := by decide +kernel
theorem dX12_nextAsked_199 : decode cX12_nextAsked 199 = .ok (.getfield 7, 3) := by decide +kernel
theorem dX12_nextAsked_202 : decode cX12_nextAsked 202 = .ok (.iload_n 2, 1) := by decide +kernel
theorem dX12_nextAsked_203 : decode cX12_nextAsked 203 = .ok (.iaload, 1) := by decide +kernel
theorem dX12_nextAsked_204 : decode cX12_nextAsked 204 = .ok (.if_icmp .ge 46, 3) := by decide +kernel
theorem dX12_nextAsked_207 : decode cX12_nextAsked 207 = .ok (.aload_n 0, 1) := by decide +kernel
theorem dX12_nextAsked_208 : decode cX12_nextAsked 208 = .ok (.getfield 80, 3) := by decide +kernel
theorem dX12_nextAsked_211 : decode cX12_nextAsked 211 = .ok (.aload_n 0, 1) := by decide +kernel
theorem dX12_nextAsked_212 : decode cX12_nextAsked 212 = .ok (.getfield 308, 3) := by decide +kernel
theorem dX12_nextAsked_215 : decode cX12_nextAsked 215 = .ok (.iconst 1, 1) := by decide +kernel
theorem dX12_nextAsked_216 : decode cX12_nextAsked 216 = .ok (.isub, 1) := by decide +kernel
theorem dX12_nextAsked_217 : decode cX12_nextAsked 217 = .ok (.dup2, 1) := by decide +kernel
theorem dX12_nextAsked_218 : decode cX12_nextAsked 218 = .ok (.iaload, 1) := by decide +kernel
theorem dX12_nextAsked_219 : decode cX12_nextAsked 219 = .ok (.iconst 1, 1) := by decide +kernel
theorem dX12_nextAsked_220 : decode cX12_nextAsked 220 = .ok (.iadd, 1) := by decide +kernel
theorem dX12_nextAsked_221 : decode cX12_nextAsked 221 = .ok (.iastore, 1) := by decide +kernel
theorem dX12_nextAsked_222 : decode cX12_nextAsked 222 = .ok (.aload_n 0, 1) := by decide +kernel
theorem dX12_nextAsked_223 : decode cX12_nextAsked 223 = .ok (.getfield 89, 3) := by decide +kernel
theorem dX12_nextAsked_226 : decode cX12_nextAsked 226 = .ok (.aload_n 0, 1) := by decide +kernel
theorem dX12_nextAsked_227 : decode cX12_nextAsked 227 = .ok (.getfield 44, 3) := by decide +kernel
theorem dX12_nextAsked_230 : decode cX12_nextAsked 230 = .ok (.iload 7, 2) := by decide +kernel
theorem dX12_nextAsked_232 : decode cX12_nextAsked 232 = .ok (.iaload, 1) := by decide +kernel
theorem dX12_nextAsked_233 : decode cX12_nextAsked 233 = .ok (.aload_n 0, 1) := by decide +kernel
theorem dX12_nextAsked_234 : decode cX12_nextAsked 234 = .ok (.getfield 80, 3) := by decide +kernel
theorem dX12_nextAsked_237 : decode cX12_nextAsked 237 = .ok (.aload_n 0, 1) := by decide +kernel
theorem dX12_nextAsked_238 : decode cX12_nextAsked 238 = .ok (.getfield 308, 3) := by decide +kernel
theorem dX12_nextAsked_241 : decode cX12_nextAsked 241 = .ok (.iconst 1, 1) := by decide +kernel
theorem dX12_nextAsked_242 : decode cX12_nextAsked 242 = .ok (.isub, 1) := by decide +kernel
theorem dX12_nextAsked_243 : decode cX12_nextAsked 243 = .ok (.iaload, 1) := by decide +kernel
theorem dX12_nextAsked_244 : decode cX12_nextAsked 244 = .ok (.iastore, 1) := by decide +kernel
theorem dX12_nextAsked_245 : decode cX12_nextAsked 245 = .ok (.iload 6, 2) := by decide +kernel
theorem dX12_nextAsked_247 : decode cX12_nextAsked 247 = .ok (.iconst 1, 1) := by decide +kernel
theorem dX12_nextAsked_248 : decode cX12_nextAsked 248 = .ok (.iadd, 1) := by decide +kernel
theorem dX12_nextAsked_249 : decode cX12_nextAsked 249 = .ok (.ireturn, 1) := by decide +kernel
theorem dX12_nextAsked_250 : decode cX12_nextAsked 250 = .ok (.aload_n 0, 1) := by decide +kernel
theorem dX12_nextAsked_251 : decode cX12_nextAsked 251 = .ok (.dup, 1) := by decide +kernel
theorem dX12_nextAsked_252 : decode cX12_nextAsked 252 = .ok (.getfield 308, 3) := by decide +kernel
theorem dX12_nextAsked_255 : decode cX12_nextAsked 255 = .ok (.iconst 1, 1) := by decide +kernel
theorem dX12_nextAsked_256 : decode cX12_nextAsked 256 = .ok (.isub, 1) := by decide +kernel
theorem dX12_nextAsked_257 : decode cX12_nextAsked 257 = .ok (.putfield 308, 3) := by decide +kernel
theorem dX12_nextAsked_260 : decode cX12_nextAsked 260 = .ok (.goto (-250), 3) := by decide +kernel
theorem dX12_nextAsked_263 : decode cX12_nextAsked 263 = .ok (.aload_n 0, 1) := by decide +kernel
theorem dX12_nextAsked_264 : decode cX12_nextAsked 264 = .ok (.iload 5, 2) := by decide +kernel
theorem dX12_nextAsked_266 : decode cX12_nextAsked 266 = .ok (.putfield 326, 3) := by decide +kernel
theorem dX12_nextAsked_269 : decode cX12_nextAsked 269 = .ok (.iconst (-1), 1) := by decide +kernel
theorem dX12_nextAsked_270 : decode cX12_nextAsked 270 = .ok (.ireturn, 1) := by decide +kernel
theorem dX12_holds_0 : decode cX12_holds 0 = .ok (.aload_n 0, 1) := by decide +kernel
theorem dX12_holds_1 : decode cX12_holds 1 = .ok (.iload_n 1, 1) := by decide +kernel
theorem dX12_holds_2 : decode cX12_holds 2 = .ok (.invokevirtual 317, 3) := by decide +kernel
theorem dX12_holds_5 : decode cX12_holds 5 = .ok (.ifCond .ne 11, 3) := by decide +kernel
theorem dX12_holds_8 : decode cX12_holds 8 = .ok (.aload_n 0, 1) := by decide +kernel
theorem dX12_holds_9 : decode cX12_holds 9 = .ok (.iload_n 2, 1) := by decide +kernel
theorem dX12_holds_10 : decode cX12_holds 10 = .ok (.invokevirtual 141, 3) := by decide +kernel
theorem dX12_holds_13 : decode cX12_holds 13 = .ok (.ifCond .eq 5, 3) := by decide +kernel
theorem dX12_holds_16 : decode cX12_holds 16 = .ok (.iconst (-1), 1) := by decide +kernel
theorem dX12_holds_17 : decode cX12_holds 17 = .ok (.ireturn, 1) := by decide +kernel
theorem dX12_holds_18 : decode cX12_holds 18 = .ok (.sipush 600, 3) := by decide +kernel
theorem dX12_holds_21 : decode cX12_holds 21 = .ok (.iload_n 1, 1) := by decide +kernel
theorem dX12_holds_22 : decode cX12_holds 22 = .ok (.imul, 1) := by decide +kernel
theorem dX12_holds_23 : decode cX12_holds 23 = .ok (.istore_n 3, 1) := by decide +kernel
theorem dX12_holds_24 : decode cX12_holds 24 = .ok (.aload_n 0, 1) := by decide +kernel
theorem dX12_holds_25 : decode cX12_holds 25 = .ok (.iconst 0, 1) := by decide +kernel
theorem dX12_holds_26 : decode cX12_holds 26 = .ok (.putfield 330, 3) := by decide +kernel
theorem dX12_holds_29 : decode cX12_holds 29 = .ok (.aload_n 0, 1) := by decide +kernel
theorem dX12_holds_30 : decode cX12_holds 30 = .ok (.iconst 0, 1) := by decide +kernel
theorem dX12_holds_31 : decode cX12_holds 31 = .ok (.putfield 308, 3) := by decide +kernel
theorem dX12_holds_34 : decode cX12_holds 34 = .ok (.iconst 0, 1) := by decide +kernel
theorem dX12_holds_35 : decode cX12_holds 35 = .ok (.istore 4, 2) := by decide +kernel
theorem dX12_holds_37 : decode cX12_holds 37 = .ok (.iload 4, 2) := by decide +kernel
theorem dX12_holds_39 : decode cX12_holds 39 = .ok (.ifCond .lt 154, 3) := by decide +kernel
theorem dX12_holds_42 : decode cX12_holds 42 = .ok (.aload_n 0, 1) := by decide +kernel
theorem dX12_holds_43 : decode cX12_holds 43 = .ok (.dup, 1) := by decide +kernel
theorem dX12_holds_44 : decode cX12_holds 44 = .ok (.getfield 330, 3) := by decide +kernel
theorem dX12_holds_47 : decode cX12_holds 47 = .ok (.iconst 1, 1) := by decide +kernel
theorem dX12_holds_48 : decode cX12_holds 48 = .ok (.iadd, 1) := by decide +kernel
theorem dX12_holds_49 : decode cX12_holds 49 = .ok (.putfield 330, 3) := by decide +kernel
theorem dX12_holds_52 : decode cX12_holds 52 = .ok (.aload_n 0, 1) := by decide +kernel
theorem dX12_holds_53 : decode cX12_holds 53 = .ok (.getfield 330, 3) := by decide +kernel
theorem dX12_holds_56 : decode cX12_holds 56 = .ok (.ldc_w 333, 3) := by decide +kernel
theorem dX12_holds_59 : decode cX12_holds 59 = .ok (.if_icmp .le 6, 3) := by decide +kernel
theorem dX12_holds_62 : decode cX12_holds 62 = .ok (.bipush (-6), 2) := by decide +kernel
theorem dX12_holds_64 : decode cX12_holds 64 = .ok (.ireturn, 1) := by decide +kernel
theorem dX12_holds_65 : decode cX12_holds 65 = .ok (.iload_n 3, 1) := by decide +kernel
theorem dX12_holds_66 : decode cX12_holds 66 = .ok (.iload 4, 2) := by decide +kernel
theorem dX12_holds_68 : decode cX12_holds 68 = .ok (.iadd, 1) := by decide +kernel
theorem dX12_holds_69 : decode cX12_holds 69 = .ok (.istore 5, 2) := by decide +kernel
theorem dX12_holds_71 : decode cX12_holds 71 = .ok (.aload_n 0, 1) := by decide +kernel
theorem dX12_holds_72 : decode cX12_holds 72 = .ok (.getfield 40, 3) := by decide +kernel
theorem dX12_holds_75 : decode cX12_holds 75 = .ok (.iload 5, 2) := by decide +kernel
theorem dX12_holds_77 : decode cX12_holds 77 = .ok (.baload, 1) := by decide +kernel
theorem dX12_holds_78 : decode cX12_holds 78 = .ok (.bipush 6, 2) := by decide +kernel
theorem dX12_holds_80 : decode cX12_holds 80 = .ok (.if_icmp .lt 21, 3) := by decide +kernel
theorem dX12_holds_83 : decode cX12_holds 83 = .ok (.aload_n 0, 1) := by decide +kernel
theorem dX12_holds_84 : decode cX12_holds 84 = .ok (.iload_n 1, 1) := by decide +kernel
theorem dX12_holds_85 : decode cX12_holds 85 = .ok (.iload_n 2, 1) := by decide +kernel
theorem dX12_holds_86 : decode cX12_holds 86 = .ok (.aload_n 0, 1) := by decide +kernel
theorem dX12_holds_87 : decode cX12_holds 87 = .ok (.iload_n 2, 1) := by decide +kernel
theorem dX12_holds_88 : decode cX12_holds 88 = .ok (.iload 5, 2) := by decide +kernel
theorem dX12_holds_90 : decode cX12_holds 90 = .ok (.invokevirtual 334, 3) := by decide +kernel
theorem dX12_holds_93 : decode cX12_holds 93 = .ok (.invokevirtual 337, 3) := by decide +kernel
theorem dX12_holds_96 : decode cX12_holds 96 = .ok (.istore 4, 2) := by decide +kernel
theorem dX12_holds_98 : decode cX12_holds 98 = .ok (.goto 92, 3) := by decide +kernel
theorem dX12_holds_101 : decode cX12_holds 101 = .ok (.aload_n 0, 1) := by decide +kernel
theorem dX12_holds_102 : decode cX12_holds 102 = .ok (.getfield 77, 3) := by decide +kernel
theorem dX12_holds_105 : decode cX12_holds 105 = .ok (.aload_n 0, 1) := by decide +kernel
theorem dX12_holds_106 : decode cX12_holds 106 = .ok (.getfield 308, 3) := by decide +kernel
theorem dX12_holds_109 : decode cX12_holds 109 = .ok (.iload 4, 2) := by decide +kernel
theorem dX12_holds_111 : decode cX12_holds 111 = .ok (.iastore, 1) := by decide +kernel
theorem dX12_holds_112 : decode cX12_holds 112 = .ok (.aload_n 0, 1) := by decide +kernel
theorem dX12_holds_113 : decode cX12_holds 113 = .ok (.getfield 80, 3) := by decide +kernel
theorem dX12_holds_116 : decode cX12_holds 116 = .ok (.aload_n 0, 1) := by decide +kernel
theorem dX12_holds_117 : decode cX12_holds 117 = .ok (.getfield 308, 3) := by decide +kernel
theorem dX12_holds_120 : decode cX12_holds 120 = .ok (.iconst 0, 1) := by decide +kernel
theorem dX12_holds_121 : decode cX12_holds 121 = .ok (.iastore, 1) := by decide +kernel
theorem dX12_holds_122 : decode cX12_holds 122 = .ok (.aload_n 0, 1) := by decide +kernel
theorem dX12_holds_123 : decode cX12_holds 123 = .ok (.getfield 83, 3) := by decide +kernel
theorem dX12_holds_126 : decode cX12_holds 126 = .ok (.aload_n 0, 1) := by decide +kernel
theorem dX12_holds_127 : decode cX12_holds 127 = .ok (.getfield 308, 3) := by decide +kernel
theorem dX12_holds_130 : decode cX12_holds 130 = .ok (.aload_n 0, 1) := by decide +kernel
theorem dX12_holds_131 : decode cX12_holds 131 = .ok (.getfield 50, 3) := by decide +kernel
theorem dX12_holds_134 : decode cX12_holds 134 = .ok (.iload_n 3, 1) := by decide +kernel
theorem dX12_holds_135 : decode cX12_holds 135 = .ok (.iload 4, 2) := by decide +kernel
theorem dX12_holds_137 : decode cX12_holds 137 = .ok (.iadd, 1) := by decide +kernel
theorem dX12_holds_138 : decode cX12_holds 138 = .ok (.iconst 1, 1) := by decide +kernel
theorem dX12_holds_139 : decode cX12_holds 139 = .ok (.iadd, 1) := by decide +kernel
theorem dX12_holds_140 : decode cX12_holds 140 = .ok (.iaload, 1) := by decide +kernel
theorem dX12_holds_141 : decode cX12_holds 141 = .ok (.iastore, 1) := by decide +kernel
theorem dX12_holds_142 : decode cX12_holds 142 = .ok (.aload_n 0, 1) := by decide +kernel
theorem dX12_holds_143 : decode cX12_holds 143 = .ok (.dup, 1) := by decide +kernel
theorem dX12_holds_144 : decode cX12_holds 144 = .ok (.getfield 308, 3) := by decide +kernel
theorem dX12_holds_147 : decode cX12_holds 147 = .ok (.iconst 1, 1) := by decide +kernel
theorem dX12_holds_148 : decode cX12_holds 148 = .ok (.iadd, 1) := by decide +kernel
theorem dX12_holds_149 : decode cX12_holds 149 = .ok (.putfield 308, 3) := by decide +kernel
theorem dX12_holds_152 : decode cX12_holds 152 = .ok (.aload_n 0, 1) := by decide +kernel
theorem dX12_holds_153 : decode cX12_holds 153 = .ok (.getfield 40, 3) := by decide +kernel
theorem dX12_holds_156 : decode cX12_holds 156 = .ok (.iload 5, 2) := by decide +kernel
theorem dX12_holds_158 : decode cX12_holds 158 = .ok (.baload, 1) := by decide +kernel
theorem dX12_holds_159 : decode cX12_holds 159 = .ok (.iconst 2, 1) := by decide +kernel
theorem dX12_holds_160 : decode cX12_holds 160 = .ok (.if_icmp .eq 14, 3) := by decide +kernel
theorem dX12_holds_163 : decode cX12_holds 163 = .ok (.aload_n 0, 1) := by decide +kernel
theorem dX12_holds_164 : decode cX12_holds 164 = .ok (.getfield 40, 3) := by decide +kernel
theorem dX12_holds_167 : decode cX12_holds 167 = .ok (.iload 5, 2) := by decide +kernel
theorem dX12_holds_169 : decode cX12_holds 169 = .ok (.baload, 1) := by decide +kernel
theorem dX12_holds_170 : decode cX12_holds 170 = .ok (.iconst 3, 1) := by decide +kernel
theorem dX12_holds_171 : decode cX12_holds 171 = .ok (.if_icmp .ne 16, 3) := by decide +kernel
theorem dX12_holds_174 : decode cX12_holds 174 = .ok (.aload_n 0, 1) := by decide +kernel
theorem dX12_holds_175 : decode cX12_holds 175 = .ok (.getfield 89, 3) := by decide +kernel
theorem dX12_holds_178 : decode cX12_holds 178 = .ok (.aload_n 0, 1) := by decide +kernel
theorem dX12_holds_179 : decode cX12_holds 179 = .ok (.getfield 44, 3) := by decide +kernel
theorem dX12_holds_182 : decode cX12_holds 182 = .ok (.iload 5, 2) := by decide +kernel
theorem dX12_holds_184 : decode cX12_holds 184 = .ok (.iaload, 1) := by decide +kernel
theorem dX12_holds_185 : decode cX12_holds 185 = .ok (.iconst 0, 1) := by decide +kernel
theorem dX12_holds_186 : decode cX12_holds 186 = .ok (.iastore, 1) := by decide +kernel
theorem dX12_holds_187 : decode cX12_holds 187 = .ok (.iinc 4 1, 3) := by decide +kernel
theorem dX12_holds_190 : decode cX12_holds 190 = .ok (.goto (-153), 3) := by decide +kernel
theorem dX12_holds_193 : decode cX12_holds 193 = .ok (.aload_n 0, 1) := by decide +kernel
theorem dX12_holds_194 : decode cX12_holds 194 = .ok (.aload_n 0, 1) := by decide +kernel
theorem dX12_holds_195 : decode cX12_holds 195 = .ok (.getfield 330, 3) := by decide +kernel
theorem dX12_holds_198 : decode cX12_holds 198 = .ok (.putfield 341, 3) := by decide +kernel
theorem dX12_holds_201 : decode cX12_holds 201 = .ok (.aload_n 0, 1) := by decide +kernel
theorem dX12_holds_202 : decode cX12_holds 202 = .ok (.getfield 326, 3) := by decide +kernel
theorem dX12_holds_205 : decode cX12_holds 205 = .ok (.ifCond .eq 7, 3) := by decide +kernel
theorem dX12_holds_208 : decode cX12_holds 208 = .ok (.iconst 1, 1) := by decide +kernel
theorem dX12_holds_209 : decode cX12_holds 209 = .ok (.goto 4, 3) := by decide +kernel
theorem dX12_holds_212 : decode cX12_holds 212 = .ok (.iconst 0, 1) := by decide +kernel
theorem dX12_holds_213 : decode cX12_holds 213 = .ok (.ireturn, 1) := by decide +kernel
theorem dX12_asked_0 : decode cX12_asked 0 = .ok (.aload_n 0, 1) := by decide +kernel
theorem dX12_asked_1 : decode cX12_asked 1 = .ok (.getfield 341, 3) := by decide +kernel
theorem dX12_asked_4 : decode cX12_asked 4 = .ok (.ireturn, 1) := by decide +kernel
theorem dX12_parts_0 : decode cX12_parts 0 = .ok (.iload_n 1, 1) := by decide +kernel
theorem dX12_parts_1 : decode cX12_parts 1 = .ok (.bipush 9, 2) := by decide +kernel
theorem dX12_parts_3 : decode cX12_parts 3 = .ok (.if_icmp .ne 26, 3) := by decide +kernel
theorem dX12_parts_6 : decode cX12_parts 6 = .ok (.aload_n 0, 1) := by decide +kernel
theorem dX12_parts_7 : decode cX12_parts 7 = .ok (.getfield 25, 3) := by decide +kernel
theorem dX12_parts_10 : decode cX12_parts 10 = .ok (.iload_n 2, 1) := by decide +kernel
theorem dX12_parts_11 : decode cX12_parts 11 = .ok (.iaload, 1) := by decide +kernel
theorem dX12_parts_12 : decode cX12_parts 12 = .ok (.aload_n 0, 1) := by decide +kernel
theorem dX12_parts_13 : decode cX12_parts 13 = .ok (.getfield 25, 3) := by decide +kernel
theorem dX12_parts_16 : decode cX12_parts 16 = .ok (.iload_n 3, 1) := by decide +kernel
theorem dX12_parts_17 : decode cX12_parts 17 = .ok (.iaload, 1) := by decide +kernel
theorem dX12_parts_18 : decode cX12_parts 18 = .ok (.if_icmp .ne 7, 3) := by decide +kernel
theorem dX12_parts_21 : decode cX12_parts 21 = .ok (.iconst 1, 1) := by decide +kernel
theorem dX12_parts_22 : decode cX12_parts 22 = .ok (.goto 71, 3) := by decide +kernel
theorem dX12_parts_25 : decode cX12_parts 25 = .ok (.iconst 0, 1) := by decide +kernel
theorem dX12_parts_26 : decode cX12_parts 26 = .ok (.goto 67, 3) := by decide +kernel
theorem dX12_parts_29 : decode cX12_parts 29 = .ok (.iload_n 1, 1) := by decide +kernel
theorem dX12_parts_30 : decode cX12_parts 30 = .ok (.bipush 8, 2) := by decide +kernel
theorem dX12_parts_32 : decode cX12_parts 32 = .ok (.if_icmp .ne 26, 3) := by decide +kernel
theorem dX12_parts_35 : decode cX12_parts 35 = .ok (.aload_n 0, 1) := by decide +kernel
theorem dX12_parts_36 : decode cX12_parts 36 = .ok (.aload_n 0, 1) := by decide +kernel
theorem dX12_parts_37 : decode cX12_parts 37 = .ok (.getfield 163, 3) := by decide +kernel
theorem dX12_parts_40 : decode cX12_parts 40 = .ok (.aload_n 0, 1) := by decide +kernel
theorem dX12_parts_41 : decode cX12_parts 41 = .ok (.getfield 25, 3) := by decide +kernel
theorem dX12_parts_44 : decode cX12_parts 44 = .ok (.iload_n 2, 1) := by decide +kernel
theorem dX12_parts_45 : decode cX12_parts 45 = .ok (.iaload, 1) := by decide +kernel
theorem dX12_parts_46 : decode cX12_parts 46 = .ok (.aload_n 0, 1) := by decide +kernel
theorem dX12_parts_47 : decode cX12_parts 47 = .ok (.getfield 25, 3) := by decide +kernel
theorem dX12_parts_50 : decode cX12_parts 50 = .ok (.iload_n 3, 1) := by decide +kernel
theorem dX12_parts_51 : decode cX12_parts 51 = .ok (.iaload, 1) := by decide +kernel
theorem dX12_parts_52 : decode cX12_parts 52 = .ok (.invokevirtual 152, 3) := by decide +kernel
theorem dX12_parts_55 : decode cX12_parts 55 = .ok (.goto 38, 3) := by decide +kernel
theorem dX12_parts_58 : decode cX12_parts 58 = .ok (.aload_n 0, 1) := by decide +kernel
theorem dX12_parts_59 : decode cX12_parts 59 = .ok (.getfield 13, 3) := by decide +kernel
theorem dX12_parts_62 : decode cX12_parts 62 = .ok (.bipush 6, 2) := by decide +kernel
theorem dX12_parts_64 : decode cX12_parts 64 = .ok (.aload_n 0, 1) := by decide +kernel
theorem dX12_parts_65 : decode cX12_parts 65 = .ok (.getfield 163, 3) := by decide +kernel
theorem dX12_parts_68 : decode cX12_parts 68 = .ok (.imul, 1) := by decide +kernel
theorem dX12_parts_69 : decode cX12_parts 69 = .ok (.aload_n 0, 1) := by decide +kernel
theorem dX12_parts_70 : decode cX12_parts 70 = .ok (.getfield 25, 3) := by decide +kernel
theorem dX12_parts_73 : decode cX12_parts 73 = .ok (.iload_n 2, 1) := by decide +kernel
theorem dX12_parts_74 : decode cX12_parts 74 = .ok (.iaload, 1) := by decide +kernel
theorem dX12_parts_75 : decode cX12_parts 75 = .ok (.iadd, 1) := by decide +kernel
theorem dX12_parts_76 : decode cX12_parts 76 = .ok (.iaload, 1) := by decide +kernel
theorem dX12_parts_77 : decode cX12_parts 77 = .ok (.iload_n 1, 1) := by decide +kernel
theorem dX12_parts_78 : decode cX12_parts 78 = .ok (.bipush 6, 2) := by decide +kernel
theorem dX12_parts_80 : decode cX12_parts 80 = .ok (.isub, 1) := by decide +kernel
theorem dX12_parts_81 : decode cX12_parts 81 = .ok (.ishr, 1) := by decide +kernel
theorem dX12_parts_82 : decode cX12_parts 82 = .ok (.iconst 1, 1) := by decide +kernel
theorem dX12_parts_83 : decode cX12_parts 83 = .ok (.iand, 1) := by decide +kernel
theorem dX12_parts_84 : decode cX12_parts 84 = .ok (.iconst 1, 1) := by decide +kernel
theorem dX12_parts_85 : decode cX12_parts 85 = .ok (.if_icmp .ne 7, 3) := by decide +kernel
theorem dX12_parts_88 : decode cX12_parts 88 = .ok (.iconst 1, 1) := by decide +kernel
theorem dX12_parts_89 : decode cX12_parts 89 = .ok (.goto 4, 3) := by decide +kernel
theorem dX12_parts_92 : decode cX12_parts 92 = .ok (.iconst 0, 1) := by decide +kernel
theorem dX12_parts_93 : decode cX12_parts 93 = .ok (.istore 4, 2) := by decide +kernel
theorem dX12_parts_95 : decode cX12_parts 95 = .ok (.iload_n 1, 1) := by decide +kernel
theorem dX12_parts_96 : decode cX12_parts 96 = .ok (.bipush 9, 2) := by decide +kernel
theorem dX12_parts_98 : decode cX12_parts 98 = .ok (.if_icmp .ne 26, 3) := by decide +kernel
theorem dX12_parts_101 : decode cX12_parts 101 = .ok (.aload_n 0, 1) := by decide +kernel
theorem dX12_parts_102 : decode cX12_parts 102 = .ok (.getfield 28, 3) := by decide +kernel
theorem dX12_parts_105 : decode cX12_parts 105 = .ok (.iload_n 2, 1) := by decide +kernel
theorem dX12_parts_106 : decode cX12_parts 106 = .ok (.iaload, 1) := by decide +kernel
theorem dX12_parts_107 : decode cX12_parts 107 = .ok (.aload_n 0, 1) := by decide +kernel
theorem dX12_parts_108 : decode cX12_parts 108 = .ok (.getfield 28, 3) := by decide +kernel
theorem dX12_parts_111 : decode cX12_parts 111 = .ok (.iload_n 3, 1) := by decide +kernel
theorem dX12_parts_112 : decode cX12_parts 112 = .ok (.iaload, 1) := by decide +kernel
theorem dX12_parts_113 : decode cX12_parts 113 = .ok (.if_icmp .ne 7, 3) := by decide +kernel
theorem dX12_parts_116 : decode cX12_parts 116 = .ok (.iconst 1, 1) := by decide +kernel
theorem dX12_parts_117 : decode cX12_parts 117 = .ok (.goto 71, 3) := by decide +kernel
theorem dX12_parts_120 : decode cX12_parts 120 = .ok (.iconst 0, 1) := by decide +kernel
theorem dX12_parts_121 : decode cX12_parts 121 = .ok (.goto 67, 3) := by decide +kernel
theorem dX12_parts_124 : decode cX12_parts 124 = .ok (.iload_n 1, 1) := by decide +kernel
theorem dX12_parts_125 : decode cX12_parts 125 = .ok (.bipush 8, 2) := by decide +kernel
theorem dX12_parts_127 : decode cX12_parts 127 = .ok (.if_icmp .ne 26, 3) := by decide +kernel
theorem dX12_parts_130 : decode cX12_parts 130 = .ok (.aload_n 0, 1) := by decide +kernel
theorem dX12_parts_131 : decode cX12_parts 131 = .ok (.aload_n 0, 1) := by decide +kernel
theorem dX12_parts_132 : decode cX12_parts 132 = .ok (.getfield 166, 3) := by decide +kernel
theorem dX12_parts_135 : decode cX12_parts 135 = .ok (.aload_n 0, 1) := by decide +kernel
theorem dX12_parts_136 : decode cX12_parts 136 = .ok (.getfield 28, 3) := by decide +kernel
theorem dX12_parts_139 : decode cX12_parts 139 = .ok (.iload_n 2, 1) := by decide +kernel
theorem dX12_parts_140 : decode cX12_parts 140 = .ok (.iaload, 1) := by decide +kernel
theorem dX12_parts_141 : decode cX12_parts 141 = .ok (.aload_n 0, 1) := by decide +kernel
theorem dX12_parts_142 : decode cX12_parts 142 = .ok (.getfield 28, 3) := by decide +kernel
theorem dX12_parts_145 : decode cX12_parts 145 = .ok (.iload_n 3, 1) := by decide +kernel
theorem dX12_parts_146 : decode cX12_parts 146 = .ok (.iaload, 1) := by decide +kernel
theorem dX12_parts_147 : decode cX12_parts 147 = .ok (.invokevirtual 152, 3) := by decide +kernel
theorem dX12_parts_150 : decode cX12_parts 150 = .ok (.goto 38, 3) := by decide +kernel
theorem dX12_parts_153 : decode cX12_parts 153 = .ok (.aload_n 0, 1) := by decide +kernel
theorem dX12_parts_154 : decode cX12_parts 154 = .ok (.getfield 13, 3) := by decide +kernel
theorem dX12_parts_157 : decode cX12_parts 157 = .ok (.bipush 6, 2) := by decide +kernel
theorem dX12_parts_159 : decode cX12_parts 159 = .ok (.aload_n 0, 1) := by decide +kernel
theorem dX12_parts_160 : decode cX12_parts 160 = .ok (.getfield 166, 3) := by decide +kernel
theorem dX12_parts_163 : decode cX12_parts 163 = .ok (.imul, 1) := by decide +kernel
theorem dX12_parts_164 : decode cX12_parts 164 = .ok (.aload_n 0, 1) := by decide +kernel
theorem dX12_parts_165 : decode cX12_parts 165 = .ok (.getfield 28, 3) := by decide +kernel
theorem dX12_parts_168 : decode cX12_parts 168 = .ok (.iload_n 2, 1) := by decide +kernel
theorem dX12_parts_169 : decode cX12_parts 169 = .ok (.iaload, 1) := by decide +kernel
theorem dX12_parts_170 : decode cX12_parts 170 = .ok (.iadd, 1) := by decide +kernel
theorem dX12_parts_171 : decode cX12_parts 171 = .ok (.iaload, 1) := by decide +kernel
theorem dX12_parts_172 : decode cX12_parts 172 = .ok (.iload_n 1, 1) := by decide +kernel
theorem dX12_parts_173 : decode cX12_parts 173 = .ok (.bipush 6, 2) := by decide +kernel
theorem dX12_parts_175 : decode cX12_parts 175 = .ok (.isub, 1) := by decide +kernel
theorem dX12_parts_176 : decode cX12_parts 176 = .ok (.ishr, 1) := by decide +kernel
theorem dX12_parts_177 : decode cX12_parts 177 = .ok (.iconst 1, 1) := by decide +kernel
theorem dX12_parts_178 : decode cX12_parts 178 = .ok (.iand, 1) := by decide +kernel
theorem dX12_parts_179 : decode cX12_parts 179 = .ok (.iconst 1, 1) := by decide +kernel
theorem dX12_parts_180 : decode cX12_parts 180 = .ok (.if_icmp .ne 7, 3) := by decide +kernel
theorem dX12_parts_183 : decode cX12_parts 183 = .ok (.iconst 1, 1) := by decide +kernel
theorem dX12_parts_184 : decode cX12_parts 184 = .ok (.goto 4, 3) := by decide +kernel
theorem dX12_parts_187 : decode cX12_parts 187 = .ok (.iconst 0, 1) := by decide +kernel
theorem dX12_parts_188 : decode cX12_parts 188 = .ok (.istore 5, 2) := by decide +kernel
theorem dX12_parts_190 : decode cX12_parts 190 = .ok (.iload 4, 2) := by decide +kernel
theorem dX12_parts_192 : decode cX12_parts 192 = .ok (.iload 5, 2) := by decide +kernel
theorem dX12_parts_194 : decode cX12_parts 194 = .ok (.if_icmp .ne 5, 3) := by decide +kernel
theorem dX12_parts_197 : decode cX12_parts 197 = .ok (.iconst 0, 1) := by decide +kernel
theorem dX12_parts_198 : decode cX12_parts 198 = .ok (.ireturn, 1) := by decide +kernel
theorem dX12_parts_199 : decode cX12_parts 199 = .ok (.iload 4, 2) := by decide +kernel
theorem dX12_parts_201 : decode cX12_parts 201 = .ok (.ifCond .ne 10, 3) := by decide +kernel
theorem dX12_parts_204 : decode cX12_parts 204 = .ok (.aload_n 0, 1) := by decide +kernel
theorem dX12_parts_205 : decode cX12_parts 205 = .ok (.iconst 1, 1) := by decide +kernel
theorem dX12_parts_206 : decode cX12_parts 206 = .ok (.iconst 0, 1) := by decide +kernel
theorem dX12_parts_207 : decode cX12_parts 207 = .ok (.iconst 0, 1) := by decide +kernel
theorem dX12_parts_208 : decode cX12_parts 208 = .ok (.invokevirtual 262, 3) := by decide +kernel
theorem dX12_parts_211 : decode cX12_parts 211 = .ok (.aload_n 0, 1) := by decide +kernel
theorem dX12_parts_212 : decode cX12_parts 212 = .ok (.iload_n 1, 1) := by decide +kernel
theorem dX12_parts_213 : decode cX12_parts 213 = .ok (.iload_n 2, 1) := by decide +kernel
theorem dX12_parts_214 : decode cX12_parts 214 = .ok (.iload_n 1, 1) := by decide +kernel
theorem dX12_parts_215 : decode cX12_parts 215 = .ok (.bipush 9, 2) := by decide +kernel
theorem dX12_parts_217 : decode cX12_parts 217 = .ok (.if_icmp .eq 9, 3) := by decide +kernel
theorem dX12_parts_220 : decode cX12_parts 220 = .ok (.iload_n 1, 1) := by decide +kernel
theorem dX12_parts_221 : decode cX12_parts 221 = .ok (.bipush 8, 2) := by decide +kernel
theorem dX12_parts_223 : decode cX12_parts 223 = .ok (.if_icmp .ne 7, 3) := by decide +kernel
theorem dX12_parts_226 : decode cX12_parts 226 = .ok (.iload_n 3, 1) := by decide +kernel
theorem dX12_parts_227 : decode cX12_parts 227 = .ok (.goto 4, 3) := by decide +kernel
theorem dX12_parts_230 : decode cX12_parts 230 = .ok (.iconst 0, 1) := by decide +kernel
theorem dX12_parts_231 : decode cX12_parts 231 = .ok (.invokevirtual 262, 3) := by decide +kernel
theorem dX12_parts_234 : decode cX12_parts 234 = .ok (.iconst 1, 1) := by decide +kernel
theorem dX12_parts_235 : decode cX12_parts 235 = .ok (.ireturn, 1) := by decide +kernel
theorem dX12_partAtom_0 : decode cX12_partAtom 0 = .ok (.iconst 0, 1) := by decide +kernel
theorem dX12_partAtom_1 : decode cX12_partAtom 1 = .ok (.istore_n 1, 1) := by decide +kernel
theorem dX12_partAtom_2 : decode cX12_partAtom 2 = .ok (.iload_n 1, 1) := by decide +kernel
theorem dX12_partAtom_3 : decode cX12_partAtom 3 = .ok (.aload_n 0, 1) := by decide +kernel
theorem dX12_partAtom_4 : decode cX12_partAtom 4 = .ok (.getfield 169, 3) := by decide +kernel
theorem dX12_partAtom_7 : decode cX12_partAtom 7 = .ok (.if_icmp .ge 98, 3) := by decide +kernel
theorem dX12_partAtom_10 : decode cX12_partAtom 10 = .ok (.iconst 0, 1) := by decide +kernel
theorem dX12_partAtom_11 : decode cX12_partAtom 11 = .ok (.istore_n 2, 1) := by decide +kernel
theorem dX12_partAtom_12 : decode cX12_partAtom 12 = .ok (.iload_n 2, 1) := by decide +kernel
theorem dX12_partAtom_13 : decode cX12_partAtom 13 = .ok (.iload_n 1, 1) := by decide +kernel
theorem dX12_partAtom_14 : decode cX12_partAtom 14 = .ok (.if_icmp .ge 21, 3) := by decide +kernel
theorem dX12_partAtom_17 : decode cX12_partAtom 17 = .ok (.aload_n 0, 1) := by decide +kernel
theorem dX12_partAtom_18 : decode cX12_partAtom 18 = .ok (.bipush 9, 2) := by decide +kernel
theorem dX12_partAtom_20 : decode cX12_partAtom 20 = .ok (.iload_n 2, 1) := by decide +kernel
theorem dX12_partAtom_21 : decode cX12_partAtom 21 = .ok (.iload_n 1, 1) := by decide +kernel
theorem dX12_partAtom_22 : decode cX12_partAtom 22 = .ok (.invokevirtual 344, 3) := by decide +kernel
theorem dX12_partAtom_25 : decode cX12_partAtom 25 = .ok (.ifCond .eq 4, 3) := by decide +kernel
theorem dX12_partAtom_28 : decode cX12_partAtom 28 = .ok (.return_, 1) := by decide +kernel
theorem dX12_partAtom_29 : decode cX12_partAtom 29 = .ok (.iinc 2 1, 3) := by decide +kernel
theorem dX12_partAtom_32 : decode cX12_partAtom 32 = .ok (.goto (-20), 3) := by decide +kernel
theorem dX12_partAtom_35 : decode cX12_partAtom 35 = .ok (.aload_n 0, 1) := by decide +kernel
theorem dX12_partAtom_36 : decode cX12_partAtom 36 = .ok (.bipush 6, 2) := by decide +kernel
