theorem dX12_partAtom_38 : decode cX12_partAtom 38 = .ok (.iload_n 1, 1) := by decide +kernel
theorem dX12_partAtom_39 : decode cX12_partAtom 39 = .ok (.iload_n 1, 1) := by decide +kernel
theorem dX12_partAtom_40 : decode cX12_partAtom 40 = .ok (.invokevirtual 344, 3) := by decide +kernel
theorem dX12_partAtom_43 : decode cX12_partAtom 43 = .ok (.ifCond .ne 14, 3) := by decide +kernel
theorem dX12_partAtom_46 : decode cX12_partAtom 46 = .ok (.aload_n 0, 1) := by decide +kernel
theorem dX12_partAtom_47 : decode cX12_partAtom 47 = .ok (.bipush 7, 2) := by decide +kernel
theorem dX12_partAtom_49 : decode cX12_partAtom 49 = .ok (.iload_n 1, 1) := by decide +kernel
theorem dX12_partAtom_50 : decode cX12_partAtom 50 = .ok (.iload_n 1, 1) := by decide +kernel
theorem dX12_partAtom_51 : decode cX12_partAtom 51 = .ok (.invokevirtual 344, 3) := by decide +kernel
theorem dX12_partAtom_54 : decode cX12_partAtom 54 = .ok (.ifCond .eq 4, 3) := by decide +kernel
theorem dX12_partAtom_57 : decode cX12_partAtom 57 = .ok (.return_, 1) := by decide +kernel
theorem dX12_partAtom_58 : decode cX12_partAtom 58 = .ok (.iconst 0, 1) := by decide +kernel
theorem dX12_partAtom_59 : decode cX12_partAtom 59 = .ok (.istore_n 2, 1) := by decide +kernel
theorem dX12_partAtom_60 : decode cX12_partAtom 60 = .ok (.iload_n 2, 1) := by decide +kernel
theorem dX12_partAtom_61 : decode cX12_partAtom 61 = .ok (.iload_n 1, 1) := by decide +kernel
theorem dX12_partAtom_62 : decode cX12_partAtom 62 = .ok (.if_icmp .gt 37, 3) := by decide +kernel
theorem dX12_partAtom_65 : decode cX12_partAtom 65 = .ok (.aload_n 0, 1) := by decide +kernel
theorem dX12_partAtom_66 : decode cX12_partAtom 66 = .ok (.bipush 8, 2) := by decide +kernel
theorem dX12_partAtom_68 : decode cX12_partAtom 68 = .ok (.iload_n 2, 1) := by decide +kernel
theorem dX12_partAtom_69 : decode cX12_partAtom 69 = .ok (.iload_n 1, 1) := by decide +kernel
theorem dX12_partAtom_70 : decode cX12_partAtom 70 = .ok (.invokevirtual 344, 3) := by decide +kernel
theorem dX12_partAtom_73 : decode cX12_partAtom 73 = .ok (.ifCond .ne 19, 3) := by decide +kernel
theorem dX12_partAtom_76 : decode cX12_partAtom 76 = .ok (.iload_n 2, 1) := by decide +kernel
theorem dX12_partAtom_77 : decode cX12_partAtom 77 = .ok (.iload_n 1, 1) := by decide +kernel
theorem dX12_partAtom_78 : decode cX12_partAtom 78 = .ok (.if_icmp .ge 15, 3) := by decide +kernel
theorem dX12_partAtom_81 : decode cX12_partAtom 81 = .ok (.aload_n 0, 1) := by decide +kernel
theorem dX12_partAtom_82 : decode cX12_partAtom 82 = .ok (.bipush 8, 2) := by decide +kernel
theorem dX12_partAtom_84 : decode cX12_partAtom 84 = .ok (.iload_n 1, 1) := by decide +kernel
theorem dX12_partAtom_85 : decode cX12_partAtom 85 = .ok (.iload_n 2, 1) := by decide +kernel
theorem dX12_partAtom_86 : decode cX12_partAtom 86 = .ok (.invokevirtual 344, 3) := by decide +kernel
theorem dX12_partAtom_89 : decode cX12_partAtom 89 = .ok (.ifCond .eq 4, 3) := by decide +kernel
theorem dX12_partAtom_92 : decode cX12_partAtom 92 = .ok (.return_, 1) := by decide +kernel
theorem dX12_partAtom_93 : decode cX12_partAtom 93 = .ok (.iinc 2 1, 3) := by decide +kernel
theorem dX12_partAtom_96 : decode cX12_partAtom 96 = .ok (.goto (-36), 3) := by decide +kernel
theorem dX12_partAtom_99 : decode cX12_partAtom 99 = .ok (.iinc 1 1, 3) := by decide +kernel
theorem dX12_partAtom_102 : decode cX12_partAtom 102 = .ok (.goto (-100), 3) := by decide +kernel
theorem dX12_partAtom_105 : decode cX12_partAtom 105 = .ok (.return_, 1) := by decide +kernel
theorem dX12_swapRows_0 : decode cX12_swapRows 0 = .ok (.aload_n 0, 1) := by decide +kernel
theorem dX12_swapRows_1 : decode cX12_swapRows 1 = .ok (.getfield 163, 3) := by decide +kernel
theorem dX12_swapRows_4 : decode cX12_swapRows 4 = .ok (.istore_n 1, 1) := by decide +kernel
theorem dX12_swapRows_5 : decode cX12_swapRows 5 = .ok (.aload_n 0, 1) := by decide +kernel
theorem dX12_swapRows_6 : decode cX12_swapRows 6 = .ok (.aload_n 0, 1) := by decide +kernel
theorem dX12_swapRows_7 : decode cX12_swapRows 7 = .ok (.getfield 166, 3) := by decide +kernel
theorem dX12_swapRows_10 : decode cX12_swapRows 10 = .ok (.putfield 163, 3) := by decide +kernel
theorem dX12_swapRows_13 : decode cX12_swapRows 13 = .ok (.aload_n 0, 1) := by decide +kernel
theorem dX12_swapRows_14 : decode cX12_swapRows 14 = .ok (.iload_n 1, 1) := by decide +kernel
theorem dX12_swapRows_15 : decode cX12_swapRows 15 = .ok (.putfield 166, 3) := by decide +kernel
theorem dX12_swapRows_18 : decode cX12_swapRows 18 = .ok (.iconst 0, 1) := by decide +kernel
theorem dX12_swapRows_19 : decode cX12_swapRows 19 = .ok (.istore_n 2, 1) := by decide +kernel
theorem dX12_swapRows_20 : decode cX12_swapRows 20 = .ok (.iload_n 2, 1) := by decide +kernel
theorem dX12_swapRows_21 : decode cX12_swapRows 21 = .ok (.aload_n 0, 1) := by decide +kernel
theorem dX12_swapRows_22 : decode cX12_swapRows 22 = .ok (.getfield 169, 3) := by decide +kernel
theorem dX12_swapRows_25 : decode cX12_swapRows 25 = .ok (.if_icmp .ge 35, 3) := by decide +kernel
theorem dX12_swapRows_28 : decode cX12_swapRows 28 = .ok (.aload_n 0, 1) := by decide +kernel
theorem dX12_swapRows_29 : decode cX12_swapRows 29 = .ok (.getfield 25, 3) := by decide +kernel
theorem dX12_swapRows_32 : decode cX12_swapRows 32 = .ok (.iload_n 2, 1) := by decide +kernel
theorem dX12_swapRows_33 : decode cX12_swapRows 33 = .ok (.iaload, 1) := by decide +kernel
theorem dX12_swapRows_34 : decode cX12_swapRows 34 = .ok (.istore_n 3, 1) := by decide +kernel
theorem dX12_swapRows_35 : decode cX12_swapRows 35 = .ok (.aload_n 0, 1) := by decide +kernel
theorem dX12_swapRows_36 : decode cX12_swapRows 36 = .ok (.getfield 25, 3) := by decide +kernel
theorem dX12_swapRows_39 : decode cX12_swapRows 39 = .ok (.iload_n 2, 1) := by decide +kernel
theorem dX12_swapRows_40 : decode cX12_swapRows 40 = .ok (.aload_n 0, 1) := by decide +kernel
theorem dX12_swapRows_41 : decode cX12_swapRows 41 = .ok (.getfield 28, 3) := by decide +kernel
theorem dX12_swapRows_44 : decode cX12_swapRows 44 = .ok (.iload_n 2, 1) := by decide +kernel
theorem dX12_swapRows_45 : decode cX12_swapRows 45 = .ok (.iaload, 1) := by decide +kernel
theorem dX12_swapRows_46 : decode cX12_swapRows 46 = .ok (.iastore, 1) := by decide +kernel
theorem dX12_swapRows_47 : decode cX12_swapRows 47 = .ok (.aload_n 0, 1) := by decide +kernel
theorem dX12_swapRows_48 : decode cX12_swapRows 48 = .ok (.getfield 28, 3) := by decide +kernel
theorem dX12_swapRows_51 : decode cX12_swapRows 51 = .ok (.iload_n 2, 1) := by decide +kernel
theorem dX12_swapRows_52 : decode cX12_swapRows 52 = .ok (.iload_n 3, 1) := by decide +kernel
theorem dX12_swapRows_53 : decode cX12_swapRows 53 = .ok (.iastore, 1) := by decide +kernel
theorem dX12_swapRows_54 : decode cX12_swapRows 54 = .ok (.iinc 2 1, 3) := by decide +kernel
theorem dX12_swapRows_57 : decode cX12_swapRows 57 = .ok (.goto (-37), 3) := by decide +kernel
theorem dX12_swapRows_60 : decode cX12_swapRows 60 = .ok (.return_, 1) := by decide +kernel
theorem dX12_winning_0 : decode cX12_winning 0 = .ok (.iconst 0, 1) := by decide +kernel
theorem dX12_winning_1 : decode cX12_winning 1 = .ok (.istore_n 2, 1) := by decide +kernel
theorem dX12_winning_2 : decode cX12_winning 2 = .ok (.iload_n 2, 1) := by decide +kernel
theorem dX12_winning_3 : decode cX12_winning 3 = .ok (.iconst 2, 1) := by decide +kernel
theorem dX12_winning_4 : decode cX12_winning 4 = .ok (.if_icmp .ge 45, 3) := by decide +kernel
theorem dX12_winning_7 : decode cX12_winning 7 = .ok (.iconst 0, 1) := by decide +kernel
theorem dX12_winning_8 : decode cX12_winning 8 = .ok (.istore_n 3, 1) := by decide +kernel
theorem dX12_winning_9 : decode cX12_winning 9 = .ok (.iload_n 3, 1) := by decide +kernel
theorem dX12_winning_10 : decode cX12_winning 10 = .ok (.aload_n 0, 1) := by decide +kernel
theorem dX12_winning_11 : decode cX12_winning 11 = .ok (.iload_n 2, 1) := by decide +kernel
theorem dX12_winning_12 : decode cX12_winning 12 = .ok (.invokevirtual 182, 3) := by decide +kernel
theorem dX12_winning_15 : decode cX12_winning 15 = .ok (.if_icmp .ge 28, 3) := by decide +kernel
theorem dX12_winning_18 : decode cX12_winning 18 = .ok (.aload_n 0, 1) := by decide +kernel
theorem dX12_winning_19 : decode cX12_winning 19 = .ok (.iload_n 2, 1) := by decide +kernel
theorem dX12_winning_20 : decode cX12_winning 20 = .ok (.iload_n 3, 1) := by decide +kernel
theorem dX12_winning_21 : decode cX12_winning 21 = .ok (.iload_n 1, 1) := by decide +kernel
theorem dX12_winning_22 : decode cX12_winning 22 = .ok (.iconst 1, 1) := by decide +kernel
theorem dX12_winning_23 : decode cX12_winning 23 = .ok (.isub, 1) := by decide +kernel
theorem dX12_winning_24 : decode cX12_winning 24 = .ok (.invokevirtual 228, 3) := by decide +kernel
theorem dX12_winning_27 : decode cX12_winning 27 = .ok (.ifCond .ge 10, 3) := by decide +kernel
theorem dX12_winning_30 : decode cX12_winning 30 = .ok (.bipush 10, 2) := by decide +kernel
theorem dX12_winning_32 : decode cX12_winning 32 = .ok (.iload_n 2, 1) := by decide +kernel
theorem dX12_winning_33 : decode cX12_winning 33 = .ok (.imul, 1) := by decide +kernel
theorem dX12_winning_34 : decode cX12_winning 34 = .ok (.iload_n 3, 1) := by decide +kernel
theorem dX12_winning_35 : decode cX12_winning 35 = .ok (.iadd, 1) := by decide +kernel
theorem dX12_winning_36 : decode cX12_winning 36 = .ok (.ireturn, 1) := by decide +kernel
theorem dX12_winning_37 : decode cX12_winning 37 = .ok (.iinc 3 1, 3) := by decide +kernel
theorem dX12_winning_40 : decode cX12_winning 40 = .ok (.goto (-31), 3) := by decide +kernel
theorem dX12_winning_43 : decode cX12_winning 43 = .ok (.iinc 2 1, 3) := by decide +kernel
theorem dX12_winning_46 : decode cX12_winning 46 = .ok (.goto (-44), 3) := by decide +kernel
theorem dX12_winning_49 : decode cX12_winning 49 = .ok (.iconst (-1), 1) := by decide +kernel
theorem dX12_winning_50 : decode cX12_winning 50 = .ok (.ireturn, 1) := by decide +kernel
theorem dX12_keepUnlike_0 : decode cX12_keepUnlike 0 = .ok (.iload_n 1, 1) := by decide +kernel
theorem dX12_keepUnlike_1 : decode cX12_keepUnlike 1 = .ok (.istore 4, 2) := by decide +kernel
theorem dX12_keepUnlike_3 : decode cX12_keepUnlike 3 = .ok (.iconst 0, 1) := by decide +kernel
theorem dX12_keepUnlike_4 : decode cX12_keepUnlike 4 = .ok (.istore 5, 2) := by decide +kernel
theorem dX12_keepUnlike_6 : decode cX12_keepUnlike 6 = .ok (.iload 5, 2) := by decide +kernel
theorem dX12_keepUnlike_8 : decode cX12_keepUnlike 8 = .ok (.iload_n 3, 1) := by decide +kernel
theorem dX12_keepUnlike_9 : decode cX12_keepUnlike 9 = .ok (.if_icmp .ge 152, 3) := by decide +kernel
theorem dX12_keepUnlike_12 : decode cX12_keepUnlike 12 = .ok (.aload_n 0, 1) := by decide +kernel
theorem dX12_keepUnlike_13 : decode cX12_keepUnlike 13 = .ok (.iload 4, 2) := by decide +kernel
theorem dX12_keepUnlike_15 : decode cX12_keepUnlike 15 = .ok (.invokevirtual 347, 3) := by decide +kernel
theorem dX12_keepUnlike_18 : decode cX12_keepUnlike 18 = .ok (.istore 6, 2) := by decide +kernel
theorem dX12_keepUnlike_20 : decode cX12_keepUnlike 20 = .ok (.iload 6, 2) := by decide +kernel
theorem dX12_keepUnlike_22 : decode cX12_keepUnlike 22 = .ok (.iload 4, 2) := by decide +kernel
theorem dX12_keepUnlike_24 : decode cX12_keepUnlike 24 = .ok (.isub, 1) := by decide +kernel
theorem dX12_keepUnlike_25 : decode cX12_keepUnlike 25 = .ok (.aload_n 0, 1) := by decide +kernel
theorem dX12_keepUnlike_26 : decode cX12_keepUnlike 26 = .ok (.getfield 234, 3) := by decide +kernel
theorem dX12_keepUnlike_29 : decode cX12_keepUnlike 29 = .ok (.iload_n 2, 1) := by decide +kernel
theorem dX12_keepUnlike_30 : decode cX12_keepUnlike 30 = .ok (.isub, 1) := by decide +kernel
theorem dX12_keepUnlike_31 : decode cX12_keepUnlike 31 = .ok (.if_icmp .ne 7, 3) := by decide +kernel
theorem dX12_keepUnlike_34 : decode cX12_keepUnlike 34 = .ok (.iconst 1, 1) := by decide +kernel
theorem dX12_keepUnlike_35 : decode cX12_keepUnlike 35 = .ok (.goto 4, 3) := by decide +kernel
theorem dX12_keepUnlike_38 : decode cX12_keepUnlike 38 = .ok (.iconst 0, 1) := by decide +kernel
theorem dX12_keepUnlike_39 : decode cX12_keepUnlike 39 = .ok (.istore 7, 2) := by decide +kernel
theorem dX12_keepUnlike_41 : decode cX12_keepUnlike 41 = .ok (.iconst 0, 1) := by decide +kernel
theorem dX12_keepUnlike_42 : decode cX12_keepUnlike 42 = .ok (.istore 8, 2) := by decide +kernel
theorem dX12_keepUnlike_44 : decode cX12_keepUnlike 44 = .ok (.iload 8, 2) := by decide +kernel
theorem dX12_keepUnlike_46 : decode cX12_keepUnlike 46 = .ok (.aload_n 0, 1) := by decide +kernel
theorem dX12_keepUnlike_47 : decode cX12_keepUnlike 47 = .ok (.getfield 234, 3) := by decide +kernel
theorem dX12_keepUnlike_50 : decode cX12_keepUnlike 50 = .ok (.iload_n 2, 1) := by decide +kernel
theorem dX12_keepUnlike_51 : decode cX12_keepUnlike 51 = .ok (.isub, 1) := by decide +kernel
theorem dX12_keepUnlike_52 : decode cX12_keepUnlike 52 = .ok (.if_icmp .ge 87, 3) := by decide +kernel
theorem dX12_keepUnlike_55 : decode cX12_keepUnlike 55 = .ok (.iload 7, 2) := by decide +kernel
theorem dX12_keepUnlike_57 : decode cX12_keepUnlike 57 = .ok (.ifCond .eq 82, 3) := by decide +kernel
theorem dX12_keepUnlike_60 : decode cX12_keepUnlike 60 = .ok (.aload_n 0, 1) := by decide +kernel
theorem dX12_keepUnlike_61 : decode cX12_keepUnlike 61 = .ok (.getfield 53, 3) := by decide +kernel
theorem dX12_keepUnlike_64 : decode cX12_keepUnlike 64 = .ok (.iload 4, 2) := by decide +kernel
theorem dX12_keepUnlike_66 : decode cX12_keepUnlike 66 = .ok (.iload 8, 2) := by decide +kernel
theorem dX12_keepUnlike_68 : decode cX12_keepUnlike 68 = .ok (.iadd, 1) := by decide +kernel
theorem dX12_keepUnlike_69 : decode cX12_keepUnlike 69 = .ok (.baload, 1) := by decide +kernel
theorem dX12_keepUnlike_70 : decode cX12_keepUnlike 70 = .ok (.aload_n 0, 1) := by decide +kernel
theorem dX12_keepUnlike_71 : decode cX12_keepUnlike 71 = .ok (.getfield 53, 3) := by decide +kernel
theorem dX12_keepUnlike_74 : decode cX12_keepUnlike 74 = .ok (.iload_n 2, 1) := by decide +kernel
theorem dX12_keepUnlike_75 : decode cX12_keepUnlike 75 = .ok (.iload 8, 2) := by decide +kernel
theorem dX12_keepUnlike_77 : decode cX12_keepUnlike 77 = .ok (.iadd, 1) := by decide +kernel
theorem dX12_keepUnlike_78 : decode cX12_keepUnlike 78 = .ok (.baload, 1) := by decide +kernel
theorem dX12_keepUnlike_79 : decode cX12_keepUnlike 79 = .ok (.if_icmp .ne 51, 3) := by decide +kernel
theorem dX12_keepUnlike_82 : decode cX12_keepUnlike 82 = .ok (.aload_n 0, 1) := by decide +kernel
theorem dX12_keepUnlike_83 : decode cX12_keepUnlike 83 = .ok (.getfield 56, 3) := by decide +kernel
theorem dX12_keepUnlike_86 : decode cX12_keepUnlike 86 = .ok (.iload 4, 2) := by decide +kernel
theorem dX12_keepUnlike_88 : decode cX12_keepUnlike 88 = .ok (.iload 8, 2) := by decide +kernel
theorem dX12_keepUnlike_90 : decode cX12_keepUnlike 90 = .ok (.iadd, 1) := by decide +kernel
theorem dX12_keepUnlike_91 : decode cX12_keepUnlike 91 = .ok (.iaload, 1) := by decide +kernel
theorem dX12_keepUnlike_92 : decode cX12_keepUnlike 92 = .ok (.aload_n 0, 1) := by decide +kernel
theorem dX12_keepUnlike_93 : decode cX12_keepUnlike 93 = .ok (.getfield 56, 3) := by decide +kernel
theorem dX12_keepUnlike_96 : decode cX12_keepUnlike 96 = .ok (.iload_n 2, 1) := by decide +kernel
theorem dX12_keepUnlike_97 : decode cX12_keepUnlike 97 = .ok (.iload 8, 2) := by decide +kernel
theorem dX12_keepUnlike_99 : decode cX12_keepUnlike 99 = .ok (.iadd, 1) := by decide +kernel
theorem dX12_keepUnlike_100 : decode cX12_keepUnlike 100 = .ok (.iaload, 1) := by decide +kernel
theorem dX12_keepUnlike_101 : decode cX12_keepUnlike 101 = .ok (.if_icmp .ne 29, 3) := by decide +kernel
theorem dX12_keepUnlike_104 : decode cX12_keepUnlike 104 = .ok (.aload_n 0, 1) := by decide +kernel
theorem dX12_keepUnlike_105 : decode cX12_keepUnlike 105 = .ok (.getfield 59, 3) := by decide +kernel
theorem dX12_keepUnlike_108 : decode cX12_keepUnlike 108 = .ok (.iload 4, 2) := by decide +kernel
theorem dX12_keepUnlike_110 : decode cX12_keepUnlike 110 = .ok (.iload 8, 2) := by decide +kernel
theorem dX12_keepUnlike_112 : decode cX12_keepUnlike 112 = .ok (.iadd, 1) := by decide +kernel
theorem dX12_keepUnlike_113 : decode cX12_keepUnlike 113 = .ok (.baload, 1) := by decide +kernel
theorem dX12_keepUnlike_114 : decode cX12_keepUnlike 114 = .ok (.aload_n 0, 1) := by decide +kernel
theorem dX12_keepUnlike_115 : decode cX12_keepUnlike 115 = .ok (.getfield 59, 3) := by decide +kernel
theorem dX12_keepUnlike_118 : decode cX12_keepUnlike 118 = .ok (.iload_n 2, 1) := by decide +kernel
theorem dX12_keepUnlike_119 : decode cX12_keepUnlike 119 = .ok (.iload 8, 2) := by decide +kernel
theorem dX12_keepUnlike_121 : decode cX12_keepUnlike 121 = .ok (.iadd, 1) := by decide +kernel
theorem dX12_keepUnlike_122 : decode cX12_keepUnlike 122 = .ok (.baload, 1) := by decide +kernel
theorem dX12_keepUnlike_123 : decode cX12_keepUnlike 123 = .ok (.if_icmp .ne 7, 3) := by decide +kernel
theorem dX12_keepUnlike_126 : decode cX12_keepUnlike 126 = .ok (.iconst 1, 1) := by decide +kernel
theorem dX12_keepUnlike_127 : decode cX12_keepUnlike 127 = .ok (.goto 4, 3) := by decide +kernel
theorem dX12_keepUnlike_130 : decode cX12_keepUnlike 130 = .ok (.iconst 0, 1) := by decide +kernel
theorem dX12_keepUnlike_131 : decode cX12_keepUnlike 131 = .ok (.istore 7, 2) := by decide +kernel
theorem dX12_keepUnlike_133 : decode cX12_keepUnlike 133 = .ok (.iinc 8 1, 3) := by decide +kernel
theorem dX12_keepUnlike_136 : decode cX12_keepUnlike 136 = .ok (.goto (-92), 3) := by decide +kernel
theorem dX12_keepUnlike_139 : decode cX12_keepUnlike 139 = .ok (.iload 7, 2) := by decide +kernel
theorem dX12_keepUnlike_141 : decode cX12_keepUnlike 141 = .ok (.ifCond .eq 10, 3) := by decide +kernel
theorem dX12_keepUnlike_144 : decode cX12_keepUnlike 144 = .ok (.aload_n 0, 1) := by decide +kernel
theorem dX12_keepUnlike_145 : decode cX12_keepUnlike 145 = .ok (.iload_n 2, 1) := by decide +kernel
theorem dX12_keepUnlike_146 : decode cX12_keepUnlike 146 = .ok (.putfield 234, 3) := by decide +kernel
theorem dX12_keepUnlike_149 : decode cX12_keepUnlike 149 = .ok (.iload_n 3, 1) := by decide +kernel
theorem dX12_keepUnlike_150 : decode cX12_keepUnlike 150 = .ok (.ireturn, 1) := by decide +kernel
theorem dX12_keepUnlike_151 : decode cX12_keepUnlike 151 = .ok (.iload 6, 2) := by decide +kernel
theorem dX12_keepUnlike_153 : decode cX12_keepUnlike 153 = .ok (.istore 4, 2) := by decide +kernel
theorem dX12_keepUnlike_155 : decode cX12_keepUnlike 155 = .ok (.iinc 5 1, 3) := by decide +kernel
theorem dX12_keepUnlike_158 : decode cX12_keepUnlike 158 = .ok (.goto (-152), 3) := by decide +kernel
theorem dX12_keepUnlike_161 : decode cX12_keepUnlike 161 = .ok (.iload_n 3, 1) := by decide +kernel
theorem dX12_keepUnlike_162 : decode cX12_keepUnlike 162 = .ok (.iconst 1, 1) := by decide +kernel
theorem dX12_keepUnlike_163 : decode cX12_keepUnlike 163 = .ok (.iadd, 1) := by decide +kernel
theorem dX12_keepUnlike_164 : decode cX12_keepUnlike 164 = .ok (.ireturn, 1) := by decide +kernel
theorem dX12_stops_0 : decode cX12_stops 0 = .ok (.iconst 1, 1) := by decide +kernel
theorem dX12_stops_1 : decode cX12_stops 1 = .ok (.istore_n 2, 1) := by decide +kernel
theorem dX12_stops_2 : decode cX12_stops 2 = .ok (.iload_n 1, 1) := by decide +kernel
theorem dX12_stops_3 : decode cX12_stops 3 = .ok (.istore_n 3, 1) := by decide +kernel
theorem dX12_stops_4 : decode cX12_stops 4 = .ok (.iload_n 2, 1) := by decide +kernel
theorem dX12_stops_5 : decode cX12_stops 5 = .ok (.ifCond .le 54, 3) := by decide +kernel
theorem dX12_stops_8 : decode cX12_stops 8 = .ok (.aload_n 0, 1) := by decide +kernel
theorem dX12_stops_9 : decode cX12_stops 9 = .ok (.getfield 53, 3) := by decide +kernel
theorem dX12_stops_12 : decode cX12_stops 12 = .ok (.iload_n 3, 1) := by decide +kernel
theorem dX12_stops_13 : decode cX12_stops 13 = .ok (.baload, 1) := by decide +kernel
theorem dX12_stops_14 : decode cX12_stops 14 = .ok (.istore 4, 2) := by decide +kernel
theorem dX12_stops_16 : decode cX12_stops 16 = .ok (.iload_n 2, 1) := by decide +kernel
theorem dX12_stops_17 : decode cX12_stops 17 = .ok (.iload 4, 2) := by decide +kernel
theorem dX12_stops_19 : decode cX12_stops 19 = .ok (.iconst 4, 1) := by decide +kernel
theorem dX12_stops_20 : decode cX12_stops 20 = .ok (.if_icmp .eq 9, 3) := by decide +kernel
theorem dX12_stops_23 : decode cX12_stops 23 = .ok (.iload 4, 2) := by decide +kernel
theorem dX12_stops_25 : decode cX12_stops 25 = .ok (.iconst 5, 1) := by decide +kernel
theorem dX12_stops_26 : decode cX12_stops 26 = .ok (.if_icmp .ne 12, 3) := by decide +kernel
theorem dX12_stops_29 : decode cX12_stops 29 = .ok (.aload_n 0, 1) := by decide +kernel
theorem dX12_stops_30 : decode cX12_stops 30 = .ok (.getfield 56, 3) := by decide +kernel
theorem dX12_stops_33 : decode cX12_stops 33 = .ok (.iload_n 3, 1) := by decide +kernel
theorem dX12_stops_34 : decode cX12_stops 34 = .ok (.iaload, 1) := by decide +kernel
theorem dX12_stops_35 : decode cX12_stops 35 = .ok (.goto 14, 3) := by decide +kernel
theorem dX12_stops_38 : decode cX12_stops 38 = .ok (.iload 4, 2) := by decide +kernel
theorem dX12_stops_40 : decode cX12_stops 40 = .ok (.iconst 3, 1) := by decide +kernel
theorem dX12_stops_41 : decode cX12_stops 41 = .ok (.if_icmp .gt 7, 3) := by decide +kernel
theorem dX12_stops_44 : decode cX12_stops 44 = .ok (.iconst 1, 1) := by decide +kernel
theorem dX12_stops_45 : decode cX12_stops 45 = .ok (.goto 4, 3) := by decide +kernel
theorem dX12_stops_48 : decode cX12_stops 48 = .ok (.iconst 0, 1) := by decide +kernel
theorem dX12_stops_49 : decode cX12_stops 49 = .ok (.iconst 1, 1) := by decide +kernel
theorem dX12_stops_50 : decode cX12_stops 50 = .ok (.isub, 1) := by decide +kernel
theorem dX12_stops_51 : decode cX12_stops 51 = .ok (.iadd, 1) := by decide +kernel
theorem dX12_stops_52 : decode cX12_stops 52 = .ok (.istore_n 2, 1) := by decide +kernel
theorem dX12_stops_53 : decode cX12_stops 53 = .ok (.iinc 3 1, 3) := by decide +kernel
theorem dX12_stops_56 : decode cX12_stops 56 = .ok (.goto (-52), 3) := by decide +kernel
theorem dX12_stops_59 : decode cX12_stops 59 = .ok (.iload_n 3, 1) := by decide +kernel
theorem dX12_stops_60 : decode cX12_stops 60 = .ok (.ireturn, 1) := by decide +kernel
theorem dX12_closeParts_0 : decode cX12_closeParts 0 = .ok (.aload_n 0, 1) := by decide +kernel
theorem dX12_closeParts_1 : decode cX12_closeParts 1 = .ok (.getfield 56, 3) := by decide +kernel
theorem dX12_closeParts_4 : decode cX12_closeParts 4 = .ok (.iload_n 1, 1) := by decide +kernel
theorem dX12_closeParts_5 : decode cX12_closeParts 5 = .ok (.iload_n 2, 1) := by decide +kernel
theorem dX12_closeParts_6 : decode cX12_closeParts 6 = .ok (.iastore, 1) := by decide +kernel
theorem dX12_closeParts_7 : decode cX12_closeParts 7 = .ok (.iload_n 2, 1) := by decide +kernel
theorem dX12_closeParts_8 : decode cX12_closeParts 8 = .ok (.iconst 1, 1) := by decide +kernel
theorem dX12_closeParts_9 : decode cX12_closeParts 9 = .ok (.if_icmp .ne 73, 3) := by decide +kernel
theorem dX12_closeParts_12 : decode cX12_closeParts 12 = .ok (.iload_n 1, 1) := by decide +kernel
theorem dX12_closeParts_13 : decode cX12_closeParts 13 = .ok (.istore_n 3, 1) := by decide +kernel
theorem dX12_closeParts_14 : decode cX12_closeParts 14 = .ok (.iload_n 3, 1) := by decide +kernel
theorem dX12_closeParts_15 : decode cX12_closeParts 15 = .ok (.iconst 1, 1) := by decide +kernel
theorem dX12_closeParts_16 : decode cX12_closeParts 16 = .ok (.iadd, 1) := by decide +kernel
theorem dX12_closeParts_17 : decode cX12_closeParts 17 = .ok (.aload_n 0, 1) := by decide +kernel
theorem dX12_closeParts_18 : decode cX12_closeParts 18 = .ok (.getfield 234, 3) := by decide +kernel
theorem dX12_closeParts_21 : decode cX12_closeParts 21 = .ok (.if_icmp .ge 51, 3) := by decide +kernel
theorem dX12_closeParts_24 : decode cX12_closeParts 24 = .ok (.aload_n 0, 1) := by decide +kernel
theorem dX12_closeParts_25 : decode cX12_closeParts 25 = .ok (.getfield 53, 3) := by decide +kernel
theorem dX12_closeParts_28 : decode cX12_closeParts 28 = .ok (.iload_n 3, 1) := by decide +kernel
theorem dX12_closeParts_29 : decode cX12_closeParts 29 = .ok (.aload_n 0, 1) := by decide +kernel
theorem dX12_closeParts_30 : decode cX12_closeParts 30 = .ok (.getfield 53, 3) := by decide +kernel
theorem dX12_closeParts_33 : decode cX12_closeParts 33 = .ok (.iload_n 3, 1) := by decide +kernel
theorem dX12_closeParts_34 : decode cX12_closeParts 34 = .ok (.iconst 1, 1) := by decide +kernel
theorem dX12_closeParts_35 : decode cX12_closeParts 35 = .ok (.iadd, 1) := by decide +kernel
theorem dX12_closeParts_36 : decode cX12_closeParts 36 = .ok (.baload, 1) := by decide +kernel
theorem dX12_closeParts_37 : decode cX12_closeParts 37 = .ok (.bastore, 1) := by decide +kernel
theorem dX12_closeParts_38 : decode cX12_closeParts 38 = .ok (.aload_n 0, 1) := by decide +kernel
theorem dX12_closeParts_39 : decode cX12_closeParts 39 = .ok (.getfield 56, 3) := by decide +kernel
theorem dX12_closeParts_42 : decode cX12_closeParts 42 = .ok (.iload_n 3, 1) := by decide +kernel
theorem dX12_closeParts_43 : decode cX12_closeParts 43 = .ok (.aload_n 0, 1) := by decide +kernel
theorem dX12_closeParts_44 : decode cX12_closeParts 44 = .ok (.getfield 56, 3) := by decide +kernel
theorem dX12_closeParts_47 : decode cX12_closeParts 47 = .ok (.iload_n 3, 1) := by decide +kernel
theorem dX12_closeParts_48 : decode cX12_closeParts 48 = .ok (.iconst 1, 1) := by decide +kernel
theorem dX12_closeParts_49 : decode cX12_closeParts 49 = .ok (.iadd, 1) := by decide +kernel
theorem dX12_closeParts_50 : decode cX12_closeParts 50 = .ok (.iaload, 1) := by decide +kernel
theorem dX12_closeParts_51 : decode cX12_closeParts 51 = .ok (.iastore, 1) := by decide +kernel
theorem dX12_closeParts_52 : decode cX12_closeParts 52 = .ok (.aload_n 0, 1) := by decide +kernel
theorem dX12_closeParts_53 : decode cX12_closeParts 53 = .ok (.getfield 59, 3) := by decide +kernel
theorem dX12_closeParts_56 : decode cX12_closeParts 56 = .ok (.iload_n 3, 1) := by decide +kernel
theorem dX12_closeParts_57 : decode cX12_closeParts 57 = .ok (.aload_n 0, 1) := by decide +kernel
theorem dX12_closeParts_58 : decode cX12_closeParts 58 = .ok (.getfield 59, 3) := by decide +kernel
theorem dX12_closeParts_61 : decode cX12_closeParts 61 = .ok (.iload_n 3, 1) := by decide +kernel
theorem dX12_closeParts_62 : decode cX12_closeParts 62 = .ok (.iconst 1, 1) := by decide +kernel
theorem dX12_closeParts_63 : decode cX12_closeParts 63 = .ok (.iadd, 1) := by decide +kernel
theorem dX12_closeParts_64 : decode cX12_closeParts 64 = .ok (.baload, 1) := by decide +kernel
theorem dX12_closeParts_65 : decode cX12_closeParts 65 = .ok (.bastore, 1) := by decide +kernel
theorem dX12_closeParts_66 : decode cX12_closeParts 66 = .ok (.iinc 3 1, 3) := by decide +kernel
theorem dX12_closeParts_69 : decode cX12_closeParts 69 = .ok (.goto (-55), 3) := by decide +kernel
theorem dX12_closeParts_72 : decode cX12_closeParts 72 = .ok (.aload_n 0, 1) := by decide +kernel
theorem dX12_closeParts_73 : decode cX12_closeParts 73 = .ok (.dup, 1) := by decide +kernel
theorem dX12_closeParts_74 : decode cX12_closeParts 74 = .ok (.getfield 234, 3) := by decide +kernel
theorem dX12_closeParts_77 : decode cX12_closeParts 77 = .ok (.iconst 1, 1) := by decide +kernel
theorem dX12_closeParts_78 : decode cX12_closeParts 78 = .ok (.isub, 1) := by decide +kernel
theorem dX12_closeParts_79 : decode cX12_closeParts 79 = .ok (.putfield 234, 3) := by decide +kernel
theorem dX12_closeParts_82 : decode cX12_closeParts 82 = .ok (.return_, 1) := by decide +kernel
theorem dX12_beginPick_0 : decode cX12_beginPick 0 = .ok (.iload_n 1, 1) := by decide +kernel
theorem dX12_beginPick_1 : decode cX12_beginPick 1 = .ok (.bipush 10, 2) := by decide +kernel
theorem dX12_beginPick_3 : decode cX12_beginPick 3 = .ok (.if_icmp .lt 14, 3) := by decide +kernel
theorem dX12_beginPick_6 : decode cX12_beginPick 6 = .ok (.aload_n 0, 1) := by decide +kernel
theorem dX12_beginPick_7 : decode cX12_beginPick 7 = .ok (.iconst 1, 1) := by decide +kernel
theorem dX12_beginPick_8 : decode cX12_beginPick 8 = .ok (.iconst 0, 1) := by decide +kernel
theorem dX12_beginPick_9 : decode cX12_beginPick 9 = .ok (.iconst 0, 1) := by decide +kernel
theorem dX12_beginPick_10 : decode cX12_beginPick 10 = .ok (.invokevirtual 262, 3) := by decide +kernel
theorem dX12_beginPick_13 : decode cX12_beginPick 13 = .ok (.aload_n 0, 1) := by decide +kernel
theorem dX12_beginPick_14 : decode cX12_beginPick 14 = .ok (.invokevirtual 350, 3) := by decide +kernel
theorem dX12_beginPick_17 : decode cX12_beginPick 17 = .ok (.aload_n 0, 1) := by decide +kernel
theorem dX12_beginPick_18 : decode cX12_beginPick 18 = .ok (.iconst 3, 1) := by decide +kernel
theorem dX12_beginPick_19 : decode cX12_beginPick 19 = .ok (.aload_n 0, 1) := by decide +kernel
theorem dX12_beginPick_20 : decode cX12_beginPick 20 = .ok (.getfield 169, 3) := by decide +kernel
theorem dX12_beginPick_23 : decode cX12_beginPick 23 = .ok (.iconst 0, 1) := by decide +kernel
theorem dX12_beginPick_24 : decode cX12_beginPick 24 = .ok (.invokevirtual 262, 3) := by decide +kernel
theorem dX12_beginPick_27 : decode cX12_beginPick 27 = .ok (.aload_n 0, 1) := by decide +kernel
theorem dX12_beginPick_28 : decode cX12_beginPick 28 = .ok (.iconst 4, 1) := by decide +kernel
theorem dX12_beginPick_29 : decode cX12_beginPick 29 = .ok (.iconst 0, 1) := by decide +kernel
theorem dX12_beginPick_30 : decode cX12_beginPick 30 = .ok (.iconst 0, 1) := by decide +kernel
theorem dX12_beginPick_31 : decode cX12_beginPick 31 = .ok (.invokevirtual 262, 3) := by decide +kernel
theorem dX12_beginPick_34 : decode cX12_beginPick 34 = .ok (.aload_n 0, 1) := by decide +kernel
theorem dX12_beginPick_35 : decode cX12_beginPick 35 = .ok (.getfield 234, 3) := by decide +kernel
theorem dX12_beginPick_38 : decode cX12_beginPick 38 = .ok (.iconst 1, 1) := by decide +kernel
theorem dX12_beginPick_39 : decode cX12_beginPick 39 = .ok (.isub, 1) := by decide +kernel
theorem dX12_beginPick_40 : decode cX12_beginPick 40 = .ok (.ireturn, 1) := by decide +kernel
theorem dX12_endPick_0 : decode cX12_endPick 0 = .ok (.iload_n 1, 1) := by decide +kernel
theorem dX12_endPick_1 : decode cX12_endPick 1 = .ok (.bipush 10, 2) := by decide +kernel
theorem dX12_endPick_3 : decode cX12_endPick 3 = .ok (.if_icmp .lt 7, 3) := by decide +kernel
theorem dX12_endPick_6 : decode cX12_endPick 6 = .ok (.aload_n 0, 1) := by decide +kernel
theorem dX12_endPick_7 : decode cX12_endPick 7 = .ok (.invokevirtual 350, 3) := by decide +kernel
theorem dX12_endPick_10 : decode cX12_endPick 10 = .ok (.return_, 1) := by decide +kernel
theorem dX12_part1_0 : decode cX12_part1 0 = .ok (.aload_n 0, 1) := by decide +kernel
theorem dX12_part1_1 : decode cX12_part1 1 = .ok (.invokevirtual 178, 3) := by decide +kernel
theorem dX12_part1_4 : decode cX12_part1 4 = .ok (.ifCond .ne 8, 3) := by decide +kernel
theorem dX12_part1_7 : decode cX12_part1 7 = .ok (.aload_n 0, 1) := by decide +kernel
theorem dX12_part1_8 : decode cX12_part1 8 = .ok (.invokevirtual 353, 3) := by decide +kernel
theorem dX12_part1_11 : decode cX12_part1 11 = .ok (.return_, 1) := by decide +kernel
theorem dX12_part1_12 : decode cX12_part1 12 = .ok (.aload_n 0, 1) := by decide +kernel
theorem dX12_part1_13 : decode cX12_part1 13 = .ok (.iconst 1, 1) := by decide +kernel
theorem dX12_part1_14 : decode cX12_part1 14 = .ok (.invokevirtual 356, 3) := by decide +kernel
theorem dX12_part1_17 : decode cX12_part1 17 = .ok (.istore_n 1, 1) := by decide +kernel
theorem dX12_part1_18 : decode cX12_part1 18 = .ok (.aload_n 0, 1) := by decide +kernel
theorem dX12_part1_19 : decode cX12_part1 19 = .ok (.iload_n 1, 1) := by decide +kernel
theorem dX12_part1_20 : decode cX12_part1 20 = .ok (.invokevirtual 359, 3) := by decide +kernel
theorem dX12_part1_23 : decode cX12_part1 23 = .ok (.istore_n 2, 1) := by decide +kernel
theorem dX12_part1_24 : decode cX12_part1 24 = .ok (.iconst 0, 1) := by decide +kernel
theorem dX12_part1_25 : decode cX12_part1 25 = .ok (.istore_n 3, 1) := by decide +kernel
theorem dX12_part1_26 : decode cX12_part1 26 = .ok (.iconst 0, 1) := by decide +kernel
theorem dX12_part1_27 : decode cX12_part1 27 = .ok (.istore 4, 2) := by decide +kernel
theorem dX12_part1_29 : decode cX12_part1 29 = .ok (.iload 4, 2) := by decide +kernel
theorem dX12_part1_31 : decode cX12_part1 31 = .ok (.aload_n 0, 1) := by decide +kernel
theorem dX12_part1_32 : decode cX12_part1 32 = .ok (.getfield 7, 3) := by decide +kernel
theorem dX12_part1_35 : decode cX12_part1 35 = .ok (.aload_n 0, 1) := by decide +kernel
theorem dX12_part1_36 : decode cX12_part1 36 = .ok (.getfield 166, 3) := by decide +kernel
theorem dX12_part1_39 : decode cX12_part1 39 = .ok (.iaload, 1) := by decide +kernel
theorem dX12_part1_40 : decode cX12_part1 40 = .ok (.if_icmp .ge 50, 3) := by decide +kernel
theorem dX12_part1_43 : decode cX12_part1 43 = .ok (.aload_n 0, 1) := by decide +kernel
theorem dX12_part1_44 : decode cX12_part1 44 = .ok (.getfield 234, 3) := by decide +kernel
theorem dX12_part1_47 : decode cX12_part1 47 = .ok (.istore 5, 2) := by decide +kernel
theorem dX12_part1_49 : decode cX12_part1 49 = .ok (.aload_n 0, 1) := by decide +kernel
theorem dX12_part1_50 : decode cX12_part1 50 = .ok (.iload_n 1, 1) := by decide +kernel
theorem dX12_part1_51 : decode cX12_part1 51 = .ok (.bipush 10, 2) := by decide +kernel
theorem dX12_part1_53 : decode cX12_part1 53 = .ok (.irem, 1) := by decide +kernel
theorem dX12_part1_54 : decode cX12_part1 54 = .ok (.iload 4, 2) := by decide +kernel
theorem dX12_part1_56 : decode cX12_part1 56 = .ok (.invokevirtual 175, 3) := by decide +kernel
theorem dX12_part1_59 : decode cX12_part1 59 = .ok (.aload_n 0, 1) := by decide +kernel
theorem dX12_part1_60 : decode cX12_part1 60 = .ok (.invokevirtual 353, 3) := by decide +kernel
theorem dX12_part1_63 : decode cX12_part1 63 = .ok (.aload_n 0, 1) := by decide +kernel
theorem dX12_part1_64 : decode cX12_part1 64 = .ok (.dup, 1) := by decide +kernel
theorem dX12_part1_65 : decode cX12_part1 65 = .ok (.getfield 169, 3) := by decide +kernel
theorem dX12_part1_68 : decode cX12_part1 68 = .ok (.iconst 1, 1) := by decide +kernel
theorem dX12_part1_69 : decode cX12_part1 69 = .ok (.isub, 1) := by decide +kernel
theorem dX12_part1_70 : decode cX12_part1 70 = .ok (.putfield 169, 3) := by decide +kernel
theorem dX12_part1_73 : decode cX12_part1 73 = .ok (.aload_n 0, 1) := by decide +kernel
theorem dX12_part1_74 : decode cX12_part1 74 = .ok (.iload_n 2, 1) := by decide +kernel
theorem dX12_part1_75 : decode cX12_part1 75 = .ok (.iconst 1, 1) := by decide +kernel
theorem dX12_part1_76 : decode cX12_part1 76 = .ok (.iadd, 1) := by decide +kernel
theorem dX12_part1_77 : decode cX12_part1 77 = .ok (.iload 5, 2) := by decide +kernel
theorem dX12_part1_79 : decode cX12_part1 79 = .ok (.iload_n 3, 1) := by decide +kernel
theorem dX12_part1_80 : decode cX12_part1 80 = .ok (.invokevirtual 362, 3) := by decide +kernel
theorem dX12_part1_83 : decode cX12_part1 83 = .ok (.istore_n 3, 1) := by decide +kernel
theorem dX12_part1_84 : decode cX12_part1 84 = .ok (.iinc 4 1, 3) := by decide +kernel
theorem dX12_part1_87 : decode cX12_part1 87 = .ok (.goto (-58), 3) := by decide +kernel
theorem dX12_part1_90 : decode cX12_part1 90 = .ok (.aload_n 0, 1) := by decide +kernel
theorem dX12_part1_91 : decode cX12_part1 91 = .ok (.iload_n 2, 1) := by decide +kernel
theorem dX12_part1_92 : decode cX12_part1 92 = .ok (.iload_n 3, 1) := by decide +kernel
theorem dX12_part1_93 : decode cX12_part1 93 = .ok (.invokevirtual 365, 3) := by decide +kernel
theorem dX12_part1_96 : decode cX12_part1 96 = .ok (.aload_n 0, 1) := by decide +kernel
theorem dX12_part1_97 : decode cX12_part1 97 = .ok (.iload_n 1, 1) := by decide +kernel
theorem dX12_part1_98 : decode cX12_part1 98 = .ok (.invokevirtual 368, 3) := by decide +kernel
theorem dX12_part1_101 : decode cX12_part1 101 = .ok (.return_, 1) := by decide +kernel
theorem dX12_part2_0 : decode cX12_part2 0 = .ok (.aload_n 0, 1) := by decide +kernel
theorem dX12_part2_1 : decode cX12_part2 1 = .ok (.iconst 2, 1) := by decide +kernel
theorem dX12_part2_2 : decode cX12_part2 2 = .ok (.invokevirtual 204, 3) := by decide +kernel
theorem dX12_part2_5 : decode cX12_part2 5 = .ok (.istore_n 1, 1) := by decide +kernel
theorem dX12_part2_6 : decode cX12_part2 6 = .ok (.iload_n 1, 1) := by decide +kernel
theorem dX12_part2_7 : decode cX12_part2 7 = .ok (.iconst 2, 1) := by decide +kernel
theorem dX12_part2_8 : decode cX12_part2 8 = .ok (.if_icmp .ge 8, 3) := by decide +kernel
theorem dX12_part2_11 : decode cX12_part2 11 = .ok (.aload_n 0, 1) := by decide +kernel
theorem dX12_part2_12 : decode cX12_part2 12 = .ok (.invokevirtual 371, 3) := by decide +kernel
theorem dX12_part2_15 : decode cX12_part2 15 = .ok (.return_, 1) := by decide +kernel
theorem dX12_part2_16 : decode cX12_part2 16 = .ok (.aload_n 0, 1) := by decide +kernel
theorem dX12_part2_17 : decode cX12_part2 17 = .ok (.iconst 2, 1) := by decide +kernel
theorem dX12_part2_18 : decode cX12_part2 18 = .ok (.invokevirtual 356, 3) := by decide +kernel
theorem dX12_part2_21 : decode cX12_part2 21 = .ok (.istore_n 2, 1) := by decide +kernel
theorem dX12_part2_22 : decode cX12_part2 22 = .ok (.aload_n 0, 1) := by decide +kernel
theorem dX12_part2_23 : decode cX12_part2 23 = .ok (.iload_n 2, 1) := by decide +kernel
theorem dX12_part2_24 : decode cX12_part2 24 = .ok (.invokevirtual 359, 3) := by decide +kernel
theorem dX12_part2_27 : decode cX12_part2 27 = .ok (.istore_n 3, 1) := by decide +kernel
theorem dX12_part2_28 : decode cX12_part2 28 = .ok (.iconst 0, 1) := by decide +kernel
theorem dX12_part2_29 : decode cX12_part2 29 = .ok (.istore 4, 2) := by decide +kernel
theorem dX12_part2_31 : decode cX12_part2 31 = .ok (.iconst 0, 1) := by decide +kernel
theorem dX12_part2_32 : decode cX12_part2 32 = .ok (.istore 5, 2) := by decide +kernel
theorem dX12_part2_34 : decode cX12_part2 34 = .ok (.iload 5, 2) := by decide +kernel
theorem dX12_part2_36 : decode cX12_part2 36 = .ok (.aload_n 0, 1) := by decide +kernel
theorem dX12_part2_37 : decode cX12_part2 37 = .ok (.getfield 7, 3) := by decide +kernel
theorem dX12_part2_40 : decode cX12_part2 40 = .ok (.aload_n 0, 1) := by decide +kernel
theorem dX12_part2_41 : decode cX12_part2 41 = .ok (.getfield 166, 3) := by decide +kernel
theorem dX12_part2_44 : decode cX12_part2 44 = .ok (.iaload, 1) := by decide +kernel
theorem dX12_part2_45 : decode cX12_part2 45 = .ok (.if_icmp .ge 52, 3) := by decide +kernel
theorem dX12_part2_48 : decode cX12_part2 48 = .ok (.aload_n 0, 1) := by decide +kernel
theorem dX12_part2_49 : decode cX12_part2 49 = .ok (.getfield 234, 3) := by decide +kernel
theorem dX12_part2_52 : decode cX12_part2 52 = .ok (.istore 6, 2) := by decide +kernel
theorem dX12_part2_54 : decode cX12_part2 54 = .ok (.aload_n 0, 1) := by decide +kernel
theorem dX12_part2_55 : decode cX12_part2 55 = .ok (.iload_n 2, 1) := by decide +kernel
theorem dX12_part2_56 : decode cX12_part2 56 = .ok (.bipush 10, 2) := by decide +kernel
theorem dX12_part2_58 : decode cX12_part2 58 = .ok (.irem, 1) := by decide +kernel
theorem dX12_part2_59 : decode cX12_part2 59 = .ok (.iload 5, 2) := by decide +kernel
theorem dX12_part2_61 : decode cX12_part2 61 = .ok (.invokevirtual 175, 3) := by decide +kernel
theorem dX12_part2_64 : decode cX12_part2 64 = .ok (.aload_n 0, 1) := by decide +kernel
theorem dX12_part2_65 : decode cX12_part2 65 = .ok (.invokevirtual 371, 3) := by decide +kernel
theorem dX12_part2_68 : decode cX12_part2 68 = .ok (.aload_n 0, 1) := by decide +kernel
theorem dX12_part2_69 : decode cX12_part2 69 = .ok (.dup, 1) := by decide +kernel
theorem dX12_part2_70 : decode cX12_part2 70 = .ok (.getfield 169, 3) := by decide +kernel
theorem dX12_part2_73 : decode cX12_part2 73 = .ok (.iconst 1, 1) := by decide +kernel
theorem dX12_part2_74 : decode cX12_part2 74 = .ok (.isub, 1) := by decide +kernel
theorem dX12_part2_75 : decode cX12_part2 75 = .ok (.putfield 169, 3) := by decide +kernel
theorem dX12_part2_78 : decode cX12_part2 78 = .ok (.aload_n 0, 1) := by decide +kernel
theorem dX12_part2_79 : decode cX12_part2 79 = .ok (.iload_n 3, 1) := by decide +kernel
theorem dX12_part2_80 : decode cX12_part2 80 = .ok (.iconst 1, 1) := by decide +kernel
theorem dX12_part2_81 : decode cX12_part2 81 = .ok (.iadd, 1) := by decide +kernel
theorem dX12_part2_82 : decode cX12_part2 82 = .ok (.iload 6, 2) := by decide +kernel
theorem dX12_part2_84 : decode cX12_part2 84 = .ok (.iload 4, 2) := by decide +kernel
theorem dX12_part2_86 : decode cX12_part2 86 = .ok (.invokevirtual 362, 3) := by decide +kernel
theorem dX12_part2_89 : decode cX12_part2 89 = .ok (.istore 4, 2) := by decide +kernel
theorem dX12_part2_91 : decode cX12_part2 91 = .ok (.iinc 5 1, 3) := by decide +kernel
theorem dX12_part2_94 : decode cX12_part2 94 = .ok (.goto (-60), 3) := by decide +kernel
theorem dX12_part2_97 : decode cX12_part2 97 = .ok (.aload_n 0, 1) := by decide +kernel
theorem dX12_part2_98 : decode cX12_part2 98 = .ok (.iload_n 3, 1) := by decide +kernel
theorem dX12_part2_99 : decode cX12_part2 99 = .ok (.iload 4, 2) := by decide +kernel
theorem dX12_part2_101 : decode cX12_part2 101 = .ok (.invokevirtual 365, 3) := by decide +kernel
theorem dX12_part2_104 : decode cX12_part2 104 = .ok (.aload_n 0, 1) := by decide +kernel
theorem dX12_part2_105 : decode cX12_part2 105 = .ok (.iload_n 2, 1) := by decide +kernel
theorem dX12_part2_106 : decode cX12_part2 106 = .ok (.invokevirtual 368, 3) := by decide +kernel
theorem dX12_part2_109 : decode cX12_part2 109 = .ok (.return_, 1) := by decide +kernel
theorem dX12_part3_0 : decode cX12_part3 0 = .ok (.aload_n 0, 1) := by decide +kernel
theorem dX12_part3_1 : decode cX12_part3 1 = .ok (.iconst 3, 1) := by decide +kernel
theorem dX12_part3_2 : decode cX12_part3 2 = .ok (.invokevirtual 204, 3) := by decide +kernel
theorem dX12_part3_5 : decode cX12_part3 5 = .ok (.istore_n 1, 1) := by decide +kernel
theorem dX12_part3_6 : decode cX12_part3 6 = .ok (.iload_n 1, 1) := by decide +kernel
theorem dX12_part3_7 : decode cX12_part3 7 = .ok (.iconst 3, 1) := by decide +kernel
theorem dX12_part3_8 : decode cX12_part3 8 = .ok (.if_icmp .ge 8, 3) := by decide +kernel
theorem dX12_part3_11 : decode cX12_part3 11 = .ok (.aload_n 0, 1) := by decide +kernel
theorem dX12_part3_12 : decode cX12_part3 12 = .ok (.invokevirtual 374, 3) := by decide +kernel
theorem dX12_part3_15 : decode cX12_part3 15 = .ok (.return_, 1) := by decide +kernel
theorem dX12_part3_16 : decode cX12_part3 16 = .ok (.aload_n 0, 1) := by decide +kernel
theorem dX12_part3_17 : decode cX12_part3 17 = .ok (.iconst 3, 1) := by decide +kernel
theorem dX12_part3_18 : decode cX12_part3 18 = .ok (.invokevirtual 356, 3) := by decide +kernel
theorem dX12_part3_21 : decode cX12_part3 21 = .ok (.istore_n 2, 1) := by decide +kernel
theorem dX12_part3_22 : decode cX12_part3 22 = .ok (.aload_n 0, 1) := by decide +kernel
theorem dX12_part3_23 : decode cX12_part3 23 = .ok (.iload_n 2, 1) := by decide +kernel
theorem dX12_part3_24 : decode cX12_part3 24 = .ok (.invokevirtual 359, 3) := by decide +kernel
theorem dX12_part3_27 : decode cX12_part3 27 = .ok (.istore_n 3, 1) := by decide +kernel
theorem dX12_part3_28 : decode cX12_part3 28 = .ok (.iconst 0, 1) := by decide +kernel
theorem dX12_part3_29 : decode cX12_part3 29 = .ok (.istore 4, 2) := by decide +kernel
theorem dX12_part3_31 : decode cX12_part3 31 = .ok (.iconst 0, 1) := by decide +kernel
theorem dX12_part3_32 : decode cX12_part3 32 = .ok (.istore 5, 2) := by decide +kernel
theorem dX12_part3_34 : decode cX12_part3 34 = .ok (.iload 5, 2) := by decide +kernel
theorem dX12_part3_36 : decode cX12_part3 36 = .ok (.aload_n 0, 1) := by decide +kernel
theorem dX12_part3_37 : decode cX12_part3 37 = .ok (.getfield 7, 3) := by decide +kernel
theorem dX12_part3_40 : decode cX12_part3 40 = .ok (.aload_n 0, 1) := by decide +kernel
theorem dX12_part3_41 : decode cX12_part3 41 = .ok (.getfield 166, 3) := by decide +kernel
theorem dX12_part3_44 : decode cX12_part3 44 = .ok (.iaload, 1) := by decide +kernel
theorem dX12_part3_45 : decode cX12_part3 45 = .ok (.if_icmp .ge 52, 3) := by decide +kernel
theorem dX12_part3_48 : decode cX12_part3 48 = .ok (.aload_n 0, 1) := by decide +kernel
theorem dX12_part3_49 : decode cX12_part3 49 = .ok (.getfield 234, 3) := by decide +kernel
theorem dX12_part3_52 : decode cX12_part3 52 = .ok (.istore 6, 2) := by decide +kernel
theorem dX12_part3_54 : decode cX12_part3 54 = .ok (.aload_n 0, 1) := by decide +kernel
theorem dX12_part3_55 : decode cX12_part3 55 = .ok (.iload_n 2, 1) := by decide +kernel
theorem dX12_part3_56 : decode cX12_part3 56 = .ok (.bipush 10, 2) := by decide +kernel
theorem dX12_part3_58 : decode cX12_part3 58 = .ok (.irem, 1) := by decide +kernel
theorem dX12_part3_59 : decode cX12_part3 59 = .ok (.iload 5, 2) := by decide +kernel
theorem dX12_part3_61 : decode cX12_part3 61 = .ok (.invokevirtual 175, 3) := by decide +kernel
theorem dX12_part3_64 : decode cX12_part3 64 = .ok (.aload_n 0, 1) := by decide +kernel
theorem dX12_part3_65 : decode cX12_part3 65 = .ok (.invokevirtual 374, 3) := by decide +kernel
theorem dX12_part3_68 : decode cX12_part3 68 = .ok (.aload_n 0, 1) := by decide +kernel
theorem dX12_part3_69 : decode cX12_part3 69 = .ok (.dup, 1) := by decide +kernel
theorem dX12_part3_70 : decode cX12_part3 70 = .ok (.getfield 169, 3) := by decide +kernel
theorem dX12_part3_73 : decode cX12_part3 73 = .ok (.iconst 1, 1) := by decide +kernel
theorem dX12_part3_74 : decode cX12_part3 74 = .ok (.isub, 1) := by decide +kernel
theorem dX12_part3_75 : decode cX12_part3 75 = .ok (.putfield 169, 3) := by decide +kernel
theorem dX12_part3_78 : decode cX12_part3 78 = .ok (.aload_n 0, 1) := by decide +kernel
theorem dX12_part3_79 : decode cX12_part3 79 = .ok (.iload_n 3, 1) := by decide +kernel
theorem dX12_part3_80 : decode cX12_part3 80 = .ok (.iconst 1, 1) := by decide +kernel
theorem dX12_part3_81 : decode cX12_part3 81 = .ok (.iadd, 1) := by decide +kernel
theorem dX12_part3_82 : decode cX12_part3 82 = .ok (.iload 6, 2) := by decide +kernel
theorem dX12_part3_84 : decode cX12_part3 84 = .ok (.iload 4, 2) := by decide +kernel
theorem dX12_part3_86 : decode cX12_part3 86 = .ok (.invokevirtual 362, 3) := by decide +kernel
theorem dX12_part3_89 : decode cX12_part3 89 = .ok (.istore 4, 2) := by decide +kernel
theorem dX12_part3_91 : decode cX12_part3 91 = .ok (.iinc 5 1, 3) := by decide +kernel
theorem dX12_part3_94 : decode cX12_part3 94 = .ok (.goto (-60), 3) := by decide +kernel
theorem dX12_part3_97 : decode cX12_part3 97 = .ok (.aload_n 0, 1) := by decide +kernel
theorem dX12_part3_98 : decode cX12_part3 98 = .ok (.iload_n 3, 1) := by decide +kernel
theorem dX12_part3_99 : decode cX12_part3 99 = .ok (.iload 4, 2) := by decide +kernel
theorem dX12_part3_101 : decode cX12_part3 101 = .ok (.invokevirtual 365, 3) := by decide +kernel
theorem dX12_part3_104 : decode cX12_part3 104 = .ok (.aload_n 0, 1) := by decide +kernel
theorem dX12_part3_105 : decode cX12_part3 105 = .ok (.iload_n 2, 1) := by decide +kernel
theorem dX12_part3_106 : decode cX12_part3 106 = .ok (.invokevirtual 368, 3) := by decide +kernel
theorem dX12_part3_109 : decode cX12_part3 109 = .ok (.return_, 1) := by decide +kernel
theorem dX12_part_0 : decode cX12_part 0 = .ok (.aload_n 0, 1) := by decide +kernel
theorem dX12_part_1 : decode cX12_part 1 = .ok (.iload_n 1, 1) := by decide +kernel
theorem dX12_part_2 : decode cX12_part 2 = .ok (.invokevirtual 141, 3) := by decide +kernel
theorem dX12_part_5 : decode cX12_part 5 = .ok (.ifCond .ne 11, 3) := by decide +kernel
theorem dX12_part_8 : decode cX12_part 8 = .ok (.aload_n 0, 1) := by decide +kernel
theorem dX12_part_9 : decode cX12_part 9 = .ok (.iload_n 2, 1) := by decide +kernel
theorem dX12_part_10 : decode cX12_part 10 = .ok (.invokevirtual 141, 3) := by decide +kernel
theorem dX12_part_13 : decode cX12_part 13 = .ok (.ifCond .eq 5, 3) := by decide +kernel
theorem dX12_part_16 : decode cX12_part 16 = .ok (.iconst (-1), 1) := by decide +kernel
theorem dX12_part_17 : decode cX12_part 17 = .ok (.ireturn, 1) := by decide +kernel
theorem dX12_part_18 : decode cX12_part 18 = .ok (.aload_n 0, 1) := by decide +kernel
theorem dX12_part_19 : decode cX12_part 19 = .ok (.iload_n 1, 1) := by decide +kernel
theorem dX12_part_20 : decode cX12_part 20 = .ok (.iload_n 2, 1) := by decide +kernel
theorem dX12_part_21 : decode cX12_part 21 = .ok (.invokevirtual 198, 3) := by decide +kernel
theorem dX12_part_24 : decode cX12_part 24 = .ok (.aload_n 0, 1) := by decide +kernel
theorem dX12_part_25 : decode cX12_part 25 = .ok (.iconst 3, 1) := by decide +kernel
theorem dX12_part_26 : decode cX12_part 26 = .ok (.invokevirtual 204, 3) := by decide +kernel
theorem dX12_part_29 : decode cX12_part 29 = .ok (.ifCond .ge 6, 3) := by decide +kernel
theorem dX12_part_32 : decode cX12_part 32 = .ok (.bipush (-9), 2) := by decide +kernel
theorem dX12_part_34 : decode cX12_part 34 = .ok (.ireturn, 1) := by decide +kernel
theorem dX12_part_35 : decode cX12_part 35 = .ok (.aload_n 0, 1) := by decide +kernel
theorem dX12_part_36 : decode cX12_part 36 = .ok (.getfield 290, 3) := by decide +kernel
theorem dX12_part_39 : decode cX12_part 39 = .ok (.bipush 20, 2) := by decide +kernel
theorem dX12_part_41 : decode cX12_part 41 = .ok (.if_icmp .ne 6, 3) := by decide +kernel
theorem dX12_part_44 : decode cX12_part 44 = .ok (.bipush (-4), 2) := by decide +kernel
theorem dX12_part_46 : decode cX12_part 46 = .ok (.ireturn, 1) := by decide +kernel
theorem dX12_part_47 : decode cX12_part 47 = .ok (.aload_n 0, 1) := by decide +kernel
theorem dX12_part_48 : decode cX12_part 48 = .ok (.iconst 0, 1) := by decide +kernel
theorem dX12_part_49 : decode cX12_part 49 = .ok (.putfield 234, 3) := by decide +kernel
theorem dX12_part_52 : decode cX12_part 52 = .ok (.aload_n 0, 1) := by decide +kernel
theorem dX12_part_53 : decode cX12_part 53 = .ok (.invokevirtual 377, 3) := by decide +kernel
theorem dX12_part_56 : decode cX12_part 56 = .ok (.aload_n 0, 1) := by decide +kernel
theorem dX12_part_57 : decode cX12_part 57 = .ok (.invokevirtual 299, 3) := by decide +kernel
theorem dX12_part_60 : decode cX12_part 60 = .ok (.ireturn, 1) := by decide +kernel
theorem dX12_kinds_0 : decode cX12_kinds 0 = .ok (.aload_n 0, 1) := by decide +kernel
theorem dX12_kinds_1 : decode cX12_kinds 1 = .ok (.iload_n 1, 1) := by decide +kernel
theorem dX12_kinds_2 : decode cX12_kinds 2 = .ok (.invokevirtual 141, 3) := by decide +kernel
theorem dX12_kinds_5 : decode cX12_kinds 5 = .ok (.ifCond .ne 11, 3) := by decide +kernel
theorem dX12_kinds_8 : decode cX12_kinds 8 = .ok (.aload_n 0, 1) := by decide +kernel
theorem dX12_kinds_9 : decode cX12_kinds 9 = .ok (.iload_n 2, 1) := by decide +kernel
theorem dX12_kinds_10 : decode cX12_kinds 10 = .ok (.invokevirtual 141, 3) := by decide +kernel
theorem dX12_kinds_13 : decode cX12_kinds 13 = .ok (.ifCond .eq 5, 3) := by decide +kernel
theorem dX12_kinds_16 : decode cX12_kinds 16 = .ok (.iconst (-1), 1) := by decide +kernel
theorem dX12_kinds_17 : decode cX12_kinds 17 = .ok (.ireturn, 1) := by decide +kernel
theorem dX12_kinds_18 : decode cX12_kinds 18 = .ok (.iload_n 3, 1) := by decide +kernel
theorem dX12_kinds_19 : decode cX12_kinds 19 = .ok (.iconst 0, 1) := by decide +kernel
theorem dX12_kinds_20 : decode cX12_kinds 20 = .ok (.iconst 2, 1) := by decide +kernel
theorem dX12_kinds_21 : decode cX12_kinds 21 = .ok (.invokestatic 133, 3) := by decide +kernel
theorem dX12_kinds_24 : decode cX12_kinds 24 = .ok (.ifCond .ne 6, 3) := by decide +kernel
theorem dX12_kinds_27 : decode cX12_kinds 27 = .ok (.bipush (-2), 2) := by decide +kernel
theorem dX12_kinds_29 : decode cX12_kinds 29 = .ok (.ireturn, 1) := by decide +kernel
theorem dX12_kinds_30 : decode cX12_kinds 30 = .ok (.aload_n 0, 1) := by decide +kernel
theorem dX12_kinds_31 : decode cX12_kinds 31 = .ok (.aload_n 0, 1) := by decide +kernel
theorem dX12_kinds_32 : decode cX12_kinds 32 = .ok (.getfield 7, 3) := by decide +kernel
theorem dX12_kinds_35 : decode cX12_kinds 35 = .ok (.iload_n 1, 1) := by decide +kernel
theorem dX12_kinds_36 : decode cX12_kinds 36 = .ok (.iaload, 1) := by decide +kernel
theorem dX12_kinds_37 : decode cX12_kinds 37 = .ok (.aload_n 0, 1) := by decide +kernel
theorem dX12_kinds_38 : decode cX12_kinds 38 = .ok (.getfield 7, 3) := by decide +kernel
theorem dX12_kinds_41 : decode cX12_kinds 41 = .ok (.iload_n 2, 1) := by decide +kernel
theorem dX12_kinds_42 : decode cX12_kinds 42 = .ok (.iaload, 1) := by decide +kernel
theorem dX12_kinds_43 : decode cX12_kinds 43 = .ok (.iadd, 1) := by decide +kernel
theorem dX12_kinds_44 : decode cX12_kinds 44 = .ok (.putfield 380, 3) := by decide +kernel
theorem dX12_kinds_47 : decode cX12_kinds 47 = .ok (.iconst 0, 1) := by decide +kernel
theorem dX12_kinds_48 : decode cX12_kinds 48 = .ok (.istore 4, 2) := by decide +kernel
theorem dX12_kinds_50 : decode cX12_kinds 50 = .ok (.iconst 0, 1) := by decide +kernel
theorem dX12_kinds_51 : decode cX12_kinds 51 = .ok (.istore 5, 2) := by decide +kernel
theorem dX12_kinds_53 : decode cX12_kinds 53 = .ok (.iload 5, 2) := by decide +kernel
theorem dX12_kinds_55 : decode cX12_kinds 55 = .ok (.aload_n 0, 1) := by decide +kernel
theorem dX12_kinds_56 : decode cX12_kinds 56 = .ok (.getfield 380, 3) := by decide +kernel
theorem dX12_kinds_59 : decode cX12_kinds 59 = .ok (.if_icmp .ge 178, 3) := by decide +kernel
theorem dX12_kinds_62 : decode cX12_kinds 62 = .ok (.iconst (-1), 1) := by decide +kernel
theorem dX12_kinds_63 : decode cX12_kinds 63 = .ok (.istore 6, 2) := by decide +kernel
theorem dX12_kinds_65 : decode cX12_kinds 65 = .ok (.iconst 0, 1) := by decide +kernel
theorem dX12_kinds_66 : decode cX12_kinds 66 = .ok (.istore 7, 2) := by decide +kernel
theorem dX12_kinds_68 : decode cX12_kinds 68 = .ok (.iload 7, 2) := by decide +kernel
theorem dX12_kinds_70 : decode cX12_kinds 70 = .ok (.iload 4, 2) := by decide +kernel
theorem dX12_kinds_72 : decode cX12_kinds 72 = .ok (.if_icmp .ge 129, 3) := by decide +kernel
theorem dX12_kinds_75 : decode cX12_kinds 75 = .ok (.iload 6, 2) := by decide +kernel
theorem dX12_kinds_77 : decode cX12_kinds 77 = .ok (.ifCond .ge 124, 3) := by decide +kernel
theorem dX12_kinds_80 : decode cX12_kinds 80 = .ok (.aload_n 0, 1) := by decide +kernel
theorem dX12_kinds_81 : decode cX12_kinds 81 = .ok (.getfield 95, 3) := by decide +kernel
theorem dX12_kinds_84 : decode cX12_kinds 84 = .ok (.iload 7, 2) := by decide +kernel
theorem dX12_kinds_86 : decode cX12_kinds 86 = .ok (.iaload, 1) := by decide +kernel
theorem dX12_kinds_87 : decode cX12_kinds 87 = .ok (.istore 8, 2) := by decide +kernel
theorem dX12_kinds_89 : decode cX12_kinds 89 = .ok (.aload_n 0, 1) := by decide +kernel
theorem dX12_kinds_90 : decode cX12_kinds 90 = .ok (.iload 8, 2) := by decide +kernel
theorem dX12_kinds_92 : decode cX12_kinds 92 = .ok (.aload_n 0, 1) := by decide +kernel
theorem dX12_kinds_93 : decode cX12_kinds 93 = .ok (.getfield 7, 3) := by decide +kernel
theorem dX12_kinds_96 : decode cX12_kinds 96 = .ok (.iload_n 1, 1) := by decide +kernel
theorem dX12_kinds_97 : decode cX12_kinds 97 = .ok (.iaload, 1) := by decide +kernel
theorem dX12_kinds_98 : decode cX12_kinds 98 = .ok (.if_icmp .ge 7, 3) := by decide +kernel
theorem dX12_kinds_101 : decode cX12_kinds 101 = .ok (.iload_n 1, 1) := by decide +kernel
theorem dX12_kinds_102 : decode cX12_kinds 102 = .ok (.goto 4, 3) := by decide +kernel
theorem dX12_kinds_105 : decode cX12_kinds 105 = .ok (.iload_n 2, 1) := by decide +kernel
theorem dX12_kinds_106 : decode cX12_kinds 106 = .ok (.iload 5, 2) := by decide +kernel
theorem dX12_kinds_108 : decode cX12_kinds 108 = .ok (.aload_n 0, 1) := by decide +kernel
theorem dX12_kinds_109 : decode cX12_kinds 109 = .ok (.getfield 7, 3) := by decide +kernel
theorem dX12_kinds_112 : decode cX12_kinds 112 = .ok (.iload_n 1, 1) := by decide +kernel
theorem dX12_kinds_113 : decode cX12_kinds 113 = .ok (.iaload, 1) := by decide +kernel
theorem dX12_kinds_114 : decode cX12_kinds 114 = .ok (.if_icmp .ge 7, 3) := by decide +kernel
theorem dX12_kinds_117 : decode cX12_kinds 117 = .ok (.iload_n 1, 1) := by decide +kernel
theorem dX12_kinds_118 : decode cX12_kinds 118 = .ok (.goto 4, 3) := by decide +kernel
theorem dX12_kinds_121 : decode cX12_kinds 121 = .ok (.iload_n 2, 1) := by decide +kernel
theorem dX12_kinds_122 : decode cX12_kinds 122 = .ok (.invokevirtual 198, 3) := by decide +kernel
theorem dX12_kinds_125 : decode cX12_kinds 125 = .ok (.aload_n 0, 1) := by decide +kernel
theorem dX12_kinds_126 : decode cX12_kinds 126 = .ok (.iload 8, 2) := by decide +kernel
theorem dX12_kinds_128 : decode cX12_kinds 128 = .ok (.aload_n 0, 1) := by decide +kernel
theorem dX12_kinds_129 : decode cX12_kinds 129 = .ok (.getfield 7, 3) := by decide +kernel
theorem dX12_kinds_132 : decode cX12_kinds 132 = .ok (.iload_n 1, 1) := by decide +kernel
theorem dX12_kinds_133 : decode cX12_kinds 133 = .ok (.iaload, 1) := by decide +kernel
theorem dX12_kinds_134 : decode cX12_kinds 134 = .ok (.if_icmp .ge 8, 3) := by decide +kernel
theorem dX12_kinds_137 : decode cX12_kinds 137 = .ok (.iload 8, 2) := by decide +kernel
theorem dX12_kinds_139 : decode cX12_kinds 139 = .ok (.goto 12, 3) := by decide +kernel
theorem dX12_kinds_142 : decode cX12_kinds 142 = .ok (.iload 8, 2) := by decide +kernel
theorem dX12_kinds_144 : decode cX12_kinds 144 = .ok (.aload_n 0, 1) := by decide +kernel
theorem dX12_kinds_145 : decode cX12_kinds 145 = .ok (.getfield 7, 3) := by decide +kernel
theorem dX12_kinds_148 : decode cX12_kinds 148 = .ok (.iload_n 1, 1) := by decide +kernel
theorem dX12_kinds_149 : decode cX12_kinds 149 = .ok (.iaload, 1) := by decide +kernel
theorem dX12_kinds_150 : decode cX12_kinds 150 = .ok (.isub, 1) := by decide +kernel
theorem dX12_kinds_151 : decode cX12_kinds 151 = .ok (.iload 5, 2) := by decide +kernel
theorem dX12_kinds_153 : decode cX12_kinds 153 = .ok (.aload_n 0, 1) := by decide +kernel
theorem dX12_kinds_154 : decode cX12_kinds 154 = .ok (.getfield 7, 3) := by decide +kernel
theorem dX12_kinds_157 : decode cX12_kinds 157 = .ok (.iload_n 1, 1) := by decide +kernel
theorem dX12_kinds_158 : decode cX12_kinds 158 = .ok (.iaload, 1) := by decide +kernel
theorem dX12_kinds_159 : decode cX12_kinds 159 = .ok (.if_icmp .ge 8, 3) := by decide +kernel
theorem dX12_kinds_162 : decode cX12_kinds 162 = .ok (.iload 5, 2) := by decide +kernel
theorem dX12_kinds_164 : decode cX12_kinds 164 = .ok (.goto 12, 3) := by decide +kernel
theorem dX12_kinds_167 : decode cX12_kinds 167 = .ok (.iload 5, 2) := by decide +kernel
theorem dX12_kinds_169 : decode cX12_kinds 169 = .ok (.aload_n 0, 1) := by decide +kernel
theorem dX12_kinds_170 : decode cX12_kinds 170 = .ok (.getfield 7, 3) := by decide +kernel
theorem dX12_kinds_173 : decode cX12_kinds 173 = .ok (.iload_n 1, 1) := by decide +kernel
theorem dX12_kinds_174 : decode cX12_kinds 174 = .ok (.iaload, 1) := by decide +kernel
theorem dX12_kinds_175 : decode cX12_kinds 175 = .ok (.isub, 1) := by decide +kernel
theorem dX12_kinds_176 : decode cX12_kinds 176 = .ok (.invokevirtual 175, 3) := by decide +kernel
theorem dX12_kinds_179 : decode cX12_kinds 179 = .ok (.aload_n 0, 1) := by decide +kernel
theorem dX12_kinds_180 : decode cX12_kinds 180 = .ok (.iload_n 3, 1) := by decide +kernel
theorem dX12_kinds_181 : decode cX12_kinds 181 = .ok (.invokevirtual 201, 3) := by decide +kernel
theorem dX12_kinds_184 : decode cX12_kinds 184 = .ok (.ifCond .eq 8, 3) := by decide +kernel
theorem dX12_kinds_187 : decode cX12_kinds 187 = .ok (.iload 7, 2) := by decide +kernel
theorem dX12_kinds_189 : decode cX12_kinds 189 = .ok (.goto 4, 3) := by decide +kernel
theorem dX12_kinds_192 : decode cX12_kinds 192 = .ok (.iconst (-1), 1) := by decide +kernel
theorem dX12_kinds_193 : decode cX12_kinds 193 = .ok (.istore 6, 2) := by decide +kernel
theorem dX12_kinds_195 : decode cX12_kinds 195 = .ok (.iinc 7 1, 3) := by decide +kernel
theorem dX12_kinds_198 : decode cX12_kinds 198 = .ok (.goto (-130), 3) := by decide +kernel
theorem dX12_kinds_201 : decode cX12_kinds 201 = .ok (.iload 6, 2) := by decide +kernel
theorem dX12_kinds_203 : decode cX12_kinds 203 = .ok (.ifCond .ge 19, 3) := by decide +kernel
theorem dX12_kinds_206 : decode cX12_kinds 206 = .ok (.iload 4, 2) := by decide +kernel
theorem dX12_kinds_208 : decode cX12_kinds 208 = .ok (.istore 6, 2) := by decide +kernel
theorem dX12_kinds_210 : decode cX12_kinds 210 = .ok (.aload_n 0, 1) := by decide +kernel
theorem dX12_kinds_211 : decode cX12_kinds 211 = .ok (.getfield 95, 3) := by decide +kernel
theorem dX12_kinds_214 : decode cX12_kinds 214 = .ok (.iload 4, 2) := by decide +kernel
theorem dX12_kinds_216 : decode cX12_kinds 216 = .ok (.iload 5, 2) := by decide +kernel
theorem dX12_kinds_218 : decode cX12_kinds 218 = .ok (.iastore, 1) := by decide +kernel
theorem dX12_kinds_219 : decode cX12_kinds 219 = .ok (.iinc 4 1, 3) := by decide +kernel
theorem dX12_kinds_222 : decode cX12_kinds 222 = .ok (.aload_n 0, 1) := by decide +kernel
theorem dX12_kinds_223 : decode cX12_kinds 223 = .ok (.getfield 92, 3) := by decide +kernel
theorem dX12_kinds_226 : decode cX12_kinds 226 = .ok (.iload 5, 2) := by decide +kernel
theorem dX12_kinds_228 : decode cX12_kinds 228 = .ok (.iload 6, 2) := by decide +kernel
theorem dX12_kinds_230 : decode cX12_kinds 230 = .ok (.iastore, 1) := by decide +kernel
theorem dX12_kinds_231 : decode cX12_kinds 231 = .ok (.iinc 5 1, 3) := by decide +kernel
theorem dX12_kinds_234 : decode cX12_kinds 234 = .ok (.goto (-181), 3) := by decide +kernel
theorem dX12_kinds_237 : decode cX12_kinds 237 = .ok (.iload 4, 2) := by decide +kernel
theorem dX12_kinds_239 : decode cX12_kinds 239 = .ok (.ireturn, 1) := by decide +kernel
theorem dX12_kind_0 : decode cX12_kind 0 = .ok (.iload_n 1, 1) := by decide +kernel
theorem dX12_kind_1 : decode cX12_kind 1 = .ok (.iconst 0, 1) := by decide +kernel
theorem dX12_kind_2 : decode cX12_kind 2 = .ok (.aload_n 0, 1) := by decide +kernel
theorem dX12_kind_3 : decode cX12_kind 3 = .ok (.getfield 380, 3) := by decide +kernel
theorem dX12_kind_6 : decode cX12_kind 6 = .ok (.iconst 1, 1) := by decide +kernel
theorem dX12_kind_7 : decode cX12_kind 7 = .ok (.isub, 1) := by decide +kernel
theorem dX12_kind_8 : decode cX12_kind 8 = .ok (.invokestatic 133, 3) := by decide +kernel
theorem dX12_kind_11 : decode cX12_kind 11 = .ok (.ifCond .eq 12, 3) := by decide +kernel
theorem dX12_kind_14 : decode cX12_kind 14 = .ok (.aload_n 0, 1) := by decide +kernel
theorem dX12_kind_15 : decode cX12_kind 15 = .ok (.getfield 92, 3) := by decide +kernel
theorem dX12_kind_18 : decode cX12_kind 18 = .ok (.iload_n 1, 1) := by decide +kernel
theorem dX12_kind_19 : decode cX12_kind 19 = .ok (.iaload, 1) := by decide +kernel
theorem dX12_kind_20 : decode cX12_kind 20 = .ok (.goto 4, 3) := by decide +kernel
theorem dX12_kind_23 : decode cX12_kind 23 = .ok (.iconst (-1), 1) := by decide +kernel
theorem dX12_kind_24 : decode cX12_kind 24 = .ok (.ireturn, 1) := by decide +kernel
theorem dX12_layThings_0 : decode cX12_layThings 0 = .ok (.aload_n 0, 1) := by decide +kernel
theorem dX12_layThings_1 : decode cX12_layThings 1 = .ok (.iconst 0, 1) := by decide +kernel
theorem dX12_layThings_2 : decode cX12_layThings 2 = .ok (.putfield 383, 3) := by decide +kernel
theorem dX12_layThings_5 : decode cX12_layThings 5 = .ok (.iconst 0, 1) := by decide +kernel
theorem dX12_layThings_6 : decode cX12_layThings 6 = .ok (.istore 4, 2) := by decide +kernel
theorem dX12_layThings_8 : decode cX12_layThings 8 = .ok (.iload 4, 2) := by decide +kernel
theorem dX12_layThings_10 : decode cX12_layThings 10 = .ok (.iconst 2, 1) := by decide +kernel
theorem dX12_layThings_11 : decode cX12_layThings 11 = .ok (.if_icmp .ge 123, 3) := by decide +kernel
theorem dX12_layThings_14 : decode cX12_layThings 14 = .ok (.iload 4, 2) := by decide +kernel
theorem dX12_layThings_16 : decode cX12_layThings 16 = .ok (.ifCond .ne 7, 3) := by decide +kernel
theorem dX12_layThings_19 : decode cX12_layThings 19 = .ok (.iload_n 1, 1) := by decide +kernel
theorem dX12_layThings_20 : decode cX12_layThings 20 = .ok (.goto 4, 3) := by decide +kernel
theorem dX12_layThings_23 : decode cX12_layThings 23 = .ok (.iload_n 2, 1) := by decide +kernel
theorem dX12_layThings_24 : decode cX12_layThings 24 = .ok (.istore 5, 2) := by decide +kernel
theorem dX12_layThings_26 : decode cX12_layThings 26 = .ok (.iconst 0, 1) := by decide +kernel
theorem dX12_layThings_27 : decode cX12_layThings 27 = .ok (.istore 6, 2) := by decide +kernel
theorem dX12_layThings_29 : decode cX12_layThings 29 = .ok (.iload 6, 2) := by decide +kernel
theorem dX12_layThings_31 : decode cX12_layThings 31 = .ok (.aload_n 0, 1) := by decide +kernel
theorem dX12_layThings_32 : decode cX12_layThings 32 = .ok (.getfield 7, 3) := by decide +kernel
theorem dX12_layThings_35 : decode cX12_layThings 35 = .ok (.iload 5, 2) := by decide +kernel
theorem dX12_layThings_37 : decode cX12_layThings 37 = .ok (.iaload, 1) := by decide +kernel
theorem dX12_layThings_38 : decode cX12_layThings 38 = .ok (.if_icmp .ge 90, 3) := by decide +kernel
theorem dX12_layThings_41 : decode cX12_layThings 41 = .ok (.iconst 0, 1) := by decide +kernel
theorem dX12_layThings_42 : decode cX12_layThings 42 = .ok (.istore 7, 2) := by decide +kernel
theorem dX12_layThings_44 : decode cX12_layThings 44 = .ok (.iload 7, 2) := by decide +kernel
theorem dX12_layThings_46 : decode cX12_layThings 46 = .ok (.iload_n 3, 1) := by decide +kernel
theorem dX12_layThings_47 : decode cX12_layThings 47 = .ok (.ifCond .ne 7, 3) := by decide +kernel
theorem dX12_layThings_50 : decode cX12_layThings 50 = .ok (.iconst 1, 1) := by decide +kernel
theorem dX12_layThings_51 : decode cX12_layThings 51 = .ok (.goto 10, 3) := by decide +kernel
theorem dX12_layThings_54 : decode cX12_layThings 54 = .ok (.aload_n 0, 1) := by decide +kernel
theorem dX12_layThings_55 : decode cX12_layThings 55 = .ok (.getfield 7, 3) := by decide +kernel
theorem dX12_layThings_58 : decode cX12_layThings 58 = .ok (.iload 5, 2) := by decide +kernel
theorem dX12_layThings_60 : decode cX12_layThings 60 = .ok (.iaload, 1) := by decide +kernel
theorem dX12_layThings_61 : decode cX12_layThings 61 = .ok (.if_icmp .ge 61, 3) := by decide +kernel
theorem dX12_layThings_64 : decode cX12_layThings 64 = .ok (.aload_n 0, 1) := by decide +kernel
theorem dX12_layThings_65 : decode cX12_layThings 65 = .ok (.getfield 104, 3) := by decide +kernel
theorem dX12_layThings_68 : decode cX12_layThings 68 = .ok (.aload_n 0, 1) := by decide +kernel
theorem dX12_layThings_69 : decode cX12_layThings 69 = .ok (.getfield 383, 3) := by decide +kernel
theorem dX12_layThings_72 : decode cX12_layThings 72 = .ok (.iload 4, 2) := by decide +kernel
theorem dX12_layThings_74 : decode cX12_layThings 74 = .ok (.iastore, 1) := by decide +kernel
theorem dX12_layThings_75 : decode cX12_layThings 75 = .ok (.aload_n 0, 1) := by decide +kernel
theorem dX12_layThings_76 : decode cX12_layThings 76 = .ok (.getfield 107, 3) := by decide +kernel
theorem dX12_layThings_79 : decode cX12_layThings 79 = .ok (.aload_n 0, 1) := by decide +kernel
theorem dX12_layThings_80 : decode cX12_layThings 80 = .ok (.getfield 383, 3) := by decide +kernel
theorem dX12_layThings_83 : decode cX12_layThings 83 = .ok (.iload 6, 2) := by decide +kernel
theorem dX12_layThings_85 : decode cX12_layThings 85 = .ok (.iastore, 1) := by decide +kernel
theorem dX12_layThings_86 : decode cX12_layThings 86 = .ok (.aload_n 0, 1) := by decide +kernel
theorem dX12_layThings_87 : decode cX12_layThings 87 = .ok (.getfield 110, 3) := by decide +kernel
theorem dX12_layThings_90 : decode cX12_layThings 90 = .ok (.aload_n 0, 1) := by decide +kernel
theorem dX12_layThings_91 : decode cX12_layThings 91 = .ok (.getfield 383, 3) := by decide +kernel
theorem dX12_layThings_94 : decode cX12_layThings 94 = .ok (.iload_n 3, 1) := by decide +kernel
theorem dX12_layThings_95 : decode cX12_layThings 95 = .ok (.ifCond .ne 8, 3) := by decide +kernel
theorem dX12_layThings_98 : decode cX12_layThings 98 = .ok (.iload 6, 2) := by decide +kernel
theorem dX12_layThings_100 : decode cX12_layThings 100 = .ok (.goto 5, 3) := by decide +kernel
theorem dX12_layThings_103 : decode cX12_layThings 103 = .ok (.iload 7, 2) := by decide +kernel
theorem dX12_layThings_105 : decode cX12_layThings 105 = .ok (.iastore, 1) := by decide +kernel
theorem dX12_layThings_106 : decode cX12_layThings 106 = .ok (.aload_n 0, 1) := by decide +kernel
theorem dX12_layThings_107 : decode cX12_layThings 107 = .ok (.dup, 1) := by decide +kernel
theorem dX12_layThings_108 : decode cX12_layThings 108 = .ok (.getfield 383, 3) := by decide +kernel
theorem dX12_layThings_111 : decode cX12_layThings 111 = .ok (.iconst 1, 1) := by decide +kernel
theorem dX12_layThings_112 : decode cX12_layThings 112 = .ok (.iadd, 1) := by decide +kernel
theorem dX12_layThings_113 : decode cX12_layThings 113 = .ok (.putfield 383, 3) := by decide +kernel
theorem dX12_layThings_116 : decode cX12_layThings 116 = .ok (.iinc 7 1, 3) := by decide +kernel
theorem dX12_layThings_119 : decode cX12_layThings 119 = .ok (.goto (-75), 3) := by decide +kernel
theorem dX12_layThings_122 : decode cX12_layThings 122 = .ok (.iinc 6 1, 3) := by decide +kernel
theorem dX12_layThings_125 : decode cX12_layThings 125 = .ok (.goto (-96), 3) := by decide +kernel
theorem dX12_layThings_128 : decode cX12_layThings 128 = .ok (.iinc 4 1, 3) := by decide +kernel
theorem dX12_layThings_131 : decode cX12_layThings 131 = .ok (.goto (-123), 3) := by decide +kernel
theorem dX12_layThings_134 : decode cX12_layThings 134 = .ok (.return_, 1) := by decide +kernel
theorem dX12_startsAlike_0 : decode cX12_startsAlike 0 = .ok (.aload_n 0, 1) := by decide +kernel
theorem dX12_startsAlike_1 : decode cX12_startsAlike 1 = .ok (.aload_n 0, 1) := by decide +kernel
theorem dX12_startsAlike_2 : decode cX12_startsAlike 2 = .ok (.getfield 104, 3) := by decide +kernel
theorem dX12_startsAlike_5 : decode cX12_startsAlike 5 = .ok (.iload_n 3, 1) := by decide +kernel
theorem dX12_startsAlike_6 : decode cX12_startsAlike 6 = .ok (.iaload, 1) := by decide +kernel
theorem dX12_startsAlike_7 : decode cX12_startsAlike 7 = .ok (.ifCond .ne 7, 3) := by decide +kernel
theorem dX12_startsAlike_10 : decode cX12_startsAlike 10 = .ok (.iload_n 1, 1) := by decide +kernel
theorem dX12_startsAlike_11 : decode cX12_startsAlike 11 = .ok (.goto 4, 3) := by decide +kernel
theorem dX12_startsAlike_14 : decode cX12_startsAlike 14 = .ok (.iload_n 2, 1) := by decide +kernel
theorem dX12_startsAlike_15 : decode cX12_startsAlike 15 = .ok (.aload_n 0, 1) := by decide +kernel
theorem dX12_startsAlike_16 : decode cX12_startsAlike 16 = .ok (.getfield 104, 3) := by decide +kernel
theorem dX12_startsAlike_19 : decode cX12_startsAlike 19 = .ok (.iload 4, 2) := by decide +kernel
theorem dX12_startsAlike_21 : decode cX12_startsAlike 21 = .ok (.iaload, 1) := by decide +kernel
theorem dX12_startsAlike_22 : decode cX12_startsAlike 22 = .ok (.ifCond .ne 7, 3) := by decide +kernel
theorem dX12_startsAlike_25 : decode cX12_startsAlike 25 = .ok (.iload_n 1, 1) := by decide +kernel
theorem dX12_startsAlike_26 : decode cX12_startsAlike 26 = .ok (.goto 4, 3) := by decide +kernel
theorem dX12_startsAlike_29 : decode cX12_startsAlike 29 = .ok (.iload_n 2, 1) := by decide +kernel
theorem dX12_startsAlike_30 : decode cX12_startsAlike 30 = .ok (.invokevirtual 198, 3) := by decide +kernel
theorem dX12_startsAlike_33 : decode cX12_startsAlike 33 = .ok (.aload_n 0, 1) := by decide +kernel
theorem dX12_startsAlike_34 : decode cX12_startsAlike 34 = .ok (.aload_n 0, 1) := by decide +kernel
theorem dX12_startsAlike_35 : decode cX12_startsAlike 35 = .ok (.getfield 107, 3) := by decide +kernel
theorem dX12_startsAlike_38 : decode cX12_startsAlike 38 = .ok (.iload_n 3, 1) := by decide +kernel
theorem dX12_startsAlike_39 : decode cX12_startsAlike 39 = .ok (.iaload, 1) := by decide +kernel
theorem dX12_startsAlike_40 : decode cX12_startsAlike 40 = .ok (.aload_n 0, 1) := by decide +kernel
theorem dX12_startsAlike_41 : decode cX12_startsAlike 41 = .ok (.getfield 107, 3) := by decide +kernel
theorem dX12_startsAlike_44 : decode cX12_startsAlike 44 = .ok (.iload 4, 2) := by decide +kernel
theorem dX12_startsAlike_46 : decode cX12_startsAlike 46 = .ok (.iaload, 1) := by decide +kernel
theorem dX12_startsAlike_47 : decode cX12_startsAlike 47 = .ok (.invokevirtual 175, 3) := by decide +kernel
theorem dX12_startsAlike_50 : decode cX12_startsAlike 50 = .ok (.aload_n 0, 1) := by decide +kernel
theorem dX12_startsAlike_51 : decode cX12_startsAlike 51 = .ok (.aload_n 0, 1) := by decide +kernel
theorem dX12_startsAlike_52 : decode cX12_startsAlike 52 = .ok (.getfield 110, 3) := by decide +kernel
theorem dX12_startsAlike_55 : decode cX12_startsAlike 55 = .ok (.iload_n 3, 1) := by decide +kernel
theorem dX12_startsAlike_56 : decode cX12_startsAlike 56 = .ok (.iaload, 1) := by decide +kernel
theorem dX12_startsAlike_57 : decode cX12_startsAlike 57 = .ok (.aload_n 0, 1) := by decide +kernel
theorem dX12_startsAlike_58 : decode cX12_startsAlike 58 = .ok (.getfield 110, 3) := by decide +kernel
theorem dX12_startsAlike_61 : decode cX12_startsAlike 61 = .ok (.iload 4, 2) := by decide +kernel
theorem dX12_startsAlike_63 : decode cX12_startsAlike 63 = .ok (.iaload, 1) := by decide +kernel
theorem dX12_startsAlike_64 : decode cX12_startsAlike 64 = .ok (.invokevirtual 175, 3) := by decide +kernel
theorem dX12_startsAlike_67 : decode cX12_startsAlike 67 = .ok (.aload_n 0, 1) := by decide +kernel
theorem dX12_startsAlike_68 : decode cX12_startsAlike 68 = .ok (.invokevirtual 178, 3) := by decide +kernel
theorem dX12_startsAlike_71 : decode cX12_startsAlike 71 = .ok (.ireturn, 1) := by decide +kernel
theorem dX12_tiedOf_0 : decode cX12_tiedOf 0 = .ok (.iconst 0, 1) := by decide +kernel
theorem dX12_tiedOf_1 : decode cX12_tiedOf 1 = .ok (.istore 4, 2) := by decide +kernel
theorem dX12_tiedOf_3 : decode cX12_tiedOf 3 = .ok (.iconst 0, 1) := by decide +kernel
theorem dX12_tiedOf_4 : decode cX12_tiedOf 4 = .ok (.istore 5, 2) := by decide +kernel
theorem dX12_tiedOf_6 : decode cX12_tiedOf 6 = .ok (.iload 5, 2) := by decide +kernel
theorem dX12_tiedOf_8 : decode cX12_tiedOf 8 = .ok (.aload_n 0, 1) := by decide +kernel
theorem dX12_tiedOf_9 : decode cX12_tiedOf 9 = .ok (.getfield 383, 3) := by decide +kernel
theorem dX12_tiedOf_12 : decode cX12_tiedOf 12 = .ok (.if_icmp .ge 95, 3) := by decide +kernel
theorem dX12_tiedOf_15 : decode cX12_tiedOf 15 = .ok (.aload_n 0, 1) := by decide +kernel
theorem dX12_tiedOf_16 : decode cX12_tiedOf 16 = .ok (.getfield 104, 3) := by decide +kernel
theorem dX12_tiedOf_19 : decode cX12_tiedOf 19 = .ok (.iload 5, 2) := by decide +kernel
theorem dX12_tiedOf_21 : decode cX12_tiedOf 21 = .ok (.iaload, 1) := by decide +kernel
theorem dX12_tiedOf_22 : decode cX12_tiedOf 22 = .ok (.aload_n 0, 1) := by decide +kernel
theorem dX12_tiedOf_23 : decode cX12_tiedOf 23 = .ok (.getfield 104, 3) := by decide +kernel
theorem dX12_tiedOf_26 : decode cX12_tiedOf 26 = .ok (.iload_n 2, 1) := by decide +kernel
theorem dX12_tiedOf_27 : decode cX12_tiedOf 27 = .ok (.iaload, 1) := by decide +kernel
theorem dX12_tiedOf_28 : decode cX12_tiedOf 28 = .ok (.if_icmp .ne 73, 3) := by decide +kernel
theorem dX12_tiedOf_31 : decode cX12_tiedOf 31 = .ok (.aload_n 0, 1) := by decide +kernel
theorem dX12_tiedOf_32 : decode cX12_tiedOf 32 = .ok (.getfield 98, 3) := by decide +kernel
theorem dX12_tiedOf_35 : decode cX12_tiedOf 35 = .ok (.iload 5, 2) := by decide +kernel
theorem dX12_tiedOf_37 : decode cX12_tiedOf 37 = .ok (.iaload, 1) := by decide +kernel
theorem dX12_tiedOf_38 : decode cX12_tiedOf 38 = .ok (.iload_n 3, 1) := by decide +kernel
theorem dX12_tiedOf_39 : decode cX12_tiedOf 39 = .ok (.if_icmp .ne 62, 3) := by decide +kernel
theorem dX12_tiedOf_42 : decode cX12_tiedOf 42 = .ok (.iload 4, 2) := by decide +kernel
theorem dX12_tiedOf_44 : decode cX12_tiedOf 44 = .ok (.aload_n 0, 1) := by decide +kernel
theorem dX12_tiedOf_45 : decode cX12_tiedOf 45 = .ok (.iload_n 1, 1) := by decide +kernel
theorem dX12_tiedOf_46 : decode cX12_tiedOf 46 = .ok (.aload_n 0, 1) := by decide +kernel
theorem dX12_tiedOf_47 : decode cX12_tiedOf 47 = .ok (.getfield 107, 3) := by decide +kernel
theorem dX12_tiedOf_50 : decode cX12_tiedOf 50 = .ok (.iload_n 2, 1) := by decide +kernel
theorem dX12_tiedOf_51 : decode cX12_tiedOf 51 = .ok (.iaload, 1) := by decide +kernel
theorem dX12_tiedOf_52 : decode cX12_tiedOf 52 = .ok (.aload_n 0, 1) := by decide +kernel
theorem dX12_tiedOf_53 : decode cX12_tiedOf 53 = .ok (.getfield 107, 3) := by decide +kernel
theorem dX12_tiedOf_56 : decode cX12_tiedOf 56 = .ok (.iload 5, 2) := by decide +kernel
theorem dX12_tiedOf_58 : decode cX12_tiedOf 58 = .ok (.iaload, 1) := by decide +kernel
theorem dX12_tiedOf_59 : decode cX12_tiedOf 59 = .ok (.invokevirtual 152, 3) := by decide +kernel
theorem dX12_tiedOf_62 : decode cX12_tiedOf 62 = .ok (.ifCond .eq 8, 3) := by decide +kernel
theorem dX12_tiedOf_65 : decode cX12_tiedOf 65 = .ok (.bipush 16, 2) := by decide +kernel
theorem dX12_tiedOf_67 : decode cX12_tiedOf 67 = .ok (.goto 4, 3) := by decide +kernel
theorem dX12_tiedOf_70 : decode cX12_tiedOf 70 = .ok (.iconst 0, 1) := by decide +kernel
theorem dX12_tiedOf_71 : decode cX12_tiedOf 71 = .ok (.aload_n 0, 1) := by decide +kernel
theorem dX12_tiedOf_72 : decode cX12_tiedOf 72 = .ok (.iload_n 1, 1) := by decide +kernel
theorem dX12_tiedOf_73 : decode cX12_tiedOf 73 = .ok (.aload_n 0, 1) := by decide +kernel
theorem dX12_tiedOf_74 : decode cX12_tiedOf 74 = .ok (.getfield 107, 3) := by decide +kernel
theorem dX12_tiedOf_77 : decode cX12_tiedOf 77 = .ok (.iload 5, 2) := by decide +kernel
theorem dX12_tiedOf_79 : decode cX12_tiedOf 79 = .ok (.iaload, 1) := by decide +kernel
theorem dX12_tiedOf_80 : decode cX12_tiedOf 80 = .ok (.aload_n 0, 1) := by decide +kernel
theorem dX12_tiedOf_81 : decode cX12_tiedOf 81 = .ok (.getfield 107, 3) := by decide +kernel
theorem dX12_tiedOf_84 : decode cX12_tiedOf 84 = .ok (.iload_n 2, 1) := by decide +kernel
theorem dX12_tiedOf_85 : decode cX12_tiedOf 85 = .ok (.iaload, 1) := by decide +kernel
theorem dX12_tiedOf_86 : decode cX12_tiedOf 86 = .ok (.invokevirtual 152, 3) := by decide +kernel
theorem dX12_tiedOf_89 : decode cX12_tiedOf 89 = .ok (.ifCond .eq 7, 3) := by decide +kernel
theorem dX12_tiedOf_92 : decode cX12_tiedOf 92 = .ok (.iconst 1, 1) := by decide +kernel
theorem dX12_tiedOf_93 : decode cX12_tiedOf 93 = .ok (.goto 4, 3) := by decide +kernel
theorem dX12_tiedOf_96 : decode cX12_tiedOf 96 = .ok (.iconst 0, 1) := by decide +kernel
theorem dX12_tiedOf_97 : decode cX12_tiedOf 97 = .ok (.iadd, 1) := by decide +kernel
theorem dX12_tiedOf_98 : decode cX12_tiedOf 98 = .ok (.iadd, 1) := by decide +kernel
theorem dX12_tiedOf_99 : decode cX12_tiedOf 99 = .ok (.istore 4, 2) := by decide +kernel
theorem dX12_tiedOf_101 : decode cX12_tiedOf 101 = .ok (.iinc 5 1, 3) := by decide +kernel
theorem dX12_tiedOf_104 : decode cX12_tiedOf 104 = .ok (.goto (-98), 3) := by decide +kernel
theorem dX12_tiedOf_107 : decode cX12_tiedOf 107 = .ok (.iload 4, 2) := by decide +kernel
theorem dX12_tiedOf_109 : decode cX12_tiedOf 109 = .ok (.ireturn, 1) := by decide +kernel
theorem dX12_gather_0 : decode cX12_gather 0 = .ok (.aload_n 0, 1) := by decide +kernel
theorem dX12_gather_1 : decode cX12_gather 1 = .ok (.getfield 113, 3) := by decide +kernel
theorem dX12_gather_4 : decode cX12_gather 4 = .ok (.iload_n 1, 1) := by decide +kernel
theorem dX12_gather_5 : decode cX12_gather 5 = .ok (.lconst 0, 1) := by decide +kernel
theorem dX12_gather_6 : decode cX12_gather 6 = .ok (.lastore, 1) := by decide +kernel
theorem dX12_gather_7 : decode cX12_gather 7 = .ok (.aload_n 0, 1) := by decide +kernel
theorem dX12_gather_8 : decode cX12_gather 8 = .ok (.getfield 117, 3) := by decide +kernel
theorem dX12_gather_11 : decode cX12_gather 11 = .ok (.iload_n 1, 1) := by decide +kernel
theorem dX12_gather_12 : decode cX12_gather 12 = .ok (.lconst 0, 1) := by decide +kernel
theorem dX12_gather_13 : decode cX12_gather 13 = .ok (.lastore, 1) := by decide +kernel
theorem dX12_gather_14 : decode cX12_gather 14 = .ok (.aload_n 0, 1) := by decide +kernel
theorem dX12_gather_15 : decode cX12_gather 15 = .ok (.getfield 120, 3) := by decide +kernel
theorem dX12_gather_18 : decode cX12_gather 18 = .ok (.iload_n 1, 1) := by decide +kernel
theorem dX12_gather_19 : decode cX12_gather 19 = .ok (.lconst 0, 1) := by decide +kernel
theorem dX12_gather_20 : decode cX12_gather 20 = .ok (.lastore, 1) := by decide +kernel
theorem dX12_gather_21 : decode cX12_gather 21 = .ok (.aload_n 0, 1) := by decide +kernel
theorem dX12_gather_22 : decode cX12_gather 22 = .ok (.getfield 123, 3) := by decide +kernel
theorem dX12_gather_25 : decode cX12_gather 25 = .ok (.iload_n 1, 1) := by decide +kernel
theorem dX12_gather_26 : decode cX12_gather 26 = .ok (.lconst 0, 1) := by decide +kernel
theorem dX12_gather_27 : decode cX12_gather 27 = .ok (.lastore, 1) := by decide +kernel
theorem dX12_gather_28 : decode cX12_gather 28 = .ok (.iconst 0, 1) := by decide +kernel
theorem dX12_gather_29 : decode cX12_gather 29 = .ok (.istore_n 2, 1) := by decide +kernel
theorem dX12_gather_30 : decode cX12_gather 30 = .ok (.iload_n 2, 1) := by decide +kernel
theorem dX12_gather_31 : decode cX12_gather 31 = .ok (.aload_n 0, 1) := by decide +kernel
theorem dX12_gather_32 : decode cX12_gather 32 = .ok (.getfield 383, 3) := by decide +kernel
theorem dX12_gather_35 : decode cX12_gather 35 = .ok (.if_icmp .ge 194, 3) := by decide +kernel
theorem dX12_gather_38 : decode cX12_gather 38 = .ok (.aload_n 0, 1) := by decide +kernel
theorem dX12_gather_39 : decode cX12_gather 39 = .ok (.getfield 104, 3) := by decide +kernel
theorem dX12_gather_42 : decode cX12_gather 42 = .ok (.iload_n 2, 1) := by decide +kernel
theorem dX12_gather_43 : decode cX12_gather 43 = .ok (.iaload, 1) := by decide +kernel
theorem dX12_gather_44 : decode cX12_gather 44 = .ok (.aload_n 0, 1) := by decide +kernel
theorem dX12_gather_45 : decode cX12_gather 45 = .ok (.getfield 104, 3) := by decide +kernel
theorem dX12_gather_48 : decode cX12_gather 48 = .ok (.iload_n 1, 1) := by decide +kernel
theorem dX12_gather_49 : decode cX12_gather 49 = .ok (.iaload, 1) := by decide +kernel
theorem dX12_gather_50 : decode cX12_gather 50 = .ok (.if_icmp .ne 173, 3) := by decide +kernel
theorem dX12_gather_53 : decode cX12_gather 53 = .ok (.aload_n 0, 1) := by decide +kernel
theorem dX12_gather_54 : decode cX12_gather 54 = .ok (.getfield 98, 3) := by decide +kernel
theorem dX12_gather_57 : decode cX12_gather 57 = .ok (.iload_n 2, 1) := by decide +kernel
theorem dX12_gather_58 : decode cX12_gather 58 = .ok (.iaload, 1) := by decide +kernel
theorem dX12_gather_59 : decode cX12_gather 59 = .ok (.bipush 36, 2) := by decide +kernel
theorem dX12_gather_61 : decode cX12_gather 61 = .ok (.if_icmp .ge 14, 3) := by decide +kernel
theorem dX12_gather_64 : decode cX12_gather 64 = .ok (.lconst 1, 1) := by decide +kernel
theorem dX12_gather_65 : decode cX12_gather 65 = .ok (.aload_n 0, 1) := by decide +kernel
theorem dX12_gather_66 : decode cX12_gather 66 = .ok (.getfield 98, 3) := by decide +kernel
theorem dX12_gather_69 : decode cX12_gather 69 = .ok (.iload_n 2, 1) := by decide +kernel
theorem dX12_gather_70 : decode cX12_gather 70 = .ok (.iaload, 1) := by decide +kernel
theorem dX12_gather_71 : decode cX12_gather 71 = .ok (.lshl, 1) := by decide +kernel
theorem dX12_gather_72 : decode cX12_gather 72 = .ok (.goto 4, 3) := by decide +kernel
theorem dX12_gather_75 : decode cX12_gather 75 = .ok (.lconst 0, 1) := by decide +kernel
theorem dX12_gather_76 : decode cX12_gather 76 = .ok (.lstore_n 3, 1) := by decide +kernel
theorem dX12_gather_77 : decode cX12_gather 77 = .ok (.aload_n 0, 1) := by decide +kernel
theorem dX12_gather_78 : decode cX12_gather 78 = .ok (.getfield 98, 3) := by decide +kernel
theorem dX12_gather_81 : decode cX12_gather 81 = .ok (.iload_n 2, 1) := by decide +kernel
theorem dX12_gather_82 : decode cX12_gather 82 = .ok (.iaload, 1) := by decide +kernel
theorem dX12_gather_83 : decode cX12_gather 83 = .ok (.bipush 36, 2) := by decide +kernel
theorem dX12_gather_85 : decode cX12_gather 85 = .ok (.if_icmp .ge 7, 3) := by decide +kernel
theorem dX12_gather_88 : decode cX12_gather 88 = .ok (.lconst 0, 1) := by decide +kernel
theorem dX12_gather_89 : decode cX12_gather 89 = .ok (.goto 14, 3) := by decide +kernel
theorem dX12_gather_92 : decode cX12_gather 92 = .ok (.lconst 1, 1) := by decide +kernel
theorem dX12_gather_93 : decode cX12_gather 93 = .ok (.aload_n 0, 1) := by decide +kernel
theorem dX12_gather_94 : decode cX12_gather 94 = .ok (.getfield 98, 3) := by decide +kernel
theorem dX12_gather_97 : decode cX12_gather 97 = .ok (.iload_n 2, 1) := by decide +kernel
theorem dX12_gather_98 : decode cX12_gather 98 = .ok (.iaload, 1) := by decide +kernel
theorem dX12_gather_99 : decode cX12_gather 99 = .ok (.bipush 36, 2) := by decide +kernel
theorem dX12_gather_101 : decode cX12_gather 101 = .ok (.isub, 1) := by decide +kernel
theorem dX12_gather_102 : decode cX12_gather 102 = .ok (.lshl, 1) := by decide +kernel
theorem dX12_gather_103 : decode cX12_gather 103 = .ok (.lstore 5, 2) := by decide +kernel
theorem dX12_gather_105 : decode cX12_gather 105 = .ok (.aload_n 0, 1) := by decide +kernel
theorem dX12_gather_106 : decode cX12_gather 106 = .ok (.getfield 113, 3) := by decide +kernel
theorem dX12_gather_109 : decode cX12_gather 109 = .ok (.iload_n 1, 1) := by decide +kernel
theorem dX12_gather_110 : decode cX12_gather 110 = .ok (.dup2, 1) := by decide +kernel
theorem dX12_gather_111 : decode cX12_gather 111 = .ok (.laload, 1) := by decide +kernel
theorem dX12_gather_112 : decode cX12_gather 112 = .ok (.aload_n 0, 1) := by decide +kernel
theorem dX12_gather_113 : decode cX12_gather 113 = .ok (.getfield 110, 3) := by decide +kernel
theorem dX12_gather_116 : decode cX12_gather 116 = .ok (.iload_n 2, 1) := by decide +kernel
theorem dX12_gather_117 : decode cX12_gather 117 = .ok (.iaload, 1) := by decide +kernel
theorem dX12_gather_118 : decode cX12_gather 118 = .ok (.aload_n 0, 1) := by decide +kernel
theorem dX12_gather_119 : decode cX12_gather 119 = .ok (.getfield 110, 3) := by decide +kernel
theorem dX12_gather_122 : decode cX12_gather 122 = .ok (.iload_n 1, 1) := by decide +kernel
theorem dX12_gather_123 : decode cX12_gather 123 = .ok (.iaload, 1) := by decide +kernel
theorem dX12_gather_124 : decode cX12_gather 124 = .ok (.if_icmp .ne 7, 3) := by decide +kernel
theorem dX12_gather_127 : decode cX12_gather 127 = .ok (.lload_n 3, 1) := by decide +kernel
theorem dX12_gather_128 : decode cX12_gather 128 = .ok (.goto 4, 3) := by decide +kernel
theorem dX12_gather_131 : decode cX12_gather 131 = .ok (.lconst 0, 1) := by decide +kernel
theorem dX12_gather_132 : decode cX12_gather 132 = .ok (.lor, 1) := by decide +kernel
theorem dX12_gather_133 : decode cX12_gather 133 = .ok (.lastore, 1) := by decide +kernel
theorem dX12_gather_134 : decode cX12_gather 134 = .ok (.aload_n 0, 1) := by decide +kernel
theorem dX12_gather_135 : decode cX12_gather 135 = .ok (.getfield 117, 3) := by decide +kernel
theorem dX12_gather_138 : decode cX12_gather 138 = .ok (.iload_n 1, 1) := by decide +kernel
theorem dX12_gather_139 : decode cX12_gather 139 = .ok (.dup2, 1) := by decide +kernel
theorem dX12_gather_140 : decode cX12_gather 140 = .ok (.laload, 1) := by decide +kernel
theorem dX12_gather_141 : decode cX12_gather 141 = .ok (.aload_n 0, 1) := by decide +kernel
theorem dX12_gather_142 : decode cX12_gather 142 = .ok (.getfield 110, 3) := by decide +kernel
theorem dX12_gather_145 : decode cX12_gather 145 = .ok (.iload_n 2, 1) := by decide +kernel
theorem dX12_gather_146 : decode cX12_gather 146 = .ok (.iaload, 1) := by decide +kernel
theorem dX12_gather_147 : decode cX12_gather 147 = .ok (.aload_n 0, 1) := by decide +kernel
theorem dX12_gather_148 : decode cX12_gather 148 = .ok (.getfield 110, 3) := by decide +kernel
theorem dX12_gather_151 : decode cX12_gather 151 = .ok (.iload_n 1, 1) := by decide +kernel
theorem dX12_gather_152 : decode cX12_gather 152 = .ok (.iaload, 1) := by decide +kernel
theorem dX12_gather_153 : decode cX12_gather 153 = .ok (.if_icmp .ne 8, 3) := by decide +kernel
theorem dX12_gather_156 : decode cX12_gather 156 = .ok (.lload 5, 2) := by decide +kernel
theorem dX12_gather_158 : decode cX12_gather 158 = .ok (.goto 4, 3) := by decide +kernel
theorem dX12_gather_161 : decode cX12_gather 161 = .ok (.lconst 0, 1) := by decide +kernel
theorem dX12_gather_162 : decode cX12_gather 162 = .ok (.lor, 1) := by decide +kernel
theorem dX12_gather_163 : decode cX12_gather 163 = .ok (.lastore, 1) := by decide +kernel
theorem dX12_gather_164 : decode cX12_gather 164 = .ok (.aload_n 0, 1) := by decide +kernel
theorem dX12_gather_165 : decode cX12_gather 165 = .ok (.getfield 120, 3) := by decide +kernel
theorem dX12_gather_168 : decode cX12_gather 168 = .ok (.iload_n 1, 1) := by decide +kernel
theorem dX12_gather_169 : decode cX12_gather 169 = .ok (.dup2, 1) := by decide +kernel
theorem dX12_gather_170 : decode cX12_gather 170 = .ok (.laload, 1) := by decide +kernel
theorem dX12_gather_171 : decode cX12_gather 171 = .ok (.aload_n 0, 1) := by decide +kernel
theorem dX12_gather_172 : decode cX12_gather 172 = .ok (.getfield 107, 3) := by decide +kernel
theorem dX12_gather_175 : decode cX12_gather 175 = .ok (.iload_n 2, 1) := by decide +kernel
theorem dX12_gather_176 : decode cX12_gather 176 = .ok (.iaload, 1) := by decide +kernel
theorem dX12_gather_177 : decode cX12_gather 177 = .ok (.aload_n 0, 1) := by decide +kernel
theorem dX12_gather_178 : decode cX12_gather 178 = .ok (.getfield 107, 3) := by decide +kernel
theorem dX12_gather_181 : decode cX12_gather 181 = .ok (.iload_n 1, 1) := by decide +kernel
theorem dX12_gather_182 : decode cX12_gather 182 = .ok (.iaload, 1) := by decide +kernel
theorem dX12_gather_183 : decode cX12_gather 183 = .ok (.if_icmp .ne 7, 3) := by decide +kernel
theorem dX12_gather_186 : decode cX12_gather 186 = .ok (.lload_n 3, 1) := by decide +kernel
theorem dX12_gather_187 : decode cX12_gather 187 = .ok (.goto 4, 3) := by decide +kernel
theorem dX12_gather_190 : decode cX12_gather 190 = .ok (.lconst 0, 1) := by decide +kernel
theorem dX12_gather_191 : decode cX12_gather 191 = .ok (.lor, 1) := by decide +kernel
theorem dX12_gather_192 : decode cX12_gather 192 = .ok (.lastore, 1) := by decide +kernel
theorem dX12_gather_193 : decode cX12_gather 193 = .ok (.aload_n 0, 1) := by decide +kernel
theorem dX12_gather_194 : decode cX12_gather 194 = .ok (.getfield 123, 3) := by decide +kernel
theorem dX12_gather_197 : decode cX12_gather 197 = .ok (.iload_n 1, 1) := by decide +kernel
theorem dX12_gather_198 : decode cX12_gather 198 = .ok (.dup2, 1) := by decide +kernel
theorem dX12_gather_199 : decode cX12_gather 199 = .ok (.laload, 1) := by decide +kernel
theorem dX12_gather_200 : decode cX12_gather 200 = .ok (.aload_n 0, 1) := by decide +kernel
theorem dX12_gather_201 : decode cX12_gather 201 = .ok (.getfield 107, 3) := by decide +kernel
theorem dX12_gather_204 : decode cX12_gather 204 = .ok (.iload_n 2, 1) := by decide +kernel
theorem dX12_gather_205 : decode cX12_gather 205 = .ok (.iaload, 1) := by decide +kernel
theorem dX12_gather_206 : decode cX12_gather 206 = .ok (.aload_n 0, 1) := by decide +kernel
theorem dX12_gather_207 : decode cX12_gather 207 = .ok (.getfield 107, 3) := by decide +kernel
theorem dX12_gather_210 : decode cX12_gather 210 = .ok (.iload_n 1, 1) := by decide +kernel
theorem dX12_gather_211 : decode cX12_gather 211 = .ok (.iaload, 1) := by decide +kernel
theorem dX12_gather_212 : decode cX12_gather 212 = .ok (.if_icmp .ne 8, 3) := by decide +kernel
theorem dX12_gather_215 : decode cX12_gather 215 = .ok (.lload 5, 2) := by decide +kernel
theorem dX12_gather_217 : decode cX12_gather 217 = .ok (.goto 4, 3) := by decide +kernel
theorem dX12_gather_220 : decode cX12_gather 220 = .ok (.lconst 0, 1) := by decide +kernel
theorem dX12_gather_221 : decode cX12_gather 221 = .ok (.lor, 1) := by decide +kernel
theorem dX12_gather_222 : decode cX12_gather 222 = .ok (.lastore, 1) := by decide +kernel
theorem dX12_gather_223 : decode cX12_gather 223 = .ok (.iinc 2 1, 3) := by decide +kernel
theorem dX12_gather_226 : decode cX12_gather 226 = .ok (.goto (-196), 3) := by decide +kernel
theorem dX12_gather_229 : decode cX12_gather 229 = .ok (.return_, 1) := by decide +kernel
theorem dX12_staysWith_0 : decode cX12_staysWith 0 = .ok (.aload_n 0, 1) := by decide +kernel
theorem dX12_staysWith_1 : decode cX12_staysWith 1 = .ok (.getfield 98, 3) := by decide +kernel
theorem dX12_staysWith_4 : decode cX12_staysWith 4 = .ok (.iload 4, 2) := by decide +kernel
theorem dX12_staysWith_6 : decode cX12_staysWith 6 = .ok (.iaload, 1) := by decide +kernel
theorem dX12_staysWith_7 : decode cX12_staysWith 7 = .ok (.aload_n 0, 1) := by decide +kernel
theorem dX12_staysWith_8 : decode cX12_staysWith 8 = .ok (.getfield 98, 3) := by decide +kernel
theorem dX12_staysWith_11 : decode cX12_staysWith 11 = .ok (.iload 5, 2) := by decide +kernel
theorem dX12_staysWith_13 : decode cX12_staysWith 13 = .ok (.iaload, 1) := by decide +kernel
theorem dX12_staysWith_14 : decode cX12_staysWith 14 = .ok (.if_icmp .ne 7, 3) := by decide +kernel
theorem dX12_staysWith_17 : decode cX12_staysWith 17 = .ok (.iconst 1, 1) := by decide +kernel
theorem dX12_staysWith_18 : decode cX12_staysWith 18 = .ok (.goto 4, 3) := by decide +kernel
theorem dX12_staysWith_21 : decode cX12_staysWith 21 = .ok (.iconst 0, 1) := by decide +kernel
theorem dX12_staysWith_22 : decode cX12_staysWith 22 = .ok (.istore 6, 2) := by decide +kernel
theorem dX12_staysWith_24 : decode cX12_staysWith 24 = .ok (.iconst 0, 1) := by decide +kernel
theorem dX12_staysWith_25 : decode cX12_staysWith 25 = .ok (.istore 7, 2) := by decide +kernel
theorem dX12_staysWith_27 : decode cX12_staysWith 27 = .ok (.iload 7, 2) := by decide +kernel
theorem dX12_staysWith_29 : decode cX12_staysWith 29 = .ok (.aload_n 0, 1) := by decide +kernel
theorem dX12_staysWith_30 : decode cX12_staysWith 30 = .ok (.getfield 130, 3) := by decide +kernel
theorem dX12_staysWith_33 : decode cX12_staysWith 33 = .ok (.if_icmp .ge 74, 3) := by decide +kernel
theorem dX12_staysWith_36 : decode cX12_staysWith 36 = .ok (.iload 6, 2) := by decide +kernel
theorem dX12_staysWith_38 : decode cX12_staysWith 38 = .ok (.ifCond .eq 69, 3) := by decide +kernel
theorem dX12_staysWith_41 : decode cX12_staysWith 41 = .ok (.iload_n 3, 1) := by decide +kernel
theorem dX12_staysWith_42 : decode cX12_staysWith 42 = .ok (.ifCond .ne 65, 3) := by decide +kernel
theorem dX12_staysWith_45 : decode cX12_staysWith 45 = .ok (.aload_n 0, 1) := by decide +kernel
theorem dX12_staysWith_46 : decode cX12_staysWith 46 = .ok (.aload_n 0, 1) := by decide +kernel
theorem dX12_staysWith_47 : decode cX12_staysWith 47 = .ok (.getfield 104, 3) := by decide +kernel
theorem dX12_staysWith_50 : decode cX12_staysWith 50 = .ok (.iload 4, 2) := by decide +kernel
theorem dX12_staysWith_52 : decode cX12_staysWith 52 = .ok (.iaload, 1) := by decide +kernel
theorem dX12_staysWith_53 : decode cX12_staysWith 53 = .ok (.ifCond .ne 7, 3) := by decide +kernel
theorem dX12_staysWith_56 : decode cX12_staysWith 56 = .ok (.iload_n 1, 1) := by decide +kernel
theorem dX12_staysWith_57 : decode cX12_staysWith 57 = .ok (.goto 4, 3) := by decide +kernel
theorem dX12_staysWith_60 : decode cX12_staysWith 60 = .ok (.iload_n 2, 1) := by decide +kernel
theorem dX12_staysWith_61 : decode cX12_staysWith 61 = .ok (.iload 4, 2) := by decide +kernel
theorem dX12_staysWith_63 : decode cX12_staysWith 63 = .ok (.iload 7, 2) := by decide +kernel
theorem dX12_staysWith_65 : decode cX12_staysWith 65 = .ok (.invokevirtual 386, 3) := by decide +kernel
theorem dX12_staysWith_68 : decode cX12_staysWith 68 = .ok (.aload_n 0, 1) := by decide +kernel
theorem dX12_staysWith_69 : decode cX12_staysWith 69 = .ok (.aload_n 0, 1) := by decide +kernel
theorem dX12_staysWith_70 : decode cX12_staysWith 70 = .ok (.getfield 104, 3) := by decide +kernel
theorem dX12_staysWith_73 : decode cX12_staysWith 73 = .ok (.iload 5, 2) := by decide +kernel
theorem dX12_staysWith_75 : decode cX12_staysWith 75 = .ok (.iaload, 1) := by decide +kernel
theorem dX12_staysWith_76 : decode cX12_staysWith 76 = .ok (.ifCond .ne 7, 3) := by decide +kernel
theorem dX12_staysWith_79 : decode cX12_staysWith 79 = .ok (.iload_n 1, 1) := by decide +kernel
theorem dX12_staysWith_80 : decode cX12_staysWith 80 = .ok (.goto 4, 3) := by decide +kernel
theorem dX12_staysWith_83 : decode cX12_staysWith 83 = .ok (.iload_n 2, 1) := by decide +kernel
theorem dX12_staysWith_84 : decode cX12_staysWith 84 = .ok (.iload 5, 2) := by decide +kernel
theorem dX12_staysWith_86 : decode cX12_staysWith 86 = .ok (.iload 7, 2) := by decide +kernel
theorem dX12_staysWith_88 : decode cX12_staysWith 88 = .ok (.invokevirtual 386, 3) := by decide +kernel
theorem dX12_staysWith_91 : decode cX12_staysWith 91 = .ok (.if_icmp .ne 7, 3) := by decide +kernel
theorem dX12_staysWith_94 : decode cX12_staysWith 94 = .ok (.iconst 1, 1) := by decide +kernel
theorem dX12_staysWith_95 : decode cX12_staysWith 95 = .ok (.goto 4, 3) := by decide +kernel
theorem dX12_staysWith_98 : decode cX12_staysWith 98 = .ok (.iconst 0, 1) := by decide +kernel
theorem dX12_staysWith_99 : decode cX12_staysWith 99 = .ok (.istore 6, 2) := by decide +kernel
theorem dX12_staysWith_101 : decode cX12_staysWith 101 = .ok (.iinc 7 1, 3) := by decide +kernel
theorem dX12_staysWith_104 : decode cX12_staysWith 104 = .ok (.goto (-77), 3) := by decide +kernel
theorem dX12_staysWith_107 : decode cX12_staysWith 107 = .ok (.iload 6, 2) := by decide +kernel
theorem dX12_staysWith_109 : decode cX12_staysWith 109 = .ok (.ifCond .eq 83, 3) := by decide +kernel
theorem dX12_staysWith_112 : decode cX12_staysWith 112 = .ok (.iload_n 3, 1) := by decide +kernel
theorem dX12_staysWith_113 : decode cX12_staysWith 113 = .ok (.ifCond .eq 75, 3) := by decide +kernel
theorem dX12_staysWith_116 : decode cX12_staysWith 116 = .ok (.aload_n 0, 1) := by decide +kernel
theorem dX12_staysWith_117 : decode cX12_staysWith 117 = .ok (.getfield 113, 3) := by decide +kernel
theorem dX12_staysWith_120 : decode cX12_staysWith 120 = .ok (.iload 4, 2) := by decide +kernel
theorem dX12_staysWith_122 : decode cX12_staysWith 122 = .ok (.laload, 1) := by decide +kernel
theorem dX12_staysWith_123 : decode cX12_staysWith 123 = .ok (.aload_n 0, 1) := by decide +kernel
theorem dX12_staysWith_124 : decode cX12_staysWith 124 = .ok (.getfield 113, 3) := by decide +kernel
theorem dX12_staysWith_127 : decode cX12_staysWith 127 = .ok (.iload 5, 2) := by decide +kernel
theorem dX12_staysWith_129 : decode cX12_staysWith 129 = .ok (.laload, 1) := by decide +kernel
theorem dX12_staysWith_130 : decode cX12_staysWith 130 = .ok (.lcmp, 1) := by decide +kernel
theorem dX12_staysWith_131 : decode cX12_staysWith 131 = .ok (.ifCond .ne 61, 3) := by decide +kernel
theorem dX12_staysWith_134 : decode cX12_staysWith 134 = .ok (.aload_n 0, 1) := by decide +kernel
theorem dX12_staysWith_135 : decode cX12_staysWith 135 = .ok (.getfield 117, 3) := by decide +kernel
theorem dX12_staysWith_138 : decode cX12_staysWith 138 = .ok (.iload 4, 2) := by decide +kernel
theorem dX12_staysWith_140 : decode cX12_staysWith 140 = .ok (.laload, 1) := by decide +kernel
theorem dX12_staysWith_141 : decode cX12_staysWith 141 = .ok (.aload_n 0, 1) := by decide +kernel
theorem dX12_staysWith_142 : decode cX12_staysWith 142 = .ok (.getfield 117, 3) := by decide +kernel
theorem dX12_staysWith_145 : decode cX12_staysWith 145 = .ok (.iload 5, 2) := by decide +kernel
theorem dX12_staysWith_147 : decode cX12_staysWith 147 = .ok (.laload, 1) := by decide +kernel
theorem dX12_staysWith_148 : decode cX12_staysWith 148 = .ok (.lcmp, 1) := by decide +kernel
theorem dX12_staysWith_149 : decode cX12_staysWith 149 = .ok (.ifCond .ne 43, 3) := by decide +kernel
theorem dX12_staysWith_152 : decode cX12_staysWith 152 = .ok (.aload_n 0, 1) := by decide +kernel
theorem dX12_staysWith_153 : decode cX12_staysWith 153 = .ok (.getfield 120, 3) := by decide +kernel
theorem dX12_staysWith_156 : decode cX12_staysWith 156 = .ok (.iload 4, 2) := by decide +kernel
theorem dX12_staysWith_158 : decode cX12_staysWith 158 = .ok (.laload, 1) := by decide +kernel
theorem dX12_staysWith_159 : decode cX12_staysWith 159 = .ok (.aload_n 0, 1) := by decide +kernel
theorem dX12_staysWith_160 : decode cX12_staysWith 160 = .ok (.getfield 120, 3) := by decide +kernel
theorem dX12_staysWith_163 : decode cX12_staysWith 163 = .ok (.iload 5, 2) := by decide +kernel
theorem dX12_staysWith_165 : decode cX12_staysWith 165 = .ok (.laload, 1) := by decide +kernel
theorem dX12_staysWith_166 : decode cX12_staysWith 166 = .ok (.lcmp, 1) := by decide +kernel
theorem dX12_staysWith_167 : decode cX12_staysWith 167 = .ok (.ifCond .ne 25, 3) := by decide +kernel
theorem dX12_staysWith_170 : decode cX12_staysWith 170 = .ok (.aload_n 0, 1) := by decide +kernel
theorem dX12_staysWith_171 : decode cX12_staysWith 171 = .ok (.getfield 123, 3) := by decide +kernel
theorem dX12_staysWith_174 : decode cX12_staysWith 174 = .ok (.iload 4, 2) := by decide +kernel
theorem dX12_staysWith_176 : decode cX12_staysWith 176 = .ok (.laload, 1) := by decide +kernel
theorem dX12_staysWith_177 : decode cX12_staysWith 177 = .ok (.aload_n 0, 1) := by decide +kernel
theorem dX12_staysWith_178 : decode cX12_staysWith 178 = .ok (.getfield 123, 3) := by decide +kernel
theorem dX12_staysWith_181 : decode cX12_staysWith 181 = .ok (.iload 5, 2) := by decide +kernel
theorem dX12_staysWith_183 : decode cX12_staysWith 183 = .ok (.laload, 1) := by decide +kernel
theorem dX12_staysWith_184 : decode cX12_staysWith 184 = .ok (.lcmp, 1) := by decide +kernel
theorem dX12_staysWith_185 : decode cX12_staysWith 185 = .ok (.ifCond .ne 7, 3) := by decide +kernel
theorem dX12_staysWith_188 : decode cX12_staysWith 188 = .ok (.iconst 1, 1) := by decide +kernel
theorem dX12_staysWith_189 : decode cX12_staysWith 189 = .ok (.goto 4, 3) := by decide +kernel
theorem dX12_staysWith_192 : decode cX12_staysWith 192 = .ok (.iconst 0, 1) := by decide +kernel
theorem dX12_staysWith_193 : decode cX12_staysWith 193 = .ok (.ireturn, 1) := by decide +kernel
theorem dX12_step_0 : decode cX12_step 0 = .ok (.iconst 0, 1) := by decide +kernel
theorem dX12_step_1 : decode cX12_step 1 = .ok (.istore 5, 2) := by decide +kernel
theorem dX12_step_3 : decode cX12_step 3 = .ok (.iconst 0, 1) := by decide +kernel
theorem dX12_step_4 : decode cX12_step 4 = .ok (.istore 6, 2) := by decide +kernel
theorem dX12_step_6 : decode cX12_step 6 = .ok (.iload 6, 2) := by decide +kernel
theorem dX12_step_8 : decode cX12_step 8 = .ok (.aload_n 0, 1) := by decide +kernel
theorem dX12_step_9 : decode cX12_step 9 = .ok (.getfield 383, 3) := by decide +kernel
theorem dX12_step_12 : decode cX12_step 12 = .ok (.if_icmp .ge 25, 3) := by decide +kernel
theorem dX12_step_15 : decode cX12_step 15 = .ok (.iload 4, 2) := by decide +kernel
theorem dX12_step_17 : decode cX12_step 17 = .ok (.ifCond .ne 20, 3) := by decide +kernel
theorem dX12_step_20 : decode cX12_step 20 = .ok (.iload_n 3, 1) := by decide +kernel
theorem dX12_step_21 : decode cX12_step 21 = .ok (.iconst 1, 1) := by decide +kernel
theorem dX12_step_22 : decode cX12_step 22 = .ok (.if_icmp .ne 15, 3) := by decide +kernel
theorem dX12_step_25 : decode cX12_step 25 = .ok (.aload_n 0, 1) := by decide +kernel
theorem dX12_step_26 : decode cX12_step 26 = .ok (.iload 6, 2) := by decide +kernel
theorem dX12_step_28 : decode cX12_step 28 = .ok (.invokevirtual 389, 3) := by decide +kernel
theorem dX12_step_31 : decode cX12_step 31 = .ok (.iinc 6 1, 3) := by decide +kernel
theorem dX12_step_34 : decode cX12_step 34 = .ok (.goto (-28), 3) := by decide +kernel
theorem dX12_step_37 : decode cX12_step 37 = .ok (.iconst 0, 1) := by decide +kernel
theorem dX12_step_38 : decode cX12_step 38 = .ok (.istore 6, 2) := by decide +kernel
theorem dX12_step_40 : decode cX12_step 40 = .ok (.iload 6, 2) := by decide +kernel
theorem dX12_step_42 : decode cX12_step 42 = .ok (.aload_n 0, 1) := by decide +kernel
theorem dX12_step_43 : decode cX12_step 43 = .ok (.getfield 383, 3) := by decide +kernel
theorem dX12_step_46 : decode cX12_step 46 = .ok (.if_icmp .ge 116, 3) := by decide +kernel
theorem dX12_step_49 : decode cX12_step 49 = .ok (.iconst (-1), 1) := by decide +kernel
theorem dX12_step_50 : decode cX12_step 50 = .ok (.istore 7, 2) := by decide +kernel
theorem dX12_step_52 : decode cX12_step 52 = .ok (.iconst 0, 1) := by decide +kernel
theorem dX12_step_53 : decode cX12_step 53 = .ok (.istore 8, 2) := by decide +kernel
theorem dX12_step_55 : decode cX12_step 55 = .ok (.iload 8, 2) := by decide +kernel
theorem dX12_step_57 : decode cX12_step 57 = .ok (.iload 5, 2) := by decide +kernel
theorem dX12_step_59 : decode cX12_step 59 = .ok (.if_icmp .ge 67, 3) := by decide +kernel
theorem dX12_step_62 : decode cX12_step 62 = .ok (.iload 7, 2) := by decide +kernel
theorem dX12_step_64 : decode cX12_step 64 = .ok (.ifCond .ge 62, 3) := by decide +kernel
theorem dX12_step_67 : decode cX12_step 67 = .ok (.iload 4, 2) := by decide +kernel
theorem dX12_step_69 : decode cX12_step 69 = .ok (.ifCond .eq 24, 3) := by decide +kernel
theorem dX12_step_72 : decode cX12_step 72 = .ok (.aload_n 0, 1) := by decide +kernel
theorem dX12_step_73 : decode cX12_step 73 = .ok (.iload_n 1, 1) := by decide +kernel
theorem dX12_step_74 : decode cX12_step 74 = .ok (.iload_n 2, 1) := by decide +kernel
theorem dX12_step_75 : decode cX12_step 75 = .ok (.aload_n 0, 1) := by decide +kernel
theorem dX12_step_76 : decode cX12_step 76 = .ok (.getfield 95, 3) := by decide +kernel
theorem dX12_step_79 : decode cX12_step 79 = .ok (.iload 8, 2) := by decide +kernel
theorem dX12_step_81 : decode cX12_step 81 = .ok (.iaload, 1) := by decide +kernel
theorem dX12_step_82 : decode cX12_step 82 = .ok (.iload 6, 2) := by decide +kernel
theorem dX12_step_84 : decode cX12_step 84 = .ok (.invokevirtual 392, 3) := by decide +kernel
theorem dX12_step_87 : decode cX12_step 87 = .ok (.ifCond .eq 30, 3) := by decide +kernel
theorem dX12_step_90 : decode cX12_step 90 = .ok (.goto 22, 3) := by decide +kernel
theorem dX12_step_93 : decode cX12_step 93 = .ok (.aload_n 0, 1) := by decide +kernel
theorem dX12_step_94 : decode cX12_step 94 = .ok (.iload_n 1, 1) := by decide +kernel
theorem dX12_step_95 : decode cX12_step 95 = .ok (.iload_n 2, 1) := by decide +kernel
theorem dX12_step_96 : decode cX12_step 96 = .ok (.iload_n 3, 1) := by decide +kernel
theorem dX12_step_97 : decode cX12_step 97 = .ok (.aload_n 0, 1) := by decide +kernel
theorem dX12_step_98 : decode cX12_step 98 = .ok (.getfield 95, 3) := by decide +kernel
theorem dX12_step_101 : decode cX12_step 101 = .ok (.iload 8, 2) := by decide +kernel
theorem dX12_step_103 : decode cX12_step 103 = .ok (.iaload, 1) := by decide +kernel
theorem dX12_step_104 : decode cX12_step 104 = .ok (.iload 6, 2) := by decide +kernel
theorem dX12_step_106 : decode cX12_step 106 = .ok (.invokevirtual 396, 3) := by decide +kernel
theorem dX12_step_109 : decode cX12_step 109 = .ok (.ifCond .eq 8, 3) := by decide +kernel
theorem dX12_step_112 : decode cX12_step 112 = .ok (.iload 8, 2) := by decide +kernel
theorem dX12_step_114 : decode cX12_step 114 = .ok (.goto 4, 3) := by decide +kernel
theorem dX12_step_117 : decode cX12_step 117 = .ok (.iconst (-1), 1) := by decide +kernel
theorem dX12_step_118 : decode cX12_step 118 = .ok (.istore 7, 2) := by decide +kernel
theorem dX12_step_120 : decode cX12_step 120 = .ok (.iinc 8 1, 3) := by decide +kernel
theorem dX12_step_123 : decode cX12_step 123 = .ok (.goto (-68), 3) := by decide +kernel
theorem dX12_step_126 : decode cX12_step 126 = .ok (.iload 7, 2) := by decide +kernel
theorem dX12_step_128 : decode cX12_step 128 = .ok (.ifCond .ge 19, 3) := by decide +kernel
theorem dX12_step_131 : decode cX12_step 131 = .ok (.iload 5, 2) := by decide +kernel
theorem dX12_step_133 : decode cX12_step 133 = .ok (.istore 7, 2) := by decide +kernel
theorem dX12_step_135 : decode cX12_step 135 = .ok (.aload_n 0, 1) := by decide +kernel
theorem dX12_step_136 : decode cX12_step 136 = .ok (.getfield 95, 3) := by decide +kernel
theorem dX12_step_139 : decode cX12_step 139 = .ok (.iload 5, 2) := by decide +kernel
theorem dX12_step_141 : decode cX12_step 141 = .ok (.iload 6, 2) := by decide +kernel
theorem dX12_step_143 : decode cX12_step 143 = .ok (.iastore, 1) := by decide +kernel
theorem dX12_step_144 : decode cX12_step 144 = .ok (.iinc 5 1, 3) := by decide +kernel
theorem dX12_step_147 : decode cX12_step 147 = .ok (.aload_n 0, 1) := by decide +kernel
theorem dX12_step_148 : decode cX12_step 148 = .ok (.getfield 101, 3) := by decide +kernel
theorem dX12_step_151 : decode cX12_step 151 = .ok (.iload 6, 2) := by decide +kernel
theorem dX12_step_153 : decode cX12_step 153 = .ok (.iload 7, 2) := by decide +kernel
theorem dX12_step_155 : decode cX12_step 155 = .ok (.iastore, 1) := by decide +kernel
theorem dX12_step_156 : decode cX12_step 156 = .ok (.iinc 6 1, 3) := by decide +kernel
theorem dX12_step_159 : decode cX12_step 159 = .ok (.goto (-119), 3) := by decide +kernel
theorem dX12_step_162 : decode cX12_step 162 = .ok (.iconst 0, 1) := by decide +kernel
theorem dX12_step_163 : decode cX12_step 163 = .ok (.istore 6, 2) := by decide +kernel
theorem dX12_step_165 : decode cX12_step 165 = .ok (.iload 6, 2) := by decide +kernel
theorem dX12_step_167 : decode cX12_step 167 = .ok (.aload_n 0, 1) := by decide +kernel
theorem dX12_step_168 : decode cX12_step 168 = .ok (.getfield 383, 3) := by decide +kernel
theorem dX12_step_171 : decode cX12_step 171 = .ok (.if_icmp .ge 23, 3) := by decide +kernel
theorem dX12_step_174 : decode cX12_step 174 = .ok (.aload_n 0, 1) := by decide +kernel
theorem dX12_step_175 : decode cX12_step 175 = .ok (.getfield 98, 3) := by decide +kernel
theorem dX12_step_178 : decode cX12_step 178 = .ok (.iload 6, 2) := by decide +kernel
theorem dX12_step_180 : decode cX12_step 180 = .ok (.aload_n 0, 1) := by decide +kernel
theorem dX12_step_181 : decode cX12_step 181 = .ok (.getfield 101, 3) := by decide +kernel
theorem dX12_step_184 : decode cX12_step 184 = .ok (.iload 6, 2) := by decide +kernel
theorem dX12_step_186 : decode cX12_step 186 = .ok (.iaload, 1) := by decide +kernel
theorem dX12_step_187 : decode cX12_step 187 = .ok (.iastore, 1) := by decide +kernel
theorem dX12_step_188 : decode cX12_step 188 = .ok (.iinc 6 1, 3) := by decide +kernel
theorem dX12_step_191 : decode cX12_step 191 = .ok (.goto (-26), 3) := by decide +kernel
theorem dX12_step_194 : decode cX12_step 194 = .ok (.iload 5, 2) := by decide +kernel
theorem dX12_step_196 : decode cX12_step 196 = .ok (.ireturn, 1) := by decide +kernel
theorem dX12_areBalanced_0 : decode cX12_areBalanced 0 = .ok (.iconst 1, 1) := by decide +kernel
theorem dX12_areBalanced_1 : decode cX12_areBalanced 1 = .ok (.istore_n 1, 1) := by decide +kernel
theorem dX12_areBalanced_2 : decode cX12_areBalanced 2 = .ok (.iconst 0, 1) := by decide +kernel
theorem dX12_areBalanced_3 : decode cX12_areBalanced 3 = .ok (.istore_n 2, 1) := by decide +kernel
theorem dX12_areBalanced_4 : decode cX12_areBalanced 4 = .ok (.iload_n 2, 1) := by decide +kernel
theorem dX12_areBalanced_5 : decode cX12_areBalanced 5 = .ok (.aload_n 0, 1) := by decide +kernel
theorem dX12_areBalanced_6 : decode cX12_areBalanced 6 = .ok (.getfield 130, 3) := by decide +kernel
theorem dX12_areBalanced_9 : decode cX12_areBalanced 9 = .ok (.if_icmp .ge 76, 3) := by decide +kernel
theorem dX12_areBalanced_12 : decode cX12_areBalanced 12 = .ok (.iconst 0, 1) := by decide +kernel
theorem dX12_areBalanced_13 : decode cX12_areBalanced 13 = .ok (.istore_n 3, 1) := by decide +kernel
theorem dX12_areBalanced_14 : decode cX12_areBalanced 14 = .ok (.iconst 0, 1) := by decide +kernel
theorem dX12_areBalanced_15 : decode cX12_areBalanced 15 = .ok (.istore 4, 2) := by decide +kernel
theorem dX12_areBalanced_17 : decode cX12_areBalanced 17 = .ok (.iload 4, 2) := by decide +kernel
theorem dX12_areBalanced_19 : decode cX12_areBalanced 19 = .ok (.aload_n 0, 1) := by decide +kernel
theorem dX12_areBalanced_20 : decode cX12_areBalanced 20 = .ok (.getfield 383, 3) := by decide +kernel
theorem dX12_areBalanced_23 : decode cX12_areBalanced 23 = .ok (.if_icmp .ge 42, 3) := by decide +kernel
theorem dX12_areBalanced_26 : decode cX12_areBalanced 26 = .ok (.iload_n 3, 1) := by decide +kernel
theorem dX12_areBalanced_27 : decode cX12_areBalanced 27 = .ok (.aload_n 0, 1) := by decide +kernel
theorem dX12_areBalanced_28 : decode cX12_areBalanced 28 = .ok (.getfield 98, 3) := by decide +kernel
theorem dX12_areBalanced_31 : decode cX12_areBalanced 31 = .ok (.iload 4, 2) := by decide +kernel
theorem dX12_areBalanced_33 : decode cX12_areBalanced 33 = .ok (.iaload, 1) := by decide +kernel
theorem dX12_areBalanced_34 : decode cX12_areBalanced 34 = .ok (.iload_n 2, 1) := by decide +kernel
theorem dX12_areBalanced_35 : decode cX12_areBalanced 35 = .ok (.if_icmp .eq 7, 3) := by decide +kernel
theorem dX12_areBalanced_38 : decode cX12_areBalanced 38 = .ok (.iconst 0, 1) := by decide +kernel
theorem dX12_areBalanced_39 : decode cX12_areBalanced 39 = .ok (.goto 18, 3) := by decide +kernel
theorem dX12_areBalanced_42 : decode cX12_areBalanced 42 = .ok (.aload_n 0, 1) := by decide +kernel
theorem dX12_areBalanced_43 : decode cX12_areBalanced 43 = .ok (.getfield 104, 3) := by decide +kernel
theorem dX12_areBalanced_46 : decode cX12_areBalanced 46 = .ok (.iload 4, 2) := by decide +kernel
theorem dX12_areBalanced_48 : decode cX12_areBalanced 48 = .ok (.iaload, 1) := by decide +kernel
theorem dX12_areBalanced_49 : decode cX12_areBalanced 49 = .ok (.ifCond .ne 7, 3) := by decide +kernel
theorem dX12_areBalanced_52 : decode cX12_areBalanced 52 = .ok (.iconst 1, 1) := by decide +kernel
theorem dX12_areBalanced_53 : decode cX12_areBalanced 53 = .ok (.goto 4, 3) := by decide +kernel
theorem dX12_areBalanced_56 : decode cX12_areBalanced 56 = .ok (.iconst (-1), 1) := by decide +kernel
theorem dX12_areBalanced_57 : decode cX12_areBalanced 57 = .ok (.iadd, 1) := by decide +kernel
theorem dX12_areBalanced_58 : decode cX12_areBalanced 58 = .ok (.istore_n 3, 1) := by decide +kernel
theorem dX12_areBalanced_59 : decode cX12_areBalanced 59 = .ok (.iinc 4 1, 3) := by decide +kernel
theorem dX12_areBalanced_62 : decode cX12_areBalanced 62 = .ok (.goto (-45), 3) := by decide +kernel
theorem dX12_areBalanced_65 : decode cX12_areBalanced 65 = .ok (.iload_n 1, 1) := by decide +kernel
theorem dX12_areBalanced_66 : decode cX12_areBalanced 66 = .ok (.ifCond .eq 11, 3) := by decide +kernel
theorem dX12_areBalanced_69 : decode cX12_areBalanced 69 = .ok (.iload_n 3, 1) := by decide +kernel
theorem dX12_areBalanced_70 : decode cX12_areBalanced 70 = .ok (.ifCond .ne 7, 3) := by decide +kernel
theorem dX12_areBalanced_73 : decode cX12_areBalanced 73 = .ok (.iconst 1, 1) := by decide +kernel
theorem dX12_areBalanced_74 : decode cX12_areBalanced 74 = .ok (.goto 4, 3) := by decide +kernel
theorem dX12_areBalanced_77 : decode cX12_areBalanced 77 = .ok (.iconst 0, 1) := by decide +kernel
theorem dX12_areBalanced_78 : decode cX12_areBalanced 78 = .ok (.istore_n 1, 1) := by decide +kernel
theorem dX12_areBalanced_79 : decode cX12_areBalanced 79 = .ok (.iinc 2 1, 3) := by decide +kernel
theorem dX12_areBalanced_82 : decode cX12_areBalanced 82 = .ok (.goto (-78), 3) := by decide +kernel
theorem dX12_areBalanced_85 : decode cX12_areBalanced 85 = .ok (.iload_n 1, 1) := by decide +kernel
theorem dX12_areBalanced_86 : decode cX12_areBalanced 86 = .ok (.ireturn, 1) := by decide +kernel
theorem dX12_colour_0 : decode cX12_colour 0 = .ok (.aload_n 0, 1) := by decide +kernel
theorem dX12_colour_1 : decode cX12_colour 1 = .ok (.iload_n 1, 1) := by decide +kernel
theorem dX12_colour_2 : decode cX12_colour 2 = .ok (.invokevirtual 141, 3) := by decide +kernel
theorem dX12_colour_5 : decode cX12_colour 5 = .ok (.ifCond .ne 11, 3) := by decide +kernel
theorem dX12_colour_8 : decode cX12_colour 8 = .ok (.aload_n 0, 1) := by decide +kernel
theorem dX12_colour_9 : decode cX12_colour 9 = .ok (.iload_n 2, 1) := by decide +kernel
theorem dX12_colour_10 : decode cX12_colour 10 = .ok (.invokevirtual 141, 3) := by decide +kernel
theorem dX12_colour_13 : decode cX12_colour 13 = .ok (.ifCond .eq 5, 3) := by decide +kernel
theorem dX12_colour_16 : decode cX12_colour 16 = .ok (.iconst (-1), 1) := by decide +kernel
theorem dX12_colour_17 : decode cX12_colour 17 = .ok (.ireturn, 1) := by decide +kernel
theorem dX12_colour_18 : decode cX12_colour 18 = .ok (.iload_n 3, 1) := by decide +kernel
theorem dX12_colour_19 : decode cX12_colour 19 = .ok (.iconst 0, 1) := by decide +kernel
theorem dX12_colour_20 : decode cX12_colour 20 = .ok (.iconst 1, 1) := by decide +kernel
theorem dX12_colour_21 : decode cX12_colour 21 = .ok (.invokestatic 133, 3) := by decide +kernel
theorem dX12_colour_24 : decode cX12_colour 24 = .ok (.ifCond .ne 6, 3) := by decide +kernel
theorem dX12_colour_27 : decode cX12_colour 27 = .ok (.bipush (-2), 2) := by decide +kernel
theorem dX12_colour_29 : decode cX12_colour 29 = .ok (.ireturn, 1) := by decide +kernel
theorem dX12_colour_30 : decode cX12_colour 30 = .ok (.aload_n 0, 1) := by decide +kernel
theorem dX12_colour_31 : decode cX12_colour 31 = .ok (.iload_n 1, 1) := by decide +kernel
theorem dX12_colour_32 : decode cX12_colour 32 = .ok (.iload_n 2, 1) := by decide +kernel
theorem dX12_colour_33 : decode cX12_colour 33 = .ok (.iload_n 3, 1) := by decide +kernel
theorem dX12_colour_34 : decode cX12_colour 34 = .ok (.invokevirtual 400, 3) := by decide +kernel
theorem dX12_colour_37 : decode cX12_colour 37 = .ok (.aload_n 0, 1) := by decide +kernel
theorem dX12_colour_38 : decode cX12_colour 38 = .ok (.aload_n 0, 1) := by decide +kernel
theorem dX12_colour_39 : decode cX12_colour 39 = .ok (.iload_n 1, 1) := by decide +kernel
theorem dX12_colour_40 : decode cX12_colour 40 = .ok (.iload_n 2, 1) := by decide +kernel
theorem dX12_colour_41 : decode cX12_colour 41 = .ok (.iload_n 3, 1) := by decide +kernel
theorem dX12_colour_42 : decode cX12_colour 42 = .ok (.iconst 1, 1) := by decide +kernel
theorem dX12_colour_43 : decode cX12_colour 43 = .ok (.invokevirtual 403, 3) := by decide +kernel
theorem dX12_colour_46 : decode cX12_colour 46 = .ok (.putfield 130, 3) := by decide +kernel
theorem dX12_colour_49 : decode cX12_colour 49 = .ok (.aload_n 0, 1) := by decide +kernel
theorem dX12_colour_50 : decode cX12_colour 50 = .ok (.iconst 0, 1) := by decide +kernel
theorem dX12_colour_51 : decode cX12_colour 51 = .ok (.putfield 407, 3) := by decide +kernel
theorem dX12_colour_54 : decode cX12_colour 54 = .ok (.iconst 1, 1) := by decide +kernel
theorem dX12_colour_55 : decode cX12_colour 55 = .ok (.istore 4, 2) := by decide +kernel
theorem dX12_colour_57 : decode cX12_colour 57 = .ok (.iload 4, 2) := by decide +kernel
theorem dX12_colour_59 : decode cX12_colour 59 = .ok (.ifCond .eq 59, 3) := by decide +kernel
theorem dX12_colour_62 : decode cX12_colour 62 = .ok (.aload_n 0, 1) := by decide +kernel
theorem dX12_colour_63 : decode cX12_colour 63 = .ok (.getfield 130, 3) := by decide +kernel
theorem dX12_colour_66 : decode cX12_colour 66 = .ok (.istore 5, 2) := by decide +kernel
theorem dX12_colour_68 : decode cX12_colour 68 = .ok (.aload_n 0, 1) := by decide +kernel
theorem dX12_colour_69 : decode cX12_colour 69 = .ok (.aload_n 0, 1) := by decide +kernel
theorem dX12_colour_70 : decode cX12_colour 70 = .ok (.iload_n 1, 1) := by decide +kernel
theorem dX12_colour_71 : decode cX12_colour 71 = .ok (.iload_n 2, 1) := by decide +kernel
theorem dX12_colour_72 : decode cX12_colour 72 = .ok (.iload_n 3, 1) := by decide +kernel
theorem dX12_colour_73 : decode cX12_colour 73 = .ok (.iconst 0, 1) := by decide +kernel
theorem dX12_colour_74 : decode cX12_colour 74 = .ok (.invokevirtual 403, 3) := by decide +kernel
theorem dX12_colour_77 : decode cX12_colour 77 = .ok (.putfield 130, 3) := by decide +kernel
theorem dX12_colour_80 : decode cX12_colour 80 = .ok (.aload_n 0, 1) := by decide +kernel
theorem dX12_colour_81 : decode cX12_colour 81 = .ok (.getfield 130, 3) := by decide +kernel
theorem dX12_colour_84 : decode cX12_colour 84 = .ok (.iload 5, 2) := by decide +kernel
theorem dX12_colour_86 : decode cX12_colour 86 = .ok (.if_icmp .le 7, 3) := by decide +kernel
theorem dX12_colour_89 : decode cX12_colour 89 = .ok (.iconst 1, 1) := by decide +kernel
theorem dX12_colour_90 : decode cX12_colour 90 = .ok (.goto 4, 3) := by decide +kernel
theorem dX12_colour_93 : decode cX12_colour 93 = .ok (.iconst 0, 1) := by decide +kernel
theorem dX12_colour_94 : decode cX12_colour 94 = .ok (.istore 4, 2) := by decide +kernel
theorem dX12_colour_96 : decode cX12_colour 96 = .ok (.aload_n 0, 1) := by decide +kernel
theorem dX12_colour_97 : decode cX12_colour 97 = .ok (.dup, 1) := by decide +kernel
theorem dX12_colour_98 : decode cX12_colour 98 = .ok (.getfield 407, 3) := by decide +kernel
theorem dX12_colour_101 : decode cX12_colour 101 = .ok (.iload 4, 2) := by decide +kernel
theorem dX12_colour_103 : decode cX12_colour 103 = .ok (.ifCond .eq 7, 3) := by decide +kernel
theorem dX12_colour_106 : decode cX12_colour 106 = .ok (.iconst 1, 1) := by decide +kernel
theorem dX12_colour_107 : decode cX12_colour 107 = .ok (.goto 4, 3) := by decide +kernel
theorem dX12_colour_110 : decode cX12_colour 110 = .ok (.iconst 0, 1) := by decide +kernel
theorem dX12_colour_111 : decode cX12_colour 111 = .ok (.iadd, 1) := by decide +kernel
theorem dX12_colour_112 : decode cX12_colour 112 = .ok (.putfield 407, 3) := by decide +kernel
theorem dX12_colour_115 : decode cX12_colour 115 = .ok (.goto (-58), 3) := by decide +kernel
theorem dX12_colour_118 : decode cX12_colour 118 = .ok (.aload_n 0, 1) := by decide +kernel
theorem dX12_colour_119 : decode cX12_colour 119 = .ok (.aload_n 0, 1) := by decide +kernel
theorem dX12_colour_120 : decode cX12_colour 120 = .ok (.invokevirtual 410, 3) := by decide +kernel
theorem dX12_colour_123 : decode cX12_colour 123 = .ok (.putfield 413, 3) := by decide +kernel
theorem dX12_colour_126 : decode cX12_colour 126 = .ok (.aload_n 0, 1) := by decide +kernel
theorem dX12_colour_127 : decode cX12_colour 127 = .ok (.getfield 130, 3) := by decide +kernel
theorem dX12_colour_130 : decode cX12_colour 130 = .ok (.ireturn, 1) := by decide +kernel
theorem dX12_coloured_0 : decode cX12_coloured 0 = .ok (.aload_n 0, 1) := by decide +kernel
theorem dX12_coloured_1 : decode cX12_coloured 1 = .ok (.getfield 130, 3) := by decide +kernel
theorem dX12_coloured_4 : decode cX12_coloured 4 = .ok (.ifCond .lt 26, 3) := by decide +kernel
theorem dX12_coloured_7 : decode cX12_coloured 7 = .ok (.iload_n 1, 1) := by decide +kernel
theorem dX12_coloured_8 : decode cX12_coloured 8 = .ok (.iconst 0, 1) := by decide +kernel
theorem dX12_coloured_9 : decode cX12_coloured 9 = .ok (.aload_n 0, 1) := by decide +kernel
theorem dX12_coloured_10 : decode cX12_coloured 10 = .ok (.getfield 383, 3) := by decide +kernel
theorem dX12_coloured_13 : decode cX12_coloured 13 = .ok (.iconst 1, 1) := by decide +kernel
theorem dX12_coloured_14 : decode cX12_coloured 14 = .ok (.isub, 1) := by decide +kernel
theorem dX12_coloured_15 : decode cX12_coloured 15 = .ok (.invokestatic 133, 3) := by decide +kernel
theorem dX12_coloured_18 : decode cX12_coloured 18 = .ok (.ifCond .eq 12, 3) := by decide +kernel
theorem dX12_coloured_21 : decode cX12_coloured 21 = .ok (.aload_n 0, 1) := by decide +kernel
theorem dX12_coloured_22 : decode cX12_coloured 22 = .ok (.getfield 98, 3) := by decide +kernel
theorem dX12_coloured_25 : decode cX12_coloured 25 = .ok (.iload_n 1, 1) := by decide +kernel
theorem dX12_coloured_26 : decode cX12_coloured 26 = .ok (.iaload, 1) := by decide +kernel
theorem dX12_coloured_27 : decode cX12_coloured 27 = .ok (.goto 4, 3) := by decide +kernel
theorem dX12_coloured_30 : decode cX12_coloured 30 = .ok (.iconst (-1), 1) := by decide +kernel
theorem dX12_coloured_31 : decode cX12_coloured 31 = .ok (.ireturn, 1) := by decide +kernel
theorem dX12_still_0 : decode cX12_still 0 = .ok (.iload_n 1, 1) := by decide +kernel
theorem dX12_still_1 : decode cX12_still 1 = .ok (.iconst 0, 1) := by decide +kernel
theorem dX12_still_2 : decode cX12_still 2 = .ok (.iconst 1, 1) := by decide +kernel
theorem dX12_still_3 : decode cX12_still 3 = .ok (.invokestatic 133, 3) := by decide +kernel
theorem dX12_still_6 : decode cX12_still 6 = .ok (.ifCond .ne 6, 3) := by decide +kernel
theorem dX12_still_9 : decode cX12_still 9 = .ok (.bipush (-2), 2) := by decide +kernel
theorem dX12_still_11 : decode cX12_still 11 = .ok (.ireturn, 1) := by decide +kernel
theorem dX12_still_12 : decode cX12_still 12 = .ok (.aload_n 0, 1) := by decide +kernel
theorem dX12_still_13 : decode cX12_still 13 = .ok (.getfield 130, 3) := by decide +kernel
theorem dX12_still_16 : decode cX12_still 16 = .ok (.ifCond .ge 8, 3) := by decide +kernel
theorem dX12_still_19 : decode cX12_still 19 = .ok (.bipush (-3), 2) := by decide +kernel
theorem dX12_still_21 : decode cX12_still 21 = .ok (.goto 26, 3) := by decide +kernel
theorem dX12_still_24 : decode cX12_still 24 = .ok (.iload_n 1, 1) := by decide +kernel
theorem dX12_still_25 : decode cX12_still 25 = .ok (.ifCond .ne 10, 3) := by decide +kernel
theorem dX12_still_28 : decode cX12_still 28 = .ok (.aload_n 0, 1) := by decide +kernel
theorem dX12_still_29 : decode cX12_still 29 = .ok (.getfield 407, 3) := by decide +kernel
theorem dX12_still_32 : decode cX12_still 32 = .ok (.goto 15, 3) := by decide +kernel
theorem dX12_still_35 : decode cX12_still 35 = .ok (.aload_n 0, 1) := by decide +kernel
theorem dX12_still_36 : decode cX12_still 36 = .ok (.getfield 413, 3) := by decide +kernel
theorem dX12_still_39 : decode cX12_still 39 = .ok (.ifCond .eq 7, 3) := by decide +kernel
theorem dX12_still_42 : decode cX12_still 42 = .ok (.iconst 1, 1) := by decide +kernel
theorem dX12_still_43 : decode cX12_still 43 = .ok (.goto 4, 3) := by decide +kernel
theorem dX12_still_46 : decode cX12_still 46 = .ok (.iconst 0, 1) := by decide +kernel
theorem dX12_still_47 : decode cX12_still 47 = .ok (.ireturn, 1) := by decide +kernel
theorem dX12_told_0 : decode cX12_told 0 = .ok (.iload_n 1, 1) := by decide +kernel
theorem dX12_told_1 : decode cX12_told 1 = .ok (.tableswitch 101 0 4 #[35, 70, 75, 80, 85], 35) := by decide +kernel
theorem dX12_told_36 : decode cX12_told 36 = .ok (.iconst 0, 1) := by decide +kernel
theorem dX12_told_37 : decode cX12_told 37 = .ok (.istore_n 2, 1) := by decide +kernel
theorem dX12_told_38 : decode cX12_told 38 = .ok (.iconst 0, 1) := by decide +kernel
theorem dX12_told_39 : decode cX12_told 39 = .ok (.istore_n 3, 1) := by decide +kernel
theorem dX12_told_40 : decode cX12_told 40 = .ok (.iload_n 3, 1) := by decide +kernel
theorem dX12_told_41 : decode cX12_told 41 = .ok (.bipush 6, 2) := by decide +kernel
theorem dX12_told_43 : decode cX12_told 43 = .ok (.if_icmp .ge 26, 3) := by decide +kernel
theorem dX12_told_46 : decode cX12_told 46 = .ok (.iload_n 2, 1) := by decide +kernel
theorem dX12_told_47 : decode cX12_told 47 = .ok (.aload_n 0, 1) := by decide +kernel
theorem dX12_told_48 : decode cX12_told 48 = .ok (.getfield 7, 3) := by decide +kernel
theorem dX12_told_51 : decode cX12_told 51 = .ok (.iload_n 3, 1) := by decide +kernel
theorem dX12_told_52 : decode cX12_told 52 = .ok (.iaload, 1) := by decide +kernel
theorem dX12_told_53 : decode cX12_told 53 = .ok (.ifCond .le 7, 3) := by decide +kernel
theorem dX12_told_56 : decode cX12_told 56 = .ok (.iconst 1, 1) := by decide +kernel
theorem dX12_told_57 : decode cX12_told 57 = .ok (.goto 4, 3) := by decide +kernel
theorem dX12_told_60 : decode cX12_told 60 = .ok (.iconst 0, 1) := by decide +kernel
theorem dX12_told_61 : decode cX12_told 61 = .ok (.iadd, 1) := by decide +kernel
theorem dX12_told_62 : decode cX12_told 62 = .ok (.istore_n 2, 1) := by decide +kernel
theorem dX12_told_63 : decode cX12_told 63 = .ok (.iinc 3 1, 3) := by decide +kernel
theorem dX12_told_66 : decode cX12_told 66 = .ok (.goto (-26), 3) := by decide +kernel
theorem dX12_told_69 : decode cX12_told 69 = .ok (.iload_n 2, 1) := by decide +kernel
theorem dX12_told_70 : decode cX12_told 70 = .ok (.ireturn, 1) := by decide +kernel
theorem dX12_told_71 : decode cX12_told 71 = .ok (.aload_n 0, 1) := by decide +kernel
theorem dX12_told_72 : decode cX12_told 72 = .ok (.getfield 290, 3) := by decide +kernel
theorem dX12_told_75 : decode cX12_told 75 = .ok (.ireturn, 1) := by decide +kernel
theorem dX12_told_76 : decode cX12_told 76 = .ok (.aload_n 0, 1) := by decide +kernel
theorem dX12_told_77 : decode cX12_told 77 = .ok (.getfield 231, 3) := by decide +kernel
theorem dX12_told_80 : decode cX12_told 80 = .ok (.ireturn, 1) := by decide +kernel
theorem dX12_told_81 : decode cX12_told 81 = .ok (.aload_n 0, 1) := by decide +kernel
theorem dX12_told_82 : decode cX12_told 82 = .ok (.getfield 380, 3) := by decide +kernel
theorem dX12_told_85 : decode cX12_told 85 = .ok (.ireturn, 1) := by decide +kernel
theorem dX12_told_86 : decode cX12_told 86 = .ok (.aload_n 0, 1) := by decide +kernel
theorem dX12_told_87 : decode cX12_told 87 = .ok (.getfield 130, 3) := by decide +kernel
theorem dX12_told_90 : decode cX12_told 90 = .ok (.ifCond .ge 7, 3) := by decide +kernel
theorem dX12_told_93 : decode cX12_told 93 = .ok (.iconst 0, 1) := by decide +kernel
theorem dX12_told_94 : decode cX12_told 94 = .ok (.goto 7, 3) := by decide +kernel
theorem dX12_told_97 : decode cX12_told 97 = .ok (.aload_n 0, 1) := by decide +kernel
theorem dX12_told_98 : decode cX12_told 98 = .ok (.getfield 383, 3) := by decide +kernel
theorem dX12_told_101 : decode cX12_told 101 = .ok (.ireturn, 1) := by decide +kernel
theorem dX12_told_102 : decode cX12_told 102 = .ok (.bipush (-2), 2) := by decide +kernel
theorem dX12_told_104 : decode cX12_told 104 = .ok (.ireturn, 1) := by decide +kernel
theorem dJ6_bitCount_0f7a4_0 : decode cJ6_bitCount_0f7a4 0 = .ok (.iload_n 0, 1) := by decide +kernel
theorem dJ6_bitCount_0f7a4_1 : decode cJ6_bitCount_0f7a4 1 = .ok (.iload_n 0, 1) := by decide +kernel
theorem dJ6_bitCount_0f7a4_2 : decode cJ6_bitCount_0f7a4 2 = .ok (.iconst 1, 1) := by decide +kernel
theorem dJ6_bitCount_0f7a4_3 : decode cJ6_bitCount_0f7a4 3 = .ok (.iushr, 1) := by decide +kernel
theorem dJ6_bitCount_0f7a4_4 : decode cJ6_bitCount_0f7a4 4 = .ok (.ldc_w 265, 3) := by decide +kernel
theorem dJ6_bitCount_0f7a4_7 : decode cJ6_bitCount_0f7a4 7 = .ok (.iand, 1) := by decide +kernel
theorem dJ6_bitCount_0f7a4_8 : decode cJ6_bitCount_0f7a4 8 = .ok (.isub, 1) := by decide +kernel
theorem dJ6_bitCount_0f7a4_9 : decode cJ6_bitCount_0f7a4 9 = .ok (.istore_n 0, 1) := by decide +kernel
theorem dJ6_bitCount_0f7a4_10 : decode cJ6_bitCount_0f7a4 10 = .ok (.iload_n 0, 1) := by decide +kernel
theorem dJ6_bitCount_0f7a4_11 : decode cJ6_bitCount_0f7a4 11 = .ok (.ldc_w 266, 3) := by decide +kernel
theorem dJ6_bitCount_0f7a4_14 : decode cJ6_bitCount_0f7a4 14 = .ok (.iand, 1) := by decide +kernel
theorem dJ6_bitCount_0f7a4_15 : decode cJ6_bitCount_0f7a4 15 = .ok (.iload_n 0, 1) := by decide +kernel
theorem dJ6_bitCount_0f7a4_16 : decode cJ6_bitCount_0f7a4 16 = .ok (.iconst 2, 1) := by decide +kernel
theorem dJ6_bitCount_0f7a4_17 : decode cJ6_bitCount_0f7a4 17 = .ok (.iushr, 1) := by decide +kernel
theorem dJ6_bitCount_0f7a4_18 : decode cJ6_bitCount_0f7a4 18 = .ok (.ldc_w 266, 3) := by decide +kernel
theorem dJ6_bitCount_0f7a4_21 : decode cJ6_bitCount_0f7a4 21 = .ok (.iand, 1) := by decide +kernel
theorem dJ6_bitCount_0f7a4_22 : decode cJ6_bitCount_0f7a4 22 = .ok (.iadd, 1) := by decide +kernel
theorem dJ6_bitCount_0f7a4_23 : decode cJ6_bitCount_0f7a4 23 = .ok (.istore_n 0, 1) := by decide +kernel
theorem dJ6_bitCount_0f7a4_24 : decode cJ6_bitCount_0f7a4 24 = .ok (.iload_n 0, 1) := by decide +kernel
theorem dJ6_bitCount_0f7a4_25 : decode cJ6_bitCount_0f7a4 25 = .ok (.iload_n 0, 1) := by decide +kernel
theorem dJ6_bitCount_0f7a4_26 : decode cJ6_bitCount_0f7a4 26 = .ok (.iconst 4, 1) := by decide +kernel
theorem dJ6_bitCount_0f7a4_27 : decode cJ6_bitCount_0f7a4 27 = .ok (.iushr, 1) := by decide +kernel
theorem dJ6_bitCount_0f7a4_28 : decode cJ6_bitCount_0f7a4 28 = .ok (.iadd, 1) := by decide +kernel
theorem dJ6_bitCount_0f7a4_29 : decode cJ6_bitCount_0f7a4 29 = .ok (.ldc_w 267, 3) := by decide +kernel
theorem dJ6_bitCount_0f7a4_32 : decode cJ6_bitCount_0f7a4 32 = .ok (.iand, 1) := by decide +kernel
theorem dJ6_bitCount_0f7a4_33 : decode cJ6_bitCount_0f7a4 33 = .ok (.istore_n 0, 1) := by decide +kernel
theorem dJ6_bitCount_0f7a4_34 : decode cJ6_bitCount_0f7a4 34 = .ok (.iload_n 0, 1) := by decide +kernel
theorem dJ6_bitCount_0f7a4_35 : decode cJ6_bitCount_0f7a4 35 = .ok (.iload_n 0, 1) := by decide +kernel
theorem dJ6_bitCount_0f7a4_36 : decode cJ6_bitCount_0f7a4 36 = .ok (.bipush 8, 2) := by decide +kernel
theorem dJ6_bitCount_0f7a4_38 : decode cJ6_bitCount_0f7a4 38 = .ok (.iushr, 1) := by decide +kernel
theorem dJ6_bitCount_0f7a4_39 : decode cJ6_bitCount_0f7a4 39 = .ok (.iadd, 1) := by decide +kernel
theorem dJ6_bitCount_0f7a4_40 : decode cJ6_bitCount_0f7a4 40 = .ok (.istore_n 0, 1) := by decide +kernel
theorem dJ6_bitCount_0f7a4_41 : decode cJ6_bitCount_0f7a4 41 = .ok (.iload_n 0, 1) := by decide +kernel
theorem dJ6_bitCount_0f7a4_42 : decode cJ6_bitCount_0f7a4 42 = .ok (.iload_n 0, 1) := by decide +kernel
theorem dJ6_bitCount_0f7a4_43 : decode cJ6_bitCount_0f7a4 43 = .ok (.bipush 16, 2) := by decide +kernel
theorem dJ6_bitCount_0f7a4_45 : decode cJ6_bitCount_0f7a4 45 = .ok (.iushr, 1) := by decide +kernel
theorem dJ6_bitCount_0f7a4_46 : decode cJ6_bitCount_0f7a4 46 = .ok (.iadd, 1) := by decide +kernel
theorem dJ6_bitCount_0f7a4_47 : decode cJ6_bitCount_0f7a4 47 = .ok (.istore_n 0, 1) := by decide +kernel
theorem dJ6_bitCount_0f7a4_48 : decode cJ6_bitCount_0f7a4 48 = .ok (.iload_n 0, 1) := by decide +kernel
theorem dJ6_bitCount_0f7a4_49 : decode cJ6_bitCount_0f7a4 49 = .ok (.bipush 63, 2) := by decide +kernel
theorem dJ6_bitCount_0f7a4_51 : decode cJ6_bitCount_0f7a4 51 = .ok (.iand, 1) := by decide +kernel
theorem dJ6_bitCount_0f7a4_52 : decode cJ6_bitCount_0f7a4 52 = .ok (.ireturn, 1) := by decide +kernel
theorem dJ9_max_7cf53_0 : decode cJ9_max_7cf53 0 = .ok (.iload_n 0, 1) := by decide +kernel
theorem dJ9_max_7cf53_1 : decode cJ9_max_7cf53 1 = .ok (.iload_n 1, 1) := by decide +kernel
theorem dJ9_max_7cf53_2 : decode cJ9_max_7cf53 2 = .ok (.if_icmp .lt 7, 3) := by decide +kernel
theorem dJ9_max_7cf53_5 : decode cJ9_max_7cf53 5 = .ok (.iload_n 0, 1) := by decide +kernel
theorem dJ9_max_7cf53_6 : decode cJ9_max_7cf53 6 = .ok (.goto 4, 3) := by decide +kernel
theorem dJ9_max_7cf53_9 : decode cJ9_max_7cf53 9 = .ok (.iload_n 1, 1) := by decide +kernel
theorem dJ9_max_7cf53_10 : decode cJ9_max_7cf53 10 = .ok (.ireturn, 1) := by decide +kernel
theorem dJ9_min_7cf53_0 : decode cJ9_min_7cf53 0 = .ok (.iload_n 0, 1) := by decide +kernel
theorem dJ9_min_7cf53_1 : decode cJ9_min_7cf53 1 = .ok (.iload_n 1, 1) := by decide +kernel
theorem dJ9_min_7cf53_2 : decode cJ9_min_7cf53 2 = .ok (.if_icmp .gt 7, 3) := by decide +kernel
theorem dJ9_min_7cf53_5 : decode cJ9_min_7cf53 5 = .ok (.iload_n 0, 1) := by decide +kernel
theorem dJ9_min_7cf53_6 : decode cJ9_min_7cf53 6 = .ok (.goto 4, 3) := by decide +kernel
theorem dJ9_min_7cf53_9 : decode cJ9_min_7cf53 9 = .ok (.iload_n 1, 1) := by decide +kernel
theorem dJ9_min_7cf53_10 : decode cJ9_min_7cf53 10 = .ok (.ireturn, 1) := by decide +kernel
theorem dJ7_fill_d0a16_0 : decode cJ7_fill_d0a16 0 = .ok (.iconst 0, 1) := by decide +kernel
theorem dJ7_fill_d0a16_1 : decode cJ7_fill_d0a16 1 = .ok (.istore_n 3, 1) := by decide +kernel
theorem dJ7_fill_d0a16_2 : decode cJ7_fill_d0a16 2 = .ok (.aload_n 0, 1) := by decide +kernel
theorem dJ7_fill_d0a16_3 : decode cJ7_fill_d0a16 3 = .ok (.arraylength, 1) := by decide +kernel
theorem dJ7_fill_d0a16_4 : decode cJ7_fill_d0a16 4 = .ok (.istore 4, 2) := by decide +kernel
theorem dJ7_fill_d0a16_6 : decode cJ7_fill_d0a16 6 = .ok (.iload_n 3, 1) := by decide +kernel
theorem dJ7_fill_d0a16_7 : decode cJ7_fill_d0a16 7 = .ok (.iload 4, 2) := by decide +kernel
theorem dJ7_fill_d0a16_9 : decode cJ7_fill_d0a16 9 = .ok (.if_icmp .ge 13, 3) := by decide +kernel
theorem dJ7_fill_d0a16_12 : decode cJ7_fill_d0a16 12 = .ok (.aload_n 0, 1) := by decide +kernel
theorem dJ7_fill_d0a16_13 : decode cJ7_fill_d0a16 13 = .ok (.iload_n 3, 1) := by decide +kernel
theorem dJ7_fill_d0a16_14 : decode cJ7_fill_d0a16 14 = .ok (.lload_n 1, 1) := by decide +kernel
theorem dJ7_fill_d0a16_15 : decode cJ7_fill_d0a16 15 = .ok (.lastore, 1) := by decide +kernel
theorem dJ7_fill_d0a16_16 : decode cJ7_fill_d0a16 16 = .ok (.iinc 3 1, 3) := by decide +kernel
theorem dJ7_fill_d0a16_19 : decode cJ7_fill_d0a16 19 = .ok (.goto (-13), 3) := by decide +kernel
theorem dJ7_fill_d0a16_22 : decode cJ7_fill_d0a16 22 = .ok (.return_, 1) := by decide +kernel
theorem dJ7_fill_53178_0 : decode cJ7_fill_53178 0 = .ok (.iconst 0, 1) := by decide +kernel
theorem dJ7_fill_53178_1 : decode cJ7_fill_53178 1 = .ok (.istore_n 2, 1) := by decide +kernel
theorem dJ7_fill_53178_2 : decode cJ7_fill_53178 2 = .ok (.aload_n 0, 1) := by decide +kernel
theorem dJ7_fill_53178_3 : decode cJ7_fill_53178 3 = .ok (.arraylength, 1) := by decide +kernel
theorem dJ7_fill_53178_4 : decode cJ7_fill_53178 4 = .ok (.istore_n 3, 1) := by decide +kernel
theorem dJ7_fill_53178_5 : decode cJ7_fill_53178 5 = .ok (.iload_n 2, 1) := by decide +kernel
theorem dJ7_fill_53178_6 : decode cJ7_fill_53178 6 = .ok (.iload_n 3, 1) := by decide +kernel
theorem dJ7_fill_53178_7 : decode cJ7_fill_53178 7 = .ok (.if_icmp .ge 13, 3) := by decide +kernel
theorem dJ7_fill_53178_10 : decode cJ7_fill_53178 10 = .ok (.aload_n 0, 1) := by decide +kernel
theorem dJ7_fill_53178_11 : decode cJ7_fill_53178 11 = .ok (.iload_n 2, 1) := by decide +kernel
theorem dJ7_fill_53178_12 : decode cJ7_fill_53178 12 = .ok (.iload_n 1, 1) := by decide +kernel
theorem dJ7_fill_53178_13 : decode cJ7_fill_53178 13 = .ok (.iastore, 1) := by decide +kernel
theorem dJ7_fill_53178_14 : decode cJ7_fill_53178 14 = .ok (.iinc 2 1, 3) := by decide +kernel
theorem dJ7_fill_53178_17 : decode cJ7_fill_53178 17 = .ok (.goto (-12), 3) := by decide +kernel
theorem dJ7_fill_53178_20 : decode cJ7_fill_53178 20 = .ok (.return_, 1) := by decide +kernel
theorem dJ7_copyOf_9075b_0 : decode cJ7_copyOf_9075b 0 = .ok (.iload_n 1, 1) := by decide +kernel
theorem dJ7_copyOf_9075b_1 : decode cJ7_copyOf_9075b 1 = .ok (.aload_n 0, 1) := by decide +kernel
theorem dJ7_copyOf_9075b_2 : decode cJ7_copyOf_9075b 2 = .ok (.arraylength, 1) := by decide +kernel
theorem dJ7_copyOf_9075b_3 : decode cJ7_copyOf_9075b 3 = .ok (.if_icmp .ne 11, 3) := by decide +kernel
theorem dJ7_copyOf_9075b_6 : decode cJ7_copyOf_9075b 6 = .ok (.aload_n 0, 1) := by decide +kernel
theorem dJ7_copyOf_9075b_7 : decode cJ7_copyOf_9075b 7 = .ok (.invokevirtual 310, 3) := by decide +kernel
theorem dJ7_copyOf_9075b_10 : decode cJ7_copyOf_9075b 10 = .ok (.checkcast 311, 3) := by decide +kernel
theorem dJ7_copyOf_9075b_13 : decode cJ7_copyOf_9075b 13 = .ok (.areturn, 1) := by decide +kernel
theorem dJ7_copyOf_9075b_14 : decode cJ7_copyOf_9075b 14 = .ok (.iload_n 1, 1) := by decide +kernel
theorem dJ7_copyOf_9075b_15 : decode cJ7_copyOf_9075b 15 = .ok (.newarray .byte, 2) := by decide +kernel
theorem dJ7_copyOf_9075b_17 : decode cJ7_copyOf_9075b 17 = .ok (.astore_n 2, 1) := by decide +kernel
theorem dJ7_copyOf_9075b_18 : decode cJ7_copyOf_9075b 18 = .ok (.aload_n 0, 1) := by decide +kernel
theorem dJ7_copyOf_9075b_19 : decode cJ7_copyOf_9075b 19 = .ok (.iconst 0, 1) := by decide +kernel
theorem dJ7_copyOf_9075b_20 : decode cJ7_copyOf_9075b 20 = .ok (.aload_n 2, 1) := by decide +kernel
theorem dJ7_copyOf_9075b_21 : decode cJ7_copyOf_9075b 21 = .ok (.iconst 0, 1) := by decide +kernel
theorem dJ7_copyOf_9075b_22 : decode cJ7_copyOf_9075b 22 = .ok (.aload_n 0, 1) := by decide +kernel
theorem dJ7_copyOf_9075b_23 : decode cJ7_copyOf_9075b 23 = .ok (.arraylength, 1) := by decide +kernel
theorem dJ7_copyOf_9075b_24 : decode cJ7_copyOf_9075b 24 = .ok (.iload_n 1, 1) := by decide +kernel
theorem dJ7_copyOf_9075b_25 : decode cJ7_copyOf_9075b 25 = .ok (.invokestatic 304, 3) := by decide +kernel
theorem dJ7_copyOf_9075b_28 : decode cJ7_copyOf_9075b 28 = .ok (.invokestatic 150, 3) := by decide +kernel
theorem dJ7_copyOf_9075b_31 : decode cJ7_copyOf_9075b 31 = .ok (.aload_n 2, 1) := by decide +kernel
theorem dJ7_copyOf_9075b_32 : decode cJ7_copyOf_9075b 32 = .ok (.areturn, 1) := by decide +kernel
theorem dJ7_copyOf_59c91_0 : decode cJ7_copyOf_59c91 0 = .ok (.iload_n 1, 1) := by decide +kernel
theorem dJ7_copyOf_59c91_1 : decode cJ7_copyOf_59c91 1 = .ok (.aload_n 0, 1) := by decide +kernel
theorem dJ7_copyOf_59c91_2 : decode cJ7_copyOf_59c91 2 = .ok (.arraylength, 1) := by decide +kernel
theorem dJ7_copyOf_59c91_3 : decode cJ7_copyOf_59c91 3 = .ok (.if_icmp .ne 11, 3) := by decide +kernel
theorem dJ7_copyOf_59c91_6 : decode cJ7_copyOf_59c91 6 = .ok (.aload_n 0, 1) := by decide +kernel
theorem dJ7_copyOf_59c91_7 : decode cJ7_copyOf_59c91 7 = .ok (.invokevirtual 316, 3) := by decide +kernel
theorem dJ7_copyOf_59c91_10 : decode cJ7_copyOf_59c91 10 = .ok (.checkcast 317, 3) := by decide +kernel
theorem dJ7_copyOf_59c91_13 : decode cJ7_copyOf_59c91 13 = .ok (.areturn, 1) := by decide +kernel
theorem dJ7_copyOf_59c91_14 : decode cJ7_copyOf_59c91 14 = .ok (.iload_n 1, 1) := by decide +kernel
theorem dJ7_copyOf_59c91_15 : decode cJ7_copyOf_59c91 15 = .ok (.newarray .int, 2) := by decide +kernel
theorem dJ7_copyOf_59c91_17 : decode cJ7_copyOf_59c91 17 = .ok (.astore_n 2, 1) := by decide +kernel
theorem dJ7_copyOf_59c91_18 : decode cJ7_copyOf_59c91 18 = .ok (.aload_n 0, 1) := by decide +kernel
theorem dJ7_copyOf_59c91_19 : decode cJ7_copyOf_59c91 19 = .ok (.iconst 0, 1) := by decide +kernel
theorem dJ7_copyOf_59c91_20 : decode cJ7_copyOf_59c91 20 = .ok (.aload_n 2, 1) := by decide +kernel
theorem dJ7_copyOf_59c91_21 : decode cJ7_copyOf_59c91 21 = .ok (.iconst 0, 1) := by decide +kernel
theorem dJ7_copyOf_59c91_22 : decode cJ7_copyOf_59c91 22 = .ok (.aload_n 0, 1) := by decide +kernel
theorem dJ7_copyOf_59c91_23 : decode cJ7_copyOf_59c91 23 = .ok (.arraylength, 1) := by decide +kernel
theorem dJ7_copyOf_59c91_24 : decode cJ7_copyOf_59c91 24 = .ok (.iload_n 1, 1) := by decide +kernel
theorem dJ7_copyOf_59c91_25 : decode cJ7_copyOf_59c91 25 = .ok (.invokestatic 304, 3) := by decide +kernel
theorem dJ7_copyOf_59c91_28 : decode cJ7_copyOf_59c91 28 = .ok (.invokestatic 150, 3) := by decide +kernel
theorem dJ7_copyOf_59c91_31 : decode cJ7_copyOf_59c91 31 = .ok (.aload_n 2, 1) := by decide +kernel
theorem dJ7_copyOf_59c91_32 : decode cJ7_copyOf_59c91 32 = .ok (.areturn, 1) := by decide +kernel
theorem dL_law_0 : decode cL_law 0 = .ok (.new 7, 3) := by decide +kernel
theorem dL_law_3 : decode cL_law 3 = .ok (.dup, 1) := by decide +kernel
theorem dL_law_4 : decode cL_law 4 = .ok (.invokespecial 9, 3) := by decide +kernel
theorem dL_law_7 : decode cL_law 7 = .ok (.astore_n 1, 1) := by decide +kernel
theorem dL_law_8 : decode cL_law 8 = .ok (.new 10, 3) := by decide +kernel
theorem dL_law_11 : decode cL_law 11 = .ok (.dup, 1) := by decide +kernel
theorem dL_law_12 : decode cL_law 12 = .ok (.invokespecial 12, 3) := by decide +kernel
theorem dL_law_15 : decode cL_law 15 = .ok (.astore_n 2, 1) := by decide +kernel
theorem dL_law_16 : decode cL_law 16 = .ok (.iconst 0, 1) := by decide +kernel
theorem dL_law_17 : decode cL_law 17 = .ok (.istore_n 3, 1) := by decide +kernel
theorem dL_law_18 : decode cL_law 18 = .ok (.iload_n 3, 1) := by decide +kernel
theorem dL_law_19 : decode cL_law 19 = .ok (.aload_n 0, 1) := by decide +kernel
theorem dL_law_20 : decode cL_law 20 = .ok (.arraylength, 1) := by decide +kernel
theorem dL_law_21 : decode cL_law 21 = .ok (.bipush 6, 2) := by decide +kernel
theorem dL_law_23 : decode cL_law 23 = .ok (.isub, 1) := by decide +kernel
theorem dL_law_24 : decode cL_law 24 = .ok (.if_icmp .gt 1162, 3) := by decide +kernel
theorem dL_law_27 : decode cL_law 27 = .ok (.aload_n 0, 1) := by decide +kernel
theorem dL_law_28 : decode cL_law 28 = .ok (.iload_n 3, 1) := by decide +kernel
theorem dL_law_29 : decode cL_law 29 = .ok (.iaload, 1) := by decide +kernel
theorem dL_law_30 : decode cL_law 30 = .ok (.bipush 31, 2) := by decide +kernel
theorem dL_law_32 : decode cL_law 32 = .ok (.iand, 1) := by decide +kernel
theorem dL_law_33 : decode cL_law 33 = .ok (.tableswitch 1147 0 29 #[135, 168, 237, 306, 359, 402, 435, 478, 521, 554, 597, 630, 653, 666, 679, 692, 755, 778, 791, 824, 857, 890, 903, 936, 969, 1012, 1035, 1078, 1101, 1124], 135) := by decide +kernel
theorem dL_law_168 : decode cL_law 168 = .ok (.aload_n 1, 1) := by decide +kernel
theorem dL_law_169 : decode cL_law 169 = .ok (.aload_n 0, 1) := by decide +kernel
theorem dL_law_170 : decode cL_law 170 = .ok (.iload_n 3, 1) := by decide +kernel
theorem dL_law_171 : decode cL_law 171 = .ok (.iconst 1, 1) := by decide +kernel
theorem dL_law_172 : decode cL_law 172 = .ok (.iadd, 1) := by decide +kernel
theorem dL_law_173 : decode cL_law 173 = .ok (.iaload, 1) := by decide +kernel
theorem dL_law_174 : decode cL_law 174 = .ok (.aload_n 0, 1) := by decide +kernel
theorem dL_law_175 : decode cL_law 175 = .ok (.iload_n 3, 1) := by decide +kernel
theorem dL_law_176 : decode cL_law 176 = .ok (.iconst 2, 1) := by decide +kernel
theorem dL_law_177 : decode cL_law 177 = .ok (.iadd, 1) := by decide +kernel
theorem dL_law_178 : decode cL_law 178 = .ok (.iaload, 1) := by decide +kernel
theorem dL_law_179 : decode cL_law 179 = .ok (.invokevirtual 13, 3) := by decide +kernel
theorem dL_law_182 : decode cL_law 182 = .ok (.aload_n 2, 1) := by decide +kernel
theorem dL_law_183 : decode cL_law 183 = .ok (.aload_n 0, 1) := by decide +kernel
theorem dL_law_184 : decode cL_law 184 = .ok (.iload_n 3, 1) := by decide +kernel
theorem dL_law_185 : decode cL_law 185 = .ok (.iconst 1, 1) := by decide +kernel
theorem dL_law_186 : decode cL_law 186 = .ok (.iadd, 1) := by decide +kernel
theorem dL_law_187 : decode cL_law 187 = .ok (.iaload, 1) := by decide +kernel
theorem dL_law_188 : decode cL_law 188 = .ok (.aload_n 0, 1) := by decide +kernel
theorem dL_law_189 : decode cL_law 189 = .ok (.iload_n 3, 1) := by decide +kernel
theorem dL_law_190 : decode cL_law 190 = .ok (.iconst 2, 1) := by decide +kernel
theorem dL_law_191 : decode cL_law 191 = .ok (.iadd, 1) := by decide +kernel
theorem dL_law_192 : decode cL_law 192 = .ok (.iaload, 1) := by decide +kernel
theorem dL_law_193 : decode cL_law 193 = .ok (.invokevirtual 17, 3) := by decide +kernel
theorem dL_law_196 : decode cL_law 196 = .ok (.if_icmp .eq 984, 3) := by decide +kernel
theorem dL_law_199 : decode cL_law 199 = .ok (.iconst 0, 1) := by decide +kernel
theorem dL_law_200 : decode cL_law 200 = .ok (.ireturn, 1) := by decide +kernel
theorem dL_law_201 : decode cL_law 201 = .ok (.aload_n 1, 1) := by decide +kernel
theorem dL_law_202 : decode cL_law 202 = .ok (.aload_n 0, 1) := by decide +kernel
theorem dL_law_203 : decode cL_law 203 = .ok (.iload_n 3, 1) := by decide +kernel
theorem dL_law_204 : decode cL_law 204 = .ok (.iconst 1, 1) := by decide +kernel
theorem dL_law_205 : decode cL_law 205 = .ok (.iadd, 1) := by decide +kernel
theorem dL_law_206 : decode cL_law 206 = .ok (.iaload, 1) := by decide +kernel
theorem dL_law_207 : decode cL_law 207 = .ok (.aload_n 0, 1) := by decide +kernel
theorem dL_law_208 : decode cL_law 208 = .ok (.iload_n 3, 1) := by decide +kernel
theorem dL_law_209 : decode cL_law 209 = .ok (.iconst 2, 1) := by decide +kernel
theorem dL_law_210 : decode cL_law 210 = .ok (.iadd, 1) := by decide +kernel
theorem dL_law_211 : decode cL_law 211 = .ok (.iaload, 1) := by decide +kernel
theorem dL_law_212 : decode cL_law 212 = .ok (.aload_n 0, 1) := by decide +kernel
theorem dL_law_213 : decode cL_law 213 = .ok (.iload_n 3, 1) := by decide +kernel
theorem dL_law_214 : decode cL_law 214 = .ok (.iconst 3, 1) := by decide +kernel
theorem dL_law_215 : decode cL_law 215 = .ok (.iadd, 1) := by decide +kernel
theorem dL_law_216 : decode cL_law 216 = .ok (.iaload, 1) := by decide +kernel
theorem dL_law_217 : decode cL_law 217 = .ok (.aload_n 0, 1) := by decide +kernel
theorem dL_law_218 : decode cL_law 218 = .ok (.iload_n 3, 1) := by decide +kernel
theorem dL_law_219 : decode cL_law 219 = .ok (.iconst 4, 1) := by decide +kernel
theorem dL_law_220 : decode cL_law 220 = .ok (.iadd, 1) := by decide +kernel
theorem dL_law_221 : decode cL_law 221 = .ok (.iaload, 1) := by decide +kernel
theorem dL_law_222 : decode cL_law 222 = .ok (.ifCond .eq 7, 3) := by decide +kernel
theorem dL_law_225 : decode cL_law 225 = .ok (.iconst 1, 1) := by decide +kernel
theorem dL_law_226 : decode cL_law 226 = .ok (.goto 4, 3) := by decide +kernel
theorem dL_law_229 : decode cL_law 229 = .ok (.iconst 0, 1) := by decide +kernel
theorem dL_law_230 : decode cL_law 230 = .ok (.invokevirtual 18, 3) := by decide +kernel
theorem dL_law_233 : decode cL_law 233 = .ok (.aload_n 2, 1) := by decide +kernel
theorem dL_law_234 : decode cL_law 234 = .ok (.aload_n 0, 1) := by decide +kernel
theorem dL_law_235 : decode cL_law 235 = .ok (.iload_n 3, 1) := by decide +kernel
theorem dL_law_236 : decode cL_law 236 = .ok (.iconst 1, 1) := by decide +kernel
theorem dL_law_237 : decode cL_law 237 = .ok (.iadd, 1) := by decide +kernel
theorem dL_law_238 : decode cL_law 238 = .ok (.iaload, 1) := by decide +kernel
theorem dL_law_239 : decode cL_law 239 = .ok (.aload_n 0, 1) := by decide +kernel
theorem dL_law_240 : decode cL_law 240 = .ok (.iload_n 3, 1) := by decide +kernel
theorem dL_law_241 : decode cL_law 241 = .ok (.iconst 2, 1) := by decide +kernel
theorem dL_law_242 : decode cL_law 242 = .ok (.iadd, 1) := by decide +kernel
theorem dL_law_243 : decode cL_law 243 = .ok (.iaload, 1) := by decide +kernel
theorem dL_law_244 : decode cL_law 244 = .ok (.aload_n 0, 1) := by decide +kernel
theorem dL_law_245 : decode cL_law 245 = .ok (.iload_n 3, 1) := by decide +kernel
theorem dL_law_246 : decode cL_law 246 = .ok (.iconst 3, 1) := by decide +kernel
theorem dL_law_247 : decode cL_law 247 = .ok (.iadd, 1) := by decide +kernel
theorem dL_law_248 : decode cL_law 248 = .ok (.iaload, 1) := by decide +kernel
theorem dL_law_249 : decode cL_law 249 = .ok (.aload_n 0, 1) := by decide +kernel
theorem dL_law_250 : decode cL_law 250 = .ok (.iload_n 3, 1) := by decide +kernel
theorem dL_law_251 : decode cL_law 251 = .ok (.iconst 4, 1) := by decide +kernel
theorem dL_law_252 : decode cL_law 252 = .ok (.iadd, 1) := by decide +kernel
theorem dL_law_253 : decode cL_law 253 = .ok (.iaload, 1) := by decide +kernel
theorem dL_law_254 : decode cL_law 254 = .ok (.ifCond .eq 7, 3) := by decide +kernel
theorem dL_law_257 : decode cL_law 257 = .ok (.iconst 1, 1) := by decide +kernel
theorem dL_law_258 : decode cL_law 258 = .ok (.goto 4, 3) := by decide +kernel
theorem dL_law_261 : decode cL_law 261 = .ok (.iconst 0, 1) := by decide +kernel
theorem dL_law_262 : decode cL_law 262 = .ok (.invokevirtual 22, 3) := by decide +kernel
theorem dL_law_265 : decode cL_law 265 = .ok (.if_icmp .eq 915, 3) := by decide +kernel
theorem dL_law_268 : decode cL_law 268 = .ok (.iconst 0, 1) := by decide +kernel
theorem dL_law_269 : decode cL_law 269 = .ok (.ireturn, 1) := by decide +kernel
theorem dL_law_270 : decode cL_law 270 = .ok (.aload_n 1, 1) := by decide +kernel
theorem dL_law_271 : decode cL_law 271 = .ok (.aload_n 0, 1) := by decide +kernel
theorem dL_law_272 : decode cL_law 272 = .ok (.iload_n 3, 1) := by decide +kernel
theorem dL_law_273 : decode cL_law 273 = .ok (.iconst 1, 1) := by decide +kernel
theorem dL_law_274 : decode cL_law 274 = .ok (.iadd, 1) := by decide +kernel
theorem dL_law_275 : decode cL_law 275 = .ok (.iaload, 1) := by decide +kernel
theorem dL_law_276 : decode cL_law 276 = .ok (.aload_n 0, 1) := by decide +kernel
theorem dL_law_277 : decode cL_law 277 = .ok (.iload_n 3, 1) := by decide +kernel
theorem dL_law_278 : decode cL_law 278 = .ok (.iconst 2, 1) := by decide +kernel
theorem dL_law_279 : decode cL_law 279 = .ok (.iadd, 1) := by decide +kernel
theorem dL_law_280 : decode cL_law 280 = .ok (.iaload, 1) := by decide +kernel
theorem dL_law_281 : decode cL_law 281 = .ok (.aload_n 0, 1) := by decide +kernel
theorem dL_law_282 : decode cL_law 282 = .ok (.iload_n 3, 1) := by decide +kernel
theorem dL_law_283 : decode cL_law 283 = .ok (.iconst 3, 1) := by decide +kernel
theorem dL_law_284 : decode cL_law 284 = .ok (.iadd, 1) := by decide +kernel
theorem dL_law_285 : decode cL_law 285 = .ok (.iaload, 1) := by decide +kernel
theorem dL_law_286 : decode cL_law 286 = .ok (.aload_n 0, 1) := by decide +kernel
theorem dL_law_287 : decode cL_law 287 = .ok (.iload_n 3, 1) := by decide +kernel
theorem dL_law_288 : decode cL_law 288 = .ok (.iconst 4, 1) := by decide +kernel
theorem dL_law_289 : decode cL_law 289 = .ok (.iadd, 1) := by decide +kernel
theorem dL_law_290 : decode cL_law 290 = .ok (.iaload, 1) := by decide +kernel
theorem dL_law_291 : decode cL_law 291 = .ok (.ifCond .eq 7, 3) := by decide +kernel
theorem dL_law_294 : decode cL_law 294 = .ok (.iconst 1, 1) := by decide +kernel
theorem dL_law_295 : decode cL_law 295 = .ok (.goto 4, 3) := by decide +kernel
theorem dL_law_298 : decode cL_law 298 = .ok (.iconst 0, 1) := by decide +kernel
theorem dL_law_299 : decode cL_law 299 = .ok (.invokevirtual 23, 3) := by decide +kernel
theorem dL_law_302 : decode cL_law 302 = .ok (.aload_n 2, 1) := by decide +kernel
theorem dL_law_303 : decode cL_law 303 = .ok (.aload_n 0, 1) := by decide +kernel
theorem dL_law_304 : decode cL_law 304 = .ok (.iload_n 3, 1) := by decide +kernel
theorem dL_law_305 : decode cL_law 305 = .ok (.iconst 1, 1) := by decide +kernel
theorem dL_law_306 : decode cL_law 306 = .ok (.iadd, 1) := by decide +kernel
theorem dL_law_307 : decode cL_law 307 = .ok (.iaload, 1) := by decide +kernel
theorem dL_law_308 : decode cL_law 308 = .ok (.aload_n 0, 1) := by decide +kernel
theorem dL_law_309 : decode cL_law 309 = .ok (.iload_n 3, 1) := by decide +kernel
theorem dL_law_310 : decode cL_law 310 = .ok (.iconst 2, 1) := by decide +kernel
theorem dL_law_311 : decode cL_law 311 = .ok (.iadd, 1) := by decide +kernel
theorem dL_law_312 : decode cL_law 312 = .ok (.iaload, 1) := by decide +kernel
theorem dL_law_313 : decode cL_law 313 = .ok (.aload_n 0, 1) := by decide +kernel
theorem dL_law_314 : decode cL_law 314 = .ok (.iload_n 3, 1) := by decide +kernel
theorem dL_law_315 : decode cL_law 315 = .ok (.iconst 3, 1) := by decide +kernel
theorem dL_law_316 : decode cL_law 316 = .ok (.iadd, 1) := by decide +kernel
theorem dL_law_317 : decode cL_law 317 = .ok (.iaload, 1) := by decide +kernel
theorem dL_law_318 : decode cL_law 318 = .ok (.aload_n 0, 1) := by decide +kernel
theorem dL_law_319 : decode cL_law 319 = .ok (.iload_n 3, 1) := by decide +kernel
theorem dL_law_320 : decode cL_law 320 = .ok (.iconst 4, 1) := by decide +kernel
theorem dL_law_321 : decode cL_law 321 = .ok (.iadd, 1) := by decide +kernel
theorem dL_law_322 : decode cL_law 322 = .ok (.iaload, 1) := by decide +kernel
theorem dL_law_323 : decode cL_law 323 = .ok (.ifCond .eq 7, 3) := by decide +kernel
theorem dL_law_326 : decode cL_law 326 = .ok (.iconst 1, 1) := by decide +kernel
theorem dL_law_327 : decode cL_law 327 = .ok (.goto 4, 3) := by decide +kernel
theorem dL_law_330 : decode cL_law 330 = .ok (.iconst 0, 1) := by decide +kernel
theorem dL_law_331 : decode cL_law 331 = .ok (.invokevirtual 26, 3) := by decide +kernel
theorem dL_law_334 : decode cL_law 334 = .ok (.if_icmp .eq 846, 3) := by decide +kernel
theorem dL_law_337 : decode cL_law 337 = .ok (.iconst 0, 1) := by decide +kernel
theorem dL_law_338 : decode cL_law 338 = .ok (.ireturn, 1) := by decide +kernel
theorem dL_law_339 : decode cL_law 339 = .ok (.aload_n 1, 1) := by decide +kernel
theorem dL_law_340 : decode cL_law 340 = .ok (.aload_n 0, 1) := by decide +kernel
theorem dL_law_341 : decode cL_law 341 = .ok (.iload_n 3, 1) := by decide +kernel
theorem dL_law_342 : decode cL_law 342 = .ok (.iconst 1, 1) := by decide +kernel
theorem dL_law_343 : decode cL_law 343 = .ok (.iadd, 1) := by decide +kernel
theorem dL_law_344 : decode cL_law 344 = .ok (.iaload, 1) := by decide +kernel
theorem dL_law_345 : decode cL_law 345 = .ok (.aload_n 0, 1) := by decide +kernel
theorem dL_law_346 : decode cL_law 346 = .ok (.iload_n 3, 1) := by decide +kernel
theorem dL_law_347 : decode cL_law 347 = .ok (.iconst 2, 1) := by decide +kernel
theorem dL_law_348 : decode cL_law 348 = .ok (.iadd, 1) := by decide +kernel
theorem dL_law_349 : decode cL_law 349 = .ok (.iaload, 1) := by decide +kernel
theorem dL_law_350 : decode cL_law 350 = .ok (.aload_n 0, 1) := by decide +kernel
theorem dL_law_351 : decode cL_law 351 = .ok (.iload_n 3, 1) := by decide +kernel
theorem dL_law_352 : decode cL_law 352 = .ok (.iconst 3, 1) := by decide +kernel
theorem dL_law_353 : decode cL_law 353 = .ok (.iadd, 1) := by decide +kernel
theorem dL_law_354 : decode cL_law 354 = .ok (.iaload, 1) := by decide +kernel
theorem dL_law_355 : decode cL_law 355 = .ok (.aload_n 0, 1) := by decide +kernel
theorem dL_law_356 : decode cL_law 356 = .ok (.iload_n 3, 1) := by decide +kernel
theorem dL_law_357 : decode cL_law 357 = .ok (.iconst 4, 1) := by decide +kernel
theorem dL_law_358 : decode cL_law 358 = .ok (.iadd, 1) := by decide +kernel
theorem dL_law_359 : decode cL_law 359 = .ok (.iaload, 1) := by decide +kernel
theorem dL_law_360 : decode cL_law 360 = .ok (.invokevirtual 27, 3) := by decide +kernel
theorem dL_law_363 : decode cL_law 363 = .ok (.aload_n 2, 1) := by decide +kernel
theorem dL_law_364 : decode cL_law 364 = .ok (.aload_n 0, 1) := by decide +kernel
theorem dL_law_365 : decode cL_law 365 = .ok (.iload_n 3, 1) := by decide +kernel
theorem dL_law_366 : decode cL_law 366 = .ok (.iconst 1, 1) := by decide +kernel
theorem dL_law_367 : decode cL_law 367 = .ok (.iadd, 1) := by decide +kernel
theorem dL_law_368 : decode cL_law 368 = .ok (.iaload, 1) := by decide +kernel
theorem dL_law_369 : decode cL_law 369 = .ok (.aload_n 0, 1) := by decide +kernel
theorem dL_law_370 : decode cL_law 370 = .ok (.iload_n 3, 1) := by decide +kernel
theorem dL_law_371 : decode cL_law 371 = .ok (.iconst 2, 1) := by decide +kernel
theorem dL_law_372 : decode cL_law 372 = .ok (.iadd, 1) := by decide +kernel
theorem dL_law_373 : decode cL_law 373 = .ok (.iaload, 1) := by decide +kernel
theorem dL_law_374 : decode cL_law 374 = .ok (.aload_n 0, 1) := by decide +kernel
theorem dL_law_375 : decode cL_law 375 = .ok (.iload_n 3, 1) := by decide +kernel
theorem dL_law_376 : decode cL_law 376 = .ok (.iconst 3, 1) := by decide +kernel
theorem dL_law_377 : decode cL_law 377 = .ok (.iadd, 1) := by decide +kernel
theorem dL_law_378 : decode cL_law 378 = .ok (.iaload, 1) := by decide +kernel
theorem dL_law_379 : decode cL_law 379 = .ok (.aload_n 0, 1) := by decide +kernel
theorem dL_law_380 : decode cL_law 380 = .ok (.iload_n 3, 1) := by decide +kernel
theorem dL_law_381 : decode cL_law 381 = .ok (.iconst 4, 1) := by decide +kernel
theorem dL_law_382 : decode cL_law 382 = .ok (.iadd, 1) := by decide +kernel
theorem dL_law_383 : decode cL_law 383 = .ok (.iaload, 1) := by decide +kernel
theorem dL_law_384 : decode cL_law 384 = .ok (.invokevirtual 31, 3) := by decide +kernel
theorem dL_law_387 : decode cL_law 387 = .ok (.if_icmp .eq 793, 3) := by decide +kernel
theorem dL_law_390 : decode cL_law 390 = .ok (.iconst 0, 1) := by decide +kernel
theorem dL_law_391 : decode cL_law 391 = .ok (.ireturn, 1) := by decide +kernel
theorem dL_law_392 : decode cL_law 392 = .ok (.aload_n 1, 1) := by decide +kernel
theorem dL_law_393 : decode cL_law 393 = .ok (.aload_n 0, 1) := by decide +kernel
theorem dL_law_394 : decode cL_law 394 = .ok (.iload_n 3, 1) := by decide +kernel
theorem dL_law_395 : decode cL_law 395 = .ok (.iconst 1, 1) := by decide +kernel
theorem dL_law_396 : decode cL_law 396 = .ok (.iadd, 1) := by decide +kernel
theorem dL_law_397 : decode cL_law 397 = .ok (.iaload, 1) := by decide +kernel
theorem dL_law_398 : decode cL_law 398 = .ok (.aload_n 0, 1) := by decide +kernel
theorem dL_law_399 : decode cL_law 399 = .ok (.iload_n 3, 1) := by decide +kernel
theorem dL_law_400 : decode cL_law 400 = .ok (.iconst 2, 1) := by decide +kernel
theorem dL_law_401 : decode cL_law 401 = .ok (.iadd, 1) := by decide +kernel
theorem dL_law_402 : decode cL_law 402 = .ok (.iaload, 1) := by decide +kernel
theorem dL_law_403 : decode cL_law 403 = .ok (.aload_n 0, 1) := by decide +kernel
theorem dL_law_404 : decode cL_law 404 = .ok (.iload_n 3, 1) := by decide +kernel
theorem dL_law_405 : decode cL_law 405 = .ok (.iconst 3, 1) := by decide +kernel
theorem dL_law_406 : decode cL_law 406 = .ok (.iadd, 1) := by decide +kernel
theorem dL_law_407 : decode cL_law 407 = .ok (.iaload, 1) := by decide +kernel
theorem dL_law_408 : decode cL_law 408 = .ok (.invokevirtual 32, 3) := by decide +kernel
theorem dL_law_411 : decode cL_law 411 = .ok (.aload_n 2, 1) := by decide +kernel
theorem dL_law_412 : decode cL_law 412 = .ok (.aload_n 0, 1) := by decide +kernel
theorem dL_law_413 : decode cL_law 413 = .ok (.iload_n 3, 1) := by decide +kernel
theorem dL_law_414 : decode cL_law 414 = .ok (.iconst 1, 1) := by decide +kernel
theorem dL_law_415 : decode cL_law 415 = .ok (.iadd, 1) := by decide +kernel
theorem dL_law_416 : decode cL_law 416 = .ok (.iaload, 1) := by decide +kernel
theorem dL_law_417 : decode cL_law 417 = .ok (.aload_n 0, 1) := by decide +kernel
theorem dL_law_418 : decode cL_law 418 = .ok (.iload_n 3, 1) := by decide +kernel
theorem dL_law_419 : decode cL_law 419 = .ok (.iconst 2, 1) := by decide +kernel
theorem dL_law_420 : decode cL_law 420 = .ok (.iadd, 1) := by decide +kernel
theorem dL_law_421 : decode cL_law 421 = .ok (.iaload, 1) := by decide +kernel
theorem dL_law_422 : decode cL_law 422 = .ok (.aload_n 0, 1) := by decide +kernel
theorem dL_law_423 : decode cL_law 423 = .ok (.iload_n 3, 1) := by decide +kernel
theorem dL_law_424 : decode cL_law 424 = .ok (.iconst 3, 1) := by decide +kernel
theorem dL_law_425 : decode cL_law 425 = .ok (.iadd, 1) := by decide +kernel
theorem dL_law_426 : decode cL_law 426 = .ok (.iaload, 1) := by decide +kernel
theorem dL_law_427 : decode cL_law 427 = .ok (.invokevirtual 36, 3) := by decide +kernel
theorem dL_law_430 : decode cL_law 430 = .ok (.if_icmp .eq 750, 3) := by decide +kernel
theorem dL_law_433 : decode cL_law 433 = .ok (.iconst 0, 1) := by decide +kernel
theorem dL_law_434 : decode cL_law 434 = .ok (.ireturn, 1) := by decide +kernel
theorem dL_law_435 : decode cL_law 435 = .ok (.aload_n 1, 1) := by decide +kernel
theorem dL_law_436 : decode cL_law 436 = .ok (.aload_n 0, 1) := by decide +kernel
theorem dL_law_437 : decode cL_law 437 = .ok (.iload_n 3, 1) := by decide +kernel
theorem dL_law_438 : decode cL_law 438 = .ok (.iconst 1, 1) := by decide +kernel
theorem dL_law_439 : decode cL_law 439 = .ok (.iadd, 1) := by decide +kernel
theorem dL_law_440 : decode cL_law 440 = .ok (.iaload, 1) := by decide +kernel
theorem dL_law_441 : decode cL_law 441 = .ok (.aload_n 0, 1) := by decide +kernel
theorem dL_law_442 : decode cL_law 442 = .ok (.iload_n 3, 1) := by decide +kernel
theorem dL_law_443 : decode cL_law 443 = .ok (.iconst 2, 1) := by decide +kernel
theorem dL_law_444 : decode cL_law 444 = .ok (.iadd, 1) := by decide +kernel
theorem dL_law_445 : decode cL_law 445 = .ok (.iaload, 1) := by decide +kernel
theorem dL_law_446 : decode cL_law 446 = .ok (.invokevirtual 37, 3) := by decide +kernel
theorem dL_law_449 : decode cL_law 449 = .ok (.aload_n 2, 1) := by decide +kernel
theorem dL_law_450 : decode cL_law 450 = .ok (.aload_n 0, 1) := by decide +kernel
theorem dL_law_451 : decode cL_law 451 = .ok (.iload_n 3, 1) := by decide +kernel
theorem dL_law_452 : decode cL_law 452 = .ok (.iconst 1, 1) := by decide +kernel
theorem dL_law_453 : decode cL_law 453 = .ok (.iadd, 1) := by decide +kernel
theorem dL_law_454 : decode cL_law 454 = .ok (.iaload, 1) := by decide +kernel
theorem dL_law_455 : decode cL_law 455 = .ok (.aload_n 0, 1) := by decide +kernel
theorem dL_law_456 : decode cL_law 456 = .ok (.iload_n 3, 1) := by decide +kernel
theorem dL_law_457 : decode cL_law 457 = .ok (.iconst 2, 1) := by decide +kernel
theorem dL_law_458 : decode cL_law 458 = .ok (.iadd, 1) := by decide +kernel
theorem dL_law_459 : decode cL_law 459 = .ok (.iaload, 1) := by decide +kernel
theorem dL_law_460 : decode cL_law 460 = .ok (.invokevirtual 40, 3) := by decide +kernel
theorem dL_law_463 : decode cL_law 463 = .ok (.if_icmp .eq 717, 3) := by decide +kernel
theorem dL_law_466 : decode cL_law 466 = .ok (.iconst 0, 1) := by decide +kernel
theorem dL_law_467 : decode cL_law 467 = .ok (.ireturn, 1) := by decide +kernel
theorem dL_law_468 : decode cL_law 468 = .ok (.aload_n 1, 1) := by decide +kernel
theorem dL_law_469 : decode cL_law 469 = .ok (.aload_n 0, 1) := by decide +kernel
theorem dL_law_470 : decode cL_law 470 = .ok (.iload_n 3, 1) := by decide +kernel
theorem dL_law_471 : decode cL_law 471 = .ok (.iconst 1, 1) := by decide +kernel
theorem dL_law_472 : decode cL_law 472 = .ok (.iadd, 1) := by decide +kernel
theorem dL_law_473 : decode cL_law 473 = .ok (.iaload, 1) := by decide +kernel
theorem dL_law_474 : decode cL_law 474 = .ok (.aload_n 0, 1) := by decide +kernel
theorem dL_law_475 : decode cL_law 475 = .ok (.iload_n 3, 1) := by decide +kernel
theorem dL_law_476 : decode cL_law 476 = .ok (.iconst 2, 1) := by decide +kernel
theorem dL_law_477 : decode cL_law 477 = .ok (.iadd, 1) := by decide +kernel
theorem dL_law_478 : decode cL_law 478 = .ok (.iaload, 1) := by decide +kernel
theorem dL_law_479 : decode cL_law 479 = .ok (.aload_n 0, 1) := by decide +kernel
theorem dL_law_480 : decode cL_law 480 = .ok (.iload_n 3, 1) := by decide +kernel
theorem dL_law_481 : decode cL_law 481 = .ok (.iconst 3, 1) := by decide +kernel
theorem dL_law_482 : decode cL_law 482 = .ok (.iadd, 1) := by decide +kernel
theorem dL_law_483 : decode cL_law 483 = .ok (.iaload, 1) := by decide +kernel
theorem dL_law_484 : decode cL_law 484 = .ok (.invokevirtual 41, 3) := by decide +kernel
theorem dL_law_487 : decode cL_law 487 = .ok (.aload_n 2, 1) := by decide +kernel
theorem dL_law_488 : decode cL_law 488 = .ok (.aload_n 0, 1) := by decide +kernel
theorem dL_law_489 : decode cL_law 489 = .ok (.iload_n 3, 1) := by decide +kernel
theorem dL_law_490 : decode cL_law 490 = .ok (.iconst 1, 1) := by decide +kernel
theorem dL_law_491 : decode cL_law 491 = .ok (.iadd, 1) := by decide +kernel
theorem dL_law_492 : decode cL_law 492 = .ok (.iaload, 1) := by decide +kernel
theorem dL_law_493 : decode cL_law 493 = .ok (.aload_n 0, 1) := by decide +kernel
theorem dL_law_494 : decode cL_law 494 = .ok (.iload_n 3, 1) := by decide +kernel
theorem dL_law_495 : decode cL_law 495 = .ok (.iconst 2, 1) := by decide +kernel
theorem dL_law_496 : decode cL_law 496 = .ok (.iadd, 1) := by decide +kernel
theorem dL_law_497 : decode cL_law 497 = .ok (.iaload, 1) := by decide +kernel
theorem dL_law_498 : decode cL_law 498 = .ok (.aload_n 0, 1) := by decide +kernel
theorem dL_law_499 : decode cL_law 499 = .ok (.iload_n 3, 1) := by decide +kernel
theorem dL_law_500 : decode cL_law 500 = .ok (.iconst 3, 1) := by decide +kernel
theorem dL_law_501 : decode cL_law 501 = .ok (.iadd, 1) := by decide +kernel
theorem dL_law_502 : decode cL_law 502 = .ok (.iaload, 1) := by decide +kernel
theorem dL_law_503 : decode cL_law 503 = .ok (.invokevirtual 44, 3) := by decide +kernel
theorem dL_law_506 : decode cL_law 506 = .ok (.if_icmp .eq 674, 3) := by decide +kernel
theorem dL_law_509 : decode cL_law 509 = .ok (.iconst 0, 1) := by decide +kernel
theorem dL_law_510 : decode cL_law 510 = .ok (.ireturn, 1) := by decide +kernel
theorem dL_law_511 : decode cL_law 511 = .ok (.aload_n 1, 1) := by decide +kernel
theorem dL_law_512 : decode cL_law 512 = .ok (.aload_n 0, 1) := by decide +kernel
theorem dL_law_513 : decode cL_law 513 = .ok (.iload_n 3, 1) := by decide +kernel
theorem dL_law_514 : decode cL_law 514 = .ok (.iconst 1, 1) := by decide +kernel
theorem dL_law_515 : decode cL_law 515 = .ok (.iadd, 1) := by decide +kernel
theorem dL_law_516 : decode cL_law 516 = .ok (.iaload, 1) := by decide +kernel
theorem dL_law_517 : decode cL_law 517 = .ok (.aload_n 0, 1) := by decide +kernel
theorem dL_law_518 : decode cL_law 518 = .ok (.iload_n 3, 1) := by decide +kernel
theorem dL_law_519 : decode cL_law 519 = .ok (.iconst 2, 1) := by decide +kernel
theorem dL_law_520 : decode cL_law 520 = .ok (.iadd, 1) := by decide +kernel
theorem dL_law_521 : decode cL_law 521 = .ok (.iaload, 1) := by decide +kernel
theorem dL_law_522 : decode cL_law 522 = .ok (.aload_n 0, 1) := by decide +kernel
theorem dL_law_523 : decode cL_law 523 = .ok (.iload_n 3, 1) := by decide +kernel
theorem dL_law_524 : decode cL_law 524 = .ok (.iconst 3, 1) := by decide +kernel
theorem dL_law_525 : decode cL_law 525 = .ok (.iadd, 1) := by decide +kernel
theorem dL_law_526 : decode cL_law 526 = .ok (.iaload, 1) := by decide +kernel
theorem dL_law_527 : decode cL_law 527 = .ok (.invokevirtual 45, 3) := by decide +kernel
theorem dL_law_530 : decode cL_law 530 = .ok (.aload_n 2, 1) := by decide +kernel
theorem dL_law_531 : decode cL_law 531 = .ok (.aload_n 0, 1) := by decide +kernel
theorem dL_law_532 : decode cL_law 532 = .ok (.iload_n 3, 1) := by decide +kernel
theorem dL_law_533 : decode cL_law 533 = .ok (.iconst 1, 1) := by decide +kernel
theorem dL_law_534 : decode cL_law 534 = .ok (.iadd, 1) := by decide +kernel
theorem dL_law_535 : decode cL_law 535 = .ok (.iaload, 1) := by decide +kernel
theorem dL_law_536 : decode cL_law 536 = .ok (.aload_n 0, 1) := by decide +kernel
theorem dL_law_537 : decode cL_law 537 = .ok (.iload_n 3, 1) := by decide +kernel
theorem dL_law_538 : decode cL_law 538 = .ok (.iconst 2, 1) := by decide +kernel
theorem dL_law_539 : decode cL_law 539 = .ok (.iadd, 1) := by decide +kernel
theorem dL_law_540 : decode cL_law 540 = .ok (.iaload, 1) := by decide +kernel
theorem dL_law_541 : decode cL_law 541 = .ok (.aload_n 0, 1) := by decide +kernel
theorem dL_law_542 : decode cL_law 542 = .ok (.iload_n 3, 1) := by decide +kernel
theorem dL_law_543 : decode cL_law 543 = .ok (.iconst 3, 1) := by decide +kernel
theorem dL_law_544 : decode cL_law 544 = .ok (.iadd, 1) := by decide +kernel
theorem dL_law_545 : decode cL_law 545 = .ok (.iaload, 1) := by decide +kernel
theorem dL_law_546 : decode cL_law 546 = .ok (.invokevirtual 48, 3) := by decide +kernel
theorem dL_law_549 : decode cL_law 549 = .ok (.if_icmp .eq 631, 3) := by decide +kernel
theorem dL_law_552 : decode cL_law 552 = .ok (.iconst 0, 1) := by decide +kernel
theorem dL_law_553 : decode cL_law 553 = .ok (.ireturn, 1) := by decide +kernel
theorem dL_law_554 : decode cL_law 554 = .ok (.aload_n 1, 1) := by decide +kernel
theorem dL_law_555 : decode cL_law 555 = .ok (.aload_n 0, 1) := by decide +kernel
theorem dL_law_556 : decode cL_law 556 = .ok (.iload_n 3, 1) := by decide +kernel
theorem dL_law_557 : decode cL_law 557 = .ok (.iconst 1, 1) := by decide +kernel
theorem dL_law_558 : decode cL_law 558 = .ok (.iadd, 1) := by decide +kernel
theorem dL_law_559 : decode cL_law 559 = .ok (.iaload, 1) := by decide +kernel
theorem dL_law_560 : decode cL_law 560 = .ok (.aload_n 0, 1) := by decide +kernel
theorem dL_law_561 : decode cL_law 561 = .ok (.iload_n 3, 1) := by decide +kernel
theorem dL_law_562 : decode cL_law 562 = .ok (.iconst 2, 1) := by decide +kernel
theorem dL_law_563 : decode cL_law 563 = .ok (.iadd, 1) := by decide +kernel
theorem dL_law_564 : decode cL_law 564 = .ok (.iaload, 1) := by decide +kernel
theorem dL_law_565 : decode cL_law 565 = .ok (.invokevirtual 49, 3) := by decide +kernel
theorem dL_law_568 : decode cL_law 568 = .ok (.aload_n 2, 1) := by decide +kernel
theorem dL_law_569 : decode cL_law 569 = .ok (.aload_n 0, 1) := by decide +kernel
theorem dL_law_570 : decode cL_law 570 = .ok (.iload_n 3, 1) := by decide +kernel
theorem dL_law_571 : decode cL_law 571 = .ok (.iconst 1, 1) := by decide +kernel
theorem dL_law_572 : decode cL_law 572 = .ok (.iadd, 1) := by decide +kernel
theorem dL_law_573 : decode cL_law 573 = .ok (.iaload, 1) := by decide +kernel
theorem dL_law_574 : decode cL_law 574 = .ok (.aload_n 0, 1) := by decide +kernel
theorem dL_law_575 : decode cL_law 575 = .ok (.iload_n 3, 1) := by decide +kernel
theorem dL_law_576 : decode cL_law 576 = .ok (.iconst 2, 1) := by decide +kernel
theorem dL_law_577 : decode cL_law 577 = .ok (.iadd, 1) := by decide +kernel
theorem dL_law_578 : decode cL_law 578 = .ok (.iaload, 1) := by decide +kernel
theorem dL_law_579 : decode cL_law 579 = .ok (.invokevirtual 52, 3) := by decide +kernel
theorem dL_law_582 : decode cL_law 582 = .ok (.if_icmp .eq 598, 3) := by decide +kernel
theorem dL_law_585 : decode cL_law 585 = .ok (.iconst 0, 1) := by decide +kernel
theorem dL_law_586 : decode cL_law 586 = .ok (.ireturn, 1) := by decide +kernel
theorem dL_law_587 : decode cL_law 587 = .ok (.aload_n 1, 1) := by decide +kernel
theorem dL_law_588 : decode cL_law 588 = .ok (.aload_n 0, 1) := by decide +kernel
theorem dL_law_589 : decode cL_law 589 = .ok (.iload_n 3, 1) := by decide +kernel
theorem dL_law_590 : decode cL_law 590 = .ok (.iconst 1, 1) := by decide +kernel
theorem dL_law_591 : decode cL_law 591 = .ok (.iadd, 1) := by decide +kernel
theorem dL_law_592 : decode cL_law 592 = .ok (.iaload, 1) := by decide +kernel
theorem dL_law_593 : decode cL_law 593 = .ok (.aload_n 0, 1) := by decide +kernel
theorem dL_law_594 : decode cL_law 594 = .ok (.iload_n 3, 1) := by decide +kernel
theorem dL_law_595 : decode cL_law 595 = .ok (.iconst 2, 1) := by decide +kernel
theorem dL_law_596 : decode cL_law 596 = .ok (.iadd, 1) := by decide +kernel
theorem dL_law_597 : decode cL_law 597 = .ok (.iaload, 1) := by decide +kernel
theorem dL_law_598 : decode cL_law 598 = .ok (.aload_n 0, 1) := by decide +kernel
theorem dL_law_599 : decode cL_law 599 = .ok (.iload_n 3, 1) := by decide +kernel
theorem dL_law_600 : decode cL_law 600 = .ok (.iconst 3, 1) := by decide +kernel
theorem dL_law_601 : decode cL_law 601 = .ok (.iadd, 1) := by decide +kernel
theorem dL_law_602 : decode cL_law 602 = .ok (.iaload, 1) := by decide +kernel
theorem dL_law_603 : decode cL_law 603 = .ok (.invokevirtual 53, 3) := by decide +kernel
theorem dL_law_606 : decode cL_law 606 = .ok (.aload_n 2, 1) := by decide +kernel
theorem dL_law_607 : decode cL_law 607 = .ok (.aload_n 0, 1) := by decide +kernel
theorem dL_law_608 : decode cL_law 608 = .ok (.iload_n 3, 1) := by decide +kernel
theorem dL_law_609 : decode cL_law 609 = .ok (.iconst 1, 1) := by decide +kernel
theorem dL_law_610 : decode cL_law 610 = .ok (.iadd, 1) := by decide +kernel
theorem dL_law_611 : decode cL_law 611 = .ok (.iaload, 1) := by decide +kernel
theorem dL_law_612 : decode cL_law 612 = .ok (.aload_n 0, 1) := by decide +kernel
theorem dL_law_613 : decode cL_law 613 = .ok (.iload_n 3, 1) := by decide +kernel
theorem dL_law_614 : decode cL_law 614 = .ok (.iconst 2, 1) := by decide +kernel
theorem dL_law_615 : decode cL_law 615 = .ok (.iadd, 1) := by decide +kernel
theorem dL_law_616 : decode cL_law 616 = .ok (.iaload, 1) := by decide +kernel
theorem dL_law_617 : decode cL_law 617 = .ok (.aload_n 0, 1) := by decide +kernel
theorem dL_law_618 : decode cL_law 618 = .ok (.iload_n 3, 1) := by decide +kernel
theorem dL_law_619 : decode cL_law 619 = .ok (.iconst 3, 1) := by decide +kernel
theorem dL_law_620 : decode cL_law 620 = .ok (.iadd, 1) := by decide +kernel
theorem dL_law_621 : decode cL_law 621 = .ok (.iaload, 1) := by decide +kernel
theorem dL_law_622 : decode cL_law 622 = .ok (.invokevirtual 56, 3) := by decide +kernel
theorem dL_law_625 : decode cL_law 625 = .ok (.if_icmp .eq 555, 3) := by decide +kernel
theorem dL_law_628 : decode cL_law 628 = .ok (.iconst 0, 1) := by decide +kernel
theorem dL_law_629 : decode cL_law 629 = .ok (.ireturn, 1) := by decide +kernel
theorem dL_law_630 : decode cL_law 630 = .ok (.aload_n 1, 1) := by decide +kernel
theorem dL_law_631 : decode cL_law 631 = .ok (.aload_n 0, 1) := by decide +kernel
theorem dL_law_632 : decode cL_law 632 = .ok (.iload_n 3, 1) := by decide +kernel
theorem dL_law_633 : decode cL_law 633 = .ok (.iconst 1, 1) := by decide +kernel
theorem dL_law_634 : decode cL_law 634 = .ok (.iadd, 1) := by decide +kernel
theorem dL_law_635 : decode cL_law 635 = .ok (.iaload, 1) := by decide +kernel
theorem dL_law_636 : decode cL_law 636 = .ok (.aload_n 0, 1) := by decide +kernel
theorem dL_law_637 : decode cL_law 637 = .ok (.iload_n 3, 1) := by decide +kernel
theorem dL_law_638 : decode cL_law 638 = .ok (.iconst 2, 1) := by decide +kernel
theorem dL_law_639 : decode cL_law 639 = .ok (.iadd, 1) := by decide +kernel
theorem dL_law_640 : decode cL_law 640 = .ok (.iaload, 1) := by decide +kernel
theorem dL_law_641 : decode cL_law 641 = .ok (.invokevirtual 57, 3) := by decide +kernel
theorem dL_law_644 : decode cL_law 644 = .ok (.aload_n 2, 1) := by decide +kernel
theorem dL_law_645 : decode cL_law 645 = .ok (.aload_n 0, 1) := by decide +kernel
theorem dL_law_646 : decode cL_law 646 = .ok (.iload_n 3, 1) := by decide +kernel
theorem dL_law_647 : decode cL_law 647 = .ok (.iconst 1, 1) := by decide +kernel
theorem dL_law_648 : decode cL_law 648 = .ok (.iadd, 1) := by decide +kernel
theorem dL_law_649 : decode cL_law 649 = .ok (.iaload, 1) := by decide +kernel
theorem dL_law_650 : decode cL_law 650 = .ok (.aload_n 0, 1) := by decide +kernel
theorem dL_law_651 : decode cL_law 651 = .ok (.iload_n 3, 1) := by decide +kernel
theorem dL_law_652 : decode cL_law 652 = .ok (.iconst 2, 1) := by decide +kernel
theorem dL_law_653 : decode cL_law 653 = .ok (.iadd, 1) := by decide +kernel
theorem dL_law_654 : decode cL_law 654 = .ok (.iaload, 1) := by decide +kernel
theorem dL_law_655 : decode cL_law 655 = .ok (.invokevirtual 60, 3) := by decide +kernel
theorem dL_law_658 : decode cL_law 658 = .ok (.if_icmp .eq 522, 3) := by decide +kernel
theorem dL_law_661 : decode cL_law 661 = .ok (.iconst 0, 1) := by decide +kernel
theorem dL_law_662 : decode cL_law 662 = .ok (.ireturn, 1) := by decide +kernel
theorem dL_law_663 : decode cL_law 663 = .ok (.aload_n 1, 1) := by decide +kernel
theorem dL_law_664 : decode cL_law 664 = .ok (.aload_n 0, 1) := by decide +kernel
theorem dL_law_665 : decode cL_law 665 = .ok (.iload_n 3, 1) := by decide +kernel
theorem dL_law_666 : decode cL_law 666 = .ok (.iconst 1, 1) := by decide +kernel
theorem dL_law_667 : decode cL_law 667 = .ok (.iadd, 1) := by decide +kernel
theorem dL_law_668 : decode cL_law 668 = .ok (.iaload, 1) := by decide +kernel
theorem dL_law_669 : decode cL_law 669 = .ok (.invokevirtual 61, 3) := by decide +kernel
theorem dL_law_672 : decode cL_law 672 = .ok (.aload_n 2, 1) := by decide +kernel
theorem dL_law_673 : decode cL_law 673 = .ok (.aload_n 0, 1) := by decide +kernel
theorem dL_law_674 : decode cL_law 674 = .ok (.iload_n 3, 1) := by decide +kernel
theorem dL_law_675 : decode cL_law 675 = .ok (.iconst 1, 1) := by decide +kernel
theorem dL_law_676 : decode cL_law 676 = .ok (.iadd, 1) := by decide +kernel
theorem dL_law_677 : decode cL_law 677 = .ok (.iaload, 1) := by decide +kernel
theorem dL_law_678 : decode cL_law 678 = .ok (.invokevirtual 65, 3) := by decide +kernel
theorem dL_law_681 : decode cL_law 681 = .ok (.if_icmp .eq 499, 3) := by decide +kernel
theorem dL_law_684 : decode cL_law 684 = .ok (.iconst 0, 1) := by decide +kernel
theorem dL_law_685 : decode cL_law 685 = .ok (.ireturn, 1) := by decide +kernel
theorem dL_law_686 : decode cL_law 686 = .ok (.aload_n 1, 1) := by decide +kernel
theorem dL_law_687 : decode cL_law 687 = .ok (.invokevirtual 66, 3) := by decide +kernel
theorem dL_law_690 : decode cL_law 690 = .ok (.aload_n 2, 1) := by decide +kernel
theorem dL_law_691 : decode cL_law 691 = .ok (.invokevirtual 70, 3) := by decide +kernel
theorem dL_law_694 : decode cL_law 694 = .ok (.if_icmp .eq 486, 3) := by decide +kernel
theorem dL_law_697 : decode cL_law 697 = .ok (.iconst 0, 1) := by decide +kernel
theorem dL_law_698 : decode cL_law 698 = .ok (.ireturn, 1) := by decide +kernel
theorem dL_law_699 : decode cL_law 699 = .ok (.aload_n 1, 1) := by decide +kernel
theorem dL_law_700 : decode cL_law 700 = .ok (.invokevirtual 71, 3) := by decide +kernel
theorem dL_law_703 : decode cL_law 703 = .ok (.aload_n 2, 1) := by decide +kernel
theorem dL_law_704 : decode cL_law 704 = .ok (.invokevirtual 74, 3) := by decide +kernel
theorem dL_law_707 : decode cL_law 707 = .ok (.if_icmp .eq 473, 3) := by decide +kernel
theorem dL_law_710 : decode cL_law 710 = .ok (.iconst 0, 1) := by decide +kernel
theorem dL_law_711 : decode cL_law 711 = .ok (.ireturn, 1) := by decide +kernel
theorem dL_law_712 : decode cL_law 712 = .ok (.aload_n 1, 1) := by decide +kernel
theorem dL_law_713 : decode cL_law 713 = .ok (.invokevirtual 75, 3) := by decide +kernel
theorem dL_law_716 : decode cL_law 716 = .ok (.aload_n 2, 1) := by decide +kernel
theorem dL_law_717 : decode cL_law 717 = .ok (.invokevirtual 78, 3) := by decide +kernel
theorem dL_law_720 : decode cL_law 720 = .ok (.if_icmp .eq 460, 3) := by decide +kernel
theorem dL_law_723 : decode cL_law 723 = .ok (.iconst 0, 1) := by decide +kernel
theorem dL_law_724 : decode cL_law 724 = .ok (.ireturn, 1) := by decide +kernel
theorem dL_law_725 : decode cL_law 725 = .ok (.aload_n 1, 1) := by decide +kernel
theorem dL_law_726 : decode cL_law 726 = .ok (.aload_n 0, 1) := by decide +kernel
theorem dL_law_727 : decode cL_law 727 = .ok (.iload_n 3, 1) := by decide +kernel
theorem dL_law_728 : decode cL_law 728 = .ok (.iconst 1, 1) := by decide +kernel
theorem dL_law_729 : decode cL_law 729 = .ok (.iadd, 1) := by decide +kernel
theorem dL_law_730 : decode cL_law 730 = .ok (.iaload, 1) := by decide +kernel
theorem dL_law_731 : decode cL_law 731 = .ok (.aload_n 0, 1) := by decide +kernel
theorem dL_law_732 : decode cL_law 732 = .ok (.iload_n 3, 1) := by decide +kernel
theorem dL_law_733 : decode cL_law 733 = .ok (.iconst 2, 1) := by decide +kernel
theorem dL_law_734 : decode cL_law 734 = .ok (.iadd, 1) := by decide +kernel
theorem dL_law_735 : decode cL_law 735 = .ok (.iaload, 1) := by decide +kernel
theorem dL_law_736 : decode cL_law 736 = .ok (.aload_n 0, 1) := by decide +kernel
theorem dL_law_737 : decode cL_law 737 = .ok (.iload_n 3, 1) := by decide +kernel
theorem dL_law_738 : decode cL_law 738 = .ok (.iconst 3, 1) := by decide +kernel
theorem dL_law_739 : decode cL_law 739 = .ok (.iadd, 1) := by decide +kernel
theorem dL_law_740 : decode cL_law 740 = .ok (.iaload, 1) := by decide +kernel
theorem dL_law_741 : decode cL_law 741 = .ok (.aload_n 0, 1) := by decide +kernel
theorem dL_law_742 : decode cL_law 742 = .ok (.iload_n 3, 1) := by decide +kernel
theorem dL_law_743 : decode cL_law 743 = .ok (.iconst 4, 1) := by decide +kernel
theorem dL_law_744 : decode cL_law 744 = .ok (.iadd, 1) := by decide +kernel
theorem dL_law_745 : decode cL_law 745 = .ok (.iaload, 1) := by decide +kernel
theorem dL_law_746 : decode cL_law 746 = .ok (.aload_n 0, 1) := by decide +kernel
theorem dL_law_747 : decode cL_law 747 = .ok (.iload_n 3, 1) := by decide +kernel
theorem dL_law_748 : decode cL_law 748 = .ok (.iconst 5, 1) := by decide +kernel
theorem dL_law_749 : decode cL_law 749 = .ok (.iadd, 1) := by decide +kernel
theorem dL_law_750 : decode cL_law 750 = .ok (.iaload, 1) := by decide +kernel
theorem dL_law_751 : decode cL_law 751 = .ok (.invokevirtual 79, 3) := by decide +kernel
theorem dL_law_754 : decode cL_law 754 = .ok (.aload_n 2, 1) := by decide +kernel
theorem dL_law_755 : decode cL_law 755 = .ok (.aload_n 0, 1) := by decide +kernel
theorem dL_law_756 : decode cL_law 756 = .ok (.iload_n 3, 1) := by decide +kernel
theorem dL_law_757 : decode cL_law 757 = .ok (.iconst 1, 1) := by decide +kernel
theorem dL_law_758 : decode cL_law 758 = .ok (.iadd, 1) := by decide +kernel
theorem dL_law_759 : decode cL_law 759 = .ok (.iaload, 1) := by decide +kernel
theorem dL_law_760 : decode cL_law 760 = .ok (.aload_n 0, 1) := by decide +kernel
theorem dL_law_761 : decode cL_law 761 = .ok (.iload_n 3, 1) := by decide +kernel
theorem dL_law_762 : decode cL_law 762 = .ok (.iconst 2, 1) := by decide +kernel
theorem dL_law_763 : decode cL_law 763 = .ok (.iadd, 1) := by decide +kernel
theorem dL_law_764 : decode cL_law 764 = .ok (.iaload, 1) := by decide +kernel
theorem dL_law_765 : decode cL_law 765 = .ok (.aload_n 0, 1) := by decide +kernel
theorem dL_law_766 : decode cL_law 766 = .ok (.iload_n 3, 1) := by decide +kernel
theorem dL_law_767 : decode cL_law 767 = .ok (.iconst 3, 1) := by decide +kernel
theorem dL_law_768 : decode cL_law 768 = .ok (.iadd, 1) := by decide +kernel
theorem dL_law_769 : decode cL_law 769 = .ok (.iaload, 1) := by decide +kernel
theorem dL_law_770 : decode cL_law 770 = .ok (.aload_n 0, 1) := by decide +kernel
theorem dL_law_771 : decode cL_law 771 = .ok (.iload_n 3, 1) := by decide +kernel
theorem dL_law_772 : decode cL_law 772 = .ok (.iconst 4, 1) := by decide +kernel
theorem dL_law_773 : decode cL_law 773 = .ok (.iadd, 1) := by decide +kernel
theorem dL_law_774 : decode cL_law 774 = .ok (.iaload, 1) := by decide +kernel
theorem dL_law_775 : decode cL_law 775 = .ok (.aload_n 0, 1) := by decide +kernel
theorem dL_law_776 : decode cL_law 776 = .ok (.iload_n 3, 1) := by decide +kernel
theorem dL_law_777 : decode cL_law 777 = .ok (.iconst 5, 1) := by decide +kernel
theorem dL_law_778 : decode cL_law 778 = .ok (.iadd, 1) := by decide +kernel
theorem dL_law_779 : decode cL_law 779 = .ok (.iaload, 1) := by decide +kernel
theorem dL_law_780 : decode cL_law 780 = .ok (.invokevirtual 83, 3) := by decide +kernel
theorem dL_law_783 : decode cL_law 783 = .ok (.if_icmp .eq 397, 3) := by decide +kernel
theorem dL_law_786 : decode cL_law 786 = .ok (.iconst 0, 1) := by decide +kernel
theorem dL_law_787 : decode cL_law 787 = .ok (.ireturn, 1) := by decide +kernel
theorem dL_law_788 : decode cL_law 788 = .ok (.aload_n 1, 1) := by decide +kernel
theorem dL_law_789 : decode cL_law 789 = .ok (.aload_n 0, 1) := by decide +kernel
theorem dL_law_790 : decode cL_law 790 = .ok (.iload_n 3, 1) := by decide +kernel
theorem dL_law_791 : decode cL_law 791 = .ok (.iconst 1, 1) := by decide +kernel
theorem dL_law_792 : decode cL_law 792 = .ok (.iadd, 1) := by decide +kernel
theorem dL_law_793 : decode cL_law 793 = .ok (.iaload, 1) := by decide +kernel
theorem dL_law_794 : decode cL_law 794 = .ok (.invokevirtual 84, 3) := by decide +kernel
theorem dL_law_797 : decode cL_law 797 = .ok (.aload_n 2, 1) := by decide +kernel
theorem dL_law_798 : decode cL_law 798 = .ok (.aload_n 0, 1) := by decide +kernel
theorem dL_law_799 : decode cL_law 799 = .ok (.iload_n 3, 1) := by decide +kernel
theorem dL_law_800 : decode cL_law 800 = .ok (.iconst 1, 1) := by decide +kernel
theorem dL_law_801 : decode cL_law 801 = .ok (.iadd, 1) := by decide +kernel
theorem dL_law_802 : decode cL_law 802 = .ok (.iaload, 1) := by decide +kernel
theorem dL_law_803 : decode cL_law 803 = .ok (.invokevirtual 87, 3) := by decide +kernel
theorem dL_law_806 : decode cL_law 806 = .ok (.if_icmp .eq 374, 3) := by decide +kernel
theorem dL_law_809 : decode cL_law 809 = .ok (.iconst 0, 1) := by decide +kernel
theorem dL_law_810 : decode cL_law 810 = .ok (.ireturn, 1) := by decide +kernel
theorem dL_law_811 : decode cL_law 811 = .ok (.aload_n 1, 1) := by decide +kernel
theorem dL_law_812 : decode cL_law 812 = .ok (.invokevirtual 88, 3) := by decide +kernel
theorem dL_law_815 : decode cL_law 815 = .ok (.aload_n 2, 1) := by decide +kernel
theorem dL_law_816 : decode cL_law 816 = .ok (.invokevirtual 91, 3) := by decide +kernel
theorem dL_law_819 : decode cL_law 819 = .ok (.if_icmp .eq 361, 3) := by decide +kernel
theorem dL_law_822 : decode cL_law 822 = .ok (.iconst 0, 1) := by decide +kernel
theorem dL_law_823 : decode cL_law 823 = .ok (.ireturn, 1) := by decide +kernel
theorem dL_law_824 : decode cL_law 824 = .ok (.aload_n 1, 1) := by decide +kernel
theorem dL_law_825 : decode cL_law 825 = .ok (.aload_n 0, 1) := by decide +kernel
theorem dL_law_826 : decode cL_law 826 = .ok (.iload_n 3, 1) := by decide +kernel
theorem dL_law_827 : decode cL_law 827 = .ok (.iconst 1, 1) := by decide +kernel
theorem dL_law_828 : decode cL_law 828 = .ok (.iadd, 1) := by decide +kernel
theorem dL_law_829 : decode cL_law 829 = .ok (.iaload, 1) := by decide +kernel
theorem dL_law_830 : decode cL_law 830 = .ok (.aload_n 0, 1) := by decide +kernel
theorem dL_law_831 : decode cL_law 831 = .ok (.iload_n 3, 1) := by decide +kernel
theorem dL_law_832 : decode cL_law 832 = .ok (.iconst 2, 1) := by decide +kernel
theorem dL_law_833 : decode cL_law 833 = .ok (.iadd, 1) := by decide +kernel
theorem dL_law_834 : decode cL_law 834 = .ok (.iaload, 1) := by decide +kernel
theorem dL_law_835 : decode cL_law 835 = .ok (.invokevirtual 92, 3) := by decide +kernel
theorem dL_law_838 : decode cL_law 838 = .ok (.aload_n 2, 1) := by decide +kernel
theorem dL_law_839 : decode cL_law 839 = .ok (.aload_n 0, 1) := by decide +kernel
theorem dL_law_840 : decode cL_law 840 = .ok (.iload_n 3, 1) := by decide +kernel
theorem dL_law_841 : decode cL_law 841 = .ok (.iconst 1, 1) := by decide +kernel
theorem dL_law_842 : decode cL_law 842 = .ok (.iadd, 1) := by decide +kernel
theorem dL_law_843 : decode cL_law 843 = .ok (.iaload, 1) := by decide +kernel
theorem dL_law_844 : decode cL_law 844 = .ok (.aload_n 0, 1) := by decide +kernel
theorem dL_law_845 : decode cL_law 845 = .ok (.iload_n 3, 1) := by decide +kernel
theorem dL_law_846 : decode cL_law 846 = .ok (.iconst 2, 1) := by decide +kernel
theorem dL_law_847 : decode cL_law 847 = .ok (.iadd, 1) := by decide +kernel
theorem dL_law_848 : decode cL_law 848 = .ok (.iaload, 1) := by decide +kernel
theorem dL_law_849 : decode cL_law 849 = .ok (.invokevirtual 95, 3) := by decide +kernel
theorem dL_law_852 : decode cL_law 852 = .ok (.if_icmp .eq 328, 3) := by decide +kernel
theorem dL_law_855 : decode cL_law 855 = .ok (.iconst 0, 1) := by decide +kernel
theorem dL_law_856 : decode cL_law 856 = .ok (.ireturn, 1) := by decide +kernel
theorem dL_law_857 : decode cL_law 857 = .ok (.aload_n 1, 1) := by decide +kernel
theorem dL_law_858 : decode cL_law 858 = .ok (.aload_n 0, 1) := by decide +kernel
theorem dL_law_859 : decode cL_law 859 = .ok (.iload_n 3, 1) := by decide +kernel
theorem dL_law_860 : decode cL_law 860 = .ok (.iconst 1, 1) := by decide +kernel
theorem dL_law_861 : decode cL_law 861 = .ok (.iadd, 1) := by decide +kernel
theorem dL_law_862 : decode cL_law 862 = .ok (.iaload, 1) := by decide +kernel
theorem dL_law_863 : decode cL_law 863 = .ok (.aload_n 0, 1) := by decide +kernel
theorem dL_law_864 : decode cL_law 864 = .ok (.iload_n 3, 1) := by decide +kernel
theorem dL_law_865 : decode cL_law 865 = .ok (.iconst 2, 1) := by decide +kernel
theorem dL_law_866 : decode cL_law 866 = .ok (.iadd, 1) := by decide +kernel
theorem dL_law_867 : decode cL_law 867 = .ok (.iaload, 1) := by decide +kernel
theorem dL_law_868 : decode cL_law 868 = .ok (.invokevirtual 96, 3) := by decide +kernel
theorem dL_law_871 : decode cL_law 871 = .ok (.aload_n 2, 1) := by decide +kernel
theorem dL_law_872 : decode cL_law 872 = .ok (.aload_n 0, 1) := by decide +kernel
theorem dL_law_873 : decode cL_law 873 = .ok (.iload_n 3, 1) := by decide +kernel
theorem dL_law_874 : decode cL_law 874 = .ok (.iconst 1, 1) := by decide +kernel
theorem dL_law_875 : decode cL_law 875 = .ok (.iadd, 1) := by decide +kernel
theorem dL_law_876 : decode cL_law 876 = .ok (.iaload, 1) := by decide +kernel
theorem dL_law_877 : decode cL_law 877 = .ok (.aload_n 0, 1) := by decide +kernel
theorem dL_law_878 : decode cL_law 878 = .ok (.iload_n 3, 1) := by decide +kernel
theorem dL_law_879 : decode cL_law 879 = .ok (.iconst 2, 1) := by decide +kernel
theorem dL_law_880 : decode cL_law 880 = .ok (.iadd, 1) := by decide +kernel
theorem dL_law_881 : decode cL_law 881 = .ok (.iaload, 1) := by decide +kernel
theorem dL_law_882 : decode cL_law 882 = .ok (.invokevirtual 99, 3) := by decide +kernel
theorem dL_law_885 : decode cL_law 885 = .ok (.if_icmp .eq 295, 3) := by decide +kernel
theorem dL_law_888 : decode cL_law 888 = .ok (.iconst 0, 1) := by decide +kernel
theorem dL_law_889 : decode cL_law 889 = .ok (.ireturn, 1) := by decide +kernel
theorem dL_law_890 : decode cL_law 890 = .ok (.aload_n 1, 1) := by decide +kernel
theorem dL_law_891 : decode cL_law 891 = .ok (.aload_n 0, 1) := by decide +kernel
theorem dL_law_892 : decode cL_law 892 = .ok (.iload_n 3, 1) := by decide +kernel
theorem dL_law_893 : decode cL_law 893 = .ok (.iconst 1, 1) := by decide +kernel
theorem dL_law_894 : decode cL_law 894 = .ok (.iadd, 1) := by decide +kernel
theorem dL_law_895 : decode cL_law 895 = .ok (.iaload, 1) := by decide +kernel
theorem dL_law_896 : decode cL_law 896 = .ok (.aload_n 0, 1) := by decide +kernel
theorem dL_law_897 : decode cL_law 897 = .ok (.iload_n 3, 1) := by decide +kernel
theorem dL_law_898 : decode cL_law 898 = .ok (.iconst 2, 1) := by decide +kernel
theorem dL_law_899 : decode cL_law 899 = .ok (.iadd, 1) := by decide +kernel
theorem dL_law_900 : decode cL_law 900 = .ok (.iaload, 1) := by decide +kernel
theorem dL_law_901 : decode cL_law 901 = .ok (.invokevirtual 100, 3) := by decide +kernel
theorem dL_law_904 : decode cL_law 904 = .ok (.aload_n 2, 1) := by decide +kernel
theorem dL_law_905 : decode cL_law 905 = .ok (.aload_n 0, 1) := by decide +kernel
theorem dL_law_906 : decode cL_law 906 = .ok (.iload_n 3, 1) := by decide +kernel
theorem dL_law_907 : decode cL_law 907 = .ok (.iconst 1, 1) := by decide +kernel
theorem dL_law_908 : decode cL_law 908 = .ok (.iadd, 1) := by decide +kernel
theorem dL_law_909 : decode cL_law 909 = .ok (.iaload, 1) := by decide +kernel
theorem dL_law_910 : decode cL_law 910 = .ok (.aload_n 0, 1) := by decide +kernel
theorem dL_law_911 : decode cL_law 911 = .ok (.iload_n 3, 1) := by decide +kernel
theorem dL_law_912 : decode cL_law 912 = .ok (.iconst 2, 1) := by decide +kernel
theorem dL_law_913 : decode cL_law 913 = .ok (.iadd, 1) := by decide +kernel
theorem dL_law_914 : decode cL_law 914 = .ok (.iaload, 1) := by decide +kernel
theorem dL_law_915 : decode cL_law 915 = .ok (.invokevirtual 103, 3) := by decide +kernel
theorem dL_law_918 : decode cL_law 918 = .ok (.if_icmp .eq 262, 3) := by decide +kernel
theorem dL_law_921 : decode cL_law 921 = .ok (.iconst 0, 1) := by decide +kernel
theorem dL_law_922 : decode cL_law 922 = .ok (.ireturn, 1) := by decide +kernel
theorem dL_law_923 : decode cL_law 923 = .ok (.aload_n 1, 1) := by decide +kernel
theorem dL_law_924 : decode cL_law 924 = .ok (.invokevirtual 104, 3) := by decide +kernel
theorem dL_law_927 : decode cL_law 927 = .ok (.aload_n 2, 1) := by decide +kernel
theorem dL_law_928 : decode cL_law 928 = .ok (.invokevirtual 107, 3) := by decide +kernel
theorem dL_law_931 : decode cL_law 931 = .ok (.if_icmp .eq 249, 3) := by decide +kernel
theorem dL_law_934 : decode cL_law 934 = .ok (.iconst 0, 1) := by decide +kernel
theorem dL_law_935 : decode cL_law 935 = .ok (.ireturn, 1) := by decide +kernel
theorem dL_law_936 : decode cL_law 936 = .ok (.aload_n 1, 1) := by decide +kernel
theorem dL_law_937 : decode cL_law 937 = .ok (.aload_n 0, 1) := by decide +kernel
theorem dL_law_938 : decode cL_law 938 = .ok (.iload_n 3, 1) := by decide +kernel
theorem dL_law_939 : decode cL_law 939 = .ok (.iconst 1, 1) := by decide +kernel
theorem dL_law_940 : decode cL_law 940 = .ok (.iadd, 1) := by decide +kernel
theorem dL_law_941 : decode cL_law 941 = .ok (.iaload, 1) := by decide +kernel
theorem dL_law_942 : decode cL_law 942 = .ok (.aload_n 0, 1) := by decide +kernel
theorem dL_law_943 : decode cL_law 943 = .ok (.iload_n 3, 1) := by decide +kernel
theorem dL_law_944 : decode cL_law 944 = .ok (.iconst 2, 1) := by decide +kernel
theorem dL_law_945 : decode cL_law 945 = .ok (.iadd, 1) := by decide +kernel
theorem dL_law_946 : decode cL_law 946 = .ok (.iaload, 1) := by decide +kernel
theorem dL_law_947 : decode cL_law 947 = .ok (.invokevirtual 108, 3) := by decide +kernel
theorem dL_law_950 : decode cL_law 950 = .ok (.aload_n 2, 1) := by decide +kernel
theorem dL_law_951 : decode cL_law 951 = .ok (.aload_n 0, 1) := by decide +kernel
theorem dL_law_952 : decode cL_law 952 = .ok (.iload_n 3, 1) := by decide +kernel
theorem dL_law_953 : decode cL_law 953 = .ok (.iconst 1, 1) := by decide +kernel
theorem dL_law_954 : decode cL_law 954 = .ok (.iadd, 1) := by decide +kernel
theorem dL_law_955 : decode cL_law 955 = .ok (.iaload, 1) := by decide +kernel
theorem dL_law_956 : decode cL_law 956 = .ok (.aload_n 0, 1) := by decide +kernel
theorem dL_law_957 : decode cL_law 957 = .ok (.iload_n 3, 1) := by decide +kernel
theorem dL_law_958 : decode cL_law 958 = .ok (.iconst 2, 1) := by decide +kernel
theorem dL_law_959 : decode cL_law 959 = .ok (.iadd, 1) := by decide +kernel
theorem dL_law_960 : decode cL_law 960 = .ok (.iaload, 1) := by decide +kernel
theorem dL_law_961 : decode cL_law 961 = .ok (.invokevirtual 111, 3) := by decide +kernel
theorem dL_law_964 : decode cL_law 964 = .ok (.if_icmp .eq 216, 3) := by decide +kernel
theorem dL_law_967 : decode cL_law 967 = .ok (.iconst 0, 1) := by decide +kernel
theorem dL_law_968 : decode cL_law 968 = .ok (.ireturn, 1) := by decide +kernel
theorem dL_law_969 : decode cL_law 969 = .ok (.aload_n 1, 1) := by decide +kernel
theorem dL_law_970 : decode cL_law 970 = .ok (.aload_n 0, 1) := by decide +kernel
theorem dL_law_971 : decode cL_law 971 = .ok (.iload_n 3, 1) := by decide +kernel
theorem dL_law_972 : decode cL_law 972 = .ok (.iconst 1, 1) := by decide +kernel
theorem dL_law_973 : decode cL_law 973 = .ok (.iadd, 1) := by decide +kernel
theorem dL_law_974 : decode cL_law 974 = .ok (.iaload, 1) := by decide +kernel
theorem dL_law_975 : decode cL_law 975 = .ok (.aload_n 0, 1) := by decide +kernel
theorem dL_law_976 : decode cL_law 976 = .ok (.iload_n 3, 1) := by decide +kernel
theorem dL_law_977 : decode cL_law 977 = .ok (.iconst 2, 1) := by decide +kernel
theorem dL_law_978 : decode cL_law 978 = .ok (.iadd, 1) := by decide +kernel
theorem dL_law_979 : decode cL_law 979 = .ok (.iaload, 1) := by decide +kernel
theorem dL_law_980 : decode cL_law 980 = .ok (.invokevirtual 112, 3) := by decide +kernel
theorem dL_law_983 : decode cL_law 983 = .ok (.aload_n 2, 1) := by decide +kernel
theorem dL_law_984 : decode cL_law 984 = .ok (.aload_n 0, 1) := by decide +kernel
theorem dL_law_985 : decode cL_law 985 = .ok (.iload_n 3, 1) := by decide +kernel
theorem dL_law_986 : decode cL_law 986 = .ok (.iconst 1, 1) := by decide +kernel
theorem dL_law_987 : decode cL_law 987 = .ok (.iadd, 1) := by decide +kernel
theorem dL_law_988 : decode cL_law 988 = .ok (.iaload, 1) := by decide +kernel
theorem dL_law_989 : decode cL_law 989 = .ok (.aload_n 0, 1) := by decide +kernel
theorem dL_law_990 : decode cL_law 990 = .ok (.iload_n 3, 1) := by decide +kernel
theorem dL_law_991 : decode cL_law 991 = .ok (.iconst 2, 1) := by decide +kernel
theorem dL_law_992 : decode cL_law 992 = .ok (.iadd, 1) := by decide +kernel
theorem dL_law_993 : decode cL_law 993 = .ok (.iaload, 1) := by decide +kernel
theorem dL_law_994 : decode cL_law 994 = .ok (.invokevirtual 115, 3) := by decide +kernel
theorem dL_law_997 : decode cL_law 997 = .ok (.if_icmp .eq 183, 3) := by decide +kernel
theorem dL_law_1000 : decode cL_law 1000 = .ok (.iconst 0, 1) := by decide +kernel
theorem dL_law_1001 : decode cL_law 1001 = .ok (.ireturn, 1) := by decide +kernel
theorem dL_law_1002 : decode cL_law 1002 = .ok (.aload_n 1, 1) := by decide +kernel
theorem dL_law_1003 : decode cL_law 1003 = .ok (.aload_n 0, 1) := by decide +kernel
theorem dL_law_1004 : decode cL_law 1004 = .ok (.iload_n 3, 1) := by decide +kernel
theorem dL_law_1005 : decode cL_law 1005 = .ok (.iconst 1, 1) := by decide +kernel
theorem dL_law_1006 : decode cL_law 1006 = .ok (.iadd, 1) := by decide +kernel
theorem dL_law_1007 : decode cL_law 1007 = .ok (.iaload, 1) := by decide +kernel
theorem dL_law_1008 : decode cL_law 1008 = .ok (.aload_n 0, 1) := by decide +kernel
theorem dL_law_1009 : decode cL_law 1009 = .ok (.iload_n 3, 1) := by decide +kernel
theorem dL_law_1010 : decode cL_law 1010 = .ok (.iconst 2, 1) := by decide +kernel
theorem dL_law_1011 : decode cL_law 1011 = .ok (.iadd, 1) := by decide +kernel
theorem dL_law_1012 : decode cL_law 1012 = .ok (.iaload, 1) := by decide +kernel
theorem dL_law_1013 : decode cL_law 1013 = .ok (.aload_n 0, 1) := by decide +kernel
theorem dL_law_1014 : decode cL_law 1014 = .ok (.iload_n 3, 1) := by decide +kernel
theorem dL_law_1015 : decode cL_law 1015 = .ok (.iconst 3, 1) := by decide +kernel
theorem dL_law_1016 : decode cL_law 1016 = .ok (.iadd, 1) := by decide +kernel
theorem dL_law_1017 : decode cL_law 1017 = .ok (.iaload, 1) := by decide +kernel
theorem dL_law_1018 : decode cL_law 1018 = .ok (.invokevirtual 116, 3) := by decide +kernel
theorem dL_law_1021 : decode cL_law 1021 = .ok (.aload_n 2, 1) := by decide +kernel
theorem dL_law_1022 : decode cL_law 1022 = .ok (.aload_n 0, 1) := by decide +kernel
theorem dL_law_1023 : decode cL_law 1023 = .ok (.iload_n 3, 1) := by decide +kernel
theorem dL_law_1024 : decode cL_law 1024 = .ok (.iconst 1, 1) := by decide +kernel
theorem dL_law_1025 : decode cL_law 1025 = .ok (.iadd, 1) := by decide +kernel
theorem dL_law_1026 : decode cL_law 1026 = .ok (.iaload, 1) := by decide +kernel
theorem dL_law_1027 : decode cL_law 1027 = .ok (.aload_n 0, 1) := by decide +kernel
theorem dL_law_1028 : decode cL_law 1028 = .ok (.iload_n 3, 1) := by decide +kernel
theorem dL_law_1029 : decode cL_law 1029 = .ok (.iconst 2, 1) := by decide +kernel
theorem dL_law_1030 : decode cL_law 1030 = .ok (.iadd, 1) := by decide +kernel
theorem dL_law_1031 : decode cL_law 1031 = .ok (.iaload, 1) := by decide +kernel
theorem dL_law_1032 : decode cL_law 1032 = .ok (.aload_n 0, 1) := by decide +kernel
theorem dL_law_1033 : decode cL_law 1033 = .ok (.iload_n 3, 1) := by decide +kernel
theorem dL_law_1034 : decode cL_law 1034 = .ok (.iconst 3, 1) := by decide +kernel
theorem dL_law_1035 : decode cL_law 1035 = .ok (.iadd, 1) := by decide +kernel
theorem dL_law_1036 : decode cL_law 1036 = .ok (.iaload, 1) := by decide +kernel
theorem dL_law_1037 : decode cL_law 1037 = .ok (.invokevirtual 119, 3) := by decide +kernel
theorem dL_law_1040 : decode cL_law 1040 = .ok (.if_icmp .eq 140, 3) := by decide +kernel
theorem dL_law_1043 : decode cL_law 1043 = .ok (.iconst 0, 1) := by decide +kernel
theorem dL_law_1044 : decode cL_law 1044 = .ok (.ireturn, 1) := by decide +kernel
theorem dL_law_1045 : decode cL_law 1045 = .ok (.aload_n 1, 1) := by decide +kernel
theorem dL_law_1046 : decode cL_law 1046 = .ok (.aload_n 0, 1) := by decide +kernel
theorem dL_law_1047 : decode cL_law 1047 = .ok (.iload_n 3, 1) := by decide +kernel
theorem dL_law_1048 : decode cL_law 1048 = .ok (.iconst 1, 1) := by decide +kernel
theorem dL_law_1049 : decode cL_law 1049 = .ok (.iadd, 1) := by decide +kernel
theorem dL_law_1050 : decode cL_law 1050 = .ok (.iaload, 1) := by decide +kernel
theorem dL_law_1051 : decode cL_law 1051 = .ok (.invokevirtual 120, 3) := by decide +kernel
theorem dL_law_1054 : decode cL_law 1054 = .ok (.aload_n 2, 1) := by decide +kernel
theorem dL_law_1055 : decode cL_law 1055 = .ok (.aload_n 0, 1) := by decide +kernel
theorem dL_law_1056 : decode cL_law 1056 = .ok (.iload_n 3, 1) := by decide +kernel
theorem dL_law_1057 : decode cL_law 1057 = .ok (.iconst 1, 1) := by decide +kernel
theorem dL_law_1058 : decode cL_law 1058 = .ok (.iadd, 1) := by decide +kernel
theorem dL_law_1059 : decode cL_law 1059 = .ok (.iaload, 1) := by decide +kernel
theorem dL_law_1060 : decode cL_law 1060 = .ok (.invokevirtual 123, 3) := by decide +kernel
theorem dL_law_1063 : decode cL_law 1063 = .ok (.if_icmp .eq 117, 3) := by decide +kernel
theorem dL_law_1066 : decode cL_law 1066 = .ok (.iconst 0, 1) := by decide +kernel
theorem dL_law_1067 : decode cL_law 1067 = .ok (.ireturn, 1) := by decide +kernel
theorem dL_law_1068 : decode cL_law 1068 = .ok (.aload_n 1, 1) := by decide +kernel
theorem dL_law_1069 : decode cL_law 1069 = .ok (.aload_n 0, 1) := by decide +kernel
theorem dL_law_1070 : decode cL_law 1070 = .ok (.iload_n 3, 1) := by decide +kernel
theorem dL_law_1071 : decode cL_law 1071 = .ok (.iconst 1, 1) := by decide +kernel
theorem dL_law_1072 : decode cL_law 1072 = .ok (.iadd, 1) := by decide +kernel
theorem dL_law_1073 : decode cL_law 1073 = .ok (.iaload, 1) := by decide +kernel
theorem dL_law_1074 : decode cL_law 1074 = .ok (.aload_n 0, 1) := by decide +kernel
theorem dL_law_1075 : decode cL_law 1075 = .ok (.iload_n 3, 1) := by decide +kernel
theorem dL_law_1076 : decode cL_law 1076 = .ok (.iconst 2, 1) := by decide +kernel
theorem dL_law_1077 : decode cL_law 1077 = .ok (.iadd, 1) := by decide +kernel
theorem dL_law_1078 : decode cL_law 1078 = .ok (.iaload, 1) := by decide +kernel
theorem dL_law_1079 : decode cL_law 1079 = .ok (.aload_n 0, 1) := by decide +kernel
theorem dL_law_1080 : decode cL_law 1080 = .ok (.iload_n 3, 1) := by decide +kernel
theorem dL_law_1081 : decode cL_law 1081 = .ok (.iconst 3, 1) := by decide +kernel
theorem dL_law_1082 : decode cL_law 1082 = .ok (.iadd, 1) := by decide +kernel
theorem dL_law_1083 : decode cL_law 1083 = .ok (.iaload, 1) := by decide +kernel
theorem dL_law_1084 : decode cL_law 1084 = .ok (.invokevirtual 124, 3) := by decide +kernel
theorem dL_law_1087 : decode cL_law 1087 = .ok (.aload_n 2, 1) := by decide +kernel
theorem dL_law_1088 : decode cL_law 1088 = .ok (.aload_n 0, 1) := by decide +kernel
theorem dL_law_1089 : decode cL_law 1089 = .ok (.iload_n 3, 1) := by decide +kernel
theorem dL_law_1090 : decode cL_law 1090 = .ok (.iconst 1, 1) := by decide +kernel
theorem dL_law_1091 : decode cL_law 1091 = .ok (.iadd, 1) := by decide +kernel
theorem dL_law_1092 : decode cL_law 1092 = .ok (.iaload, 1) := by decide +kernel
theorem dL_law_1093 : decode cL_law 1093 = .ok (.aload_n 0, 1) := by decide +kernel
theorem dL_law_1094 : decode cL_law 1094 = .ok (.iload_n 3, 1) := by decide +kernel
theorem dL_law_1095 : decode cL_law 1095 = .ok (.iconst 2, 1) := by decide +kernel
theorem dL_law_1096 : decode cL_law 1096 = .ok (.iadd, 1) := by decide +kernel
theorem dL_law_1097 : decode cL_law 1097 = .ok (.iaload, 1) := by decide +kernel
theorem dL_law_1098 : decode cL_law 1098 = .ok (.aload_n 0, 1) := by decide +kernel
theorem dL_law_1099 : decode cL_law 1099 = .ok (.iload_n 3, 1) := by decide +kernel
theorem dL_law_1100 : decode cL_law 1100 = .ok (.iconst 3, 1) := by decide +kernel
theorem dL_law_1101 : decode cL_law 1101 = .ok (.iadd, 1) := by decide +kernel
theorem dL_law_1102 : decode cL_law 1102 = .ok (.iaload, 1) := by decide +kernel
theorem dL_law_1103 : decode cL_law 1103 = .ok (.invokevirtual 127, 3) := by decide +kernel
theorem dL_law_1106 : decode cL_law 1106 = .ok (.if_icmp .eq 74, 3) := by decide +kernel
theorem dL_law_1109 : decode cL_law 1109 = .ok (.iconst 0, 1) := by decide +kernel
theorem dL_law_1110 : decode cL_law 1110 = .ok (.ireturn, 1) := by decide +kernel
theorem dL_law_1111 : decode cL_law 1111 = .ok (.aload_n 1, 1) := by decide +kernel
theorem dL_law_1112 : decode cL_law 1112 = .ok (.aload_n 0, 1) := by decide +kernel
theorem dL_law_1113 : decode cL_law 1113 = .ok (.iload_n 3, 1) := by decide +kernel
theorem dL_law_1114 : decode cL_law 1114 = .ok (.iconst 1, 1) := by decide +kernel
theorem dL_law_1115 : decode cL_law 1115 = .ok (.iadd, 1) := by decide +kernel
theorem dL_law_1116 : decode cL_law 1116 = .ok (.iaload, 1) := by decide +kernel
theorem dL_law_1117 : decode cL_law 1117 = .ok (.invokevirtual 128, 3) := by decide +kernel
theorem dL_law_1120 : decode cL_law 1120 = .ok (.aload_n 2, 1) := by decide +kernel
theorem dL_law_1121 : decode cL_law 1121 = .ok (.aload_n 0, 1) := by decide +kernel
theorem dL_law_1122 : decode cL_law 1122 = .ok (.iload_n 3, 1) := by decide +kernel
theorem dL_law_1123 : decode cL_law 1123 = .ok (.iconst 1, 1) := by decide +kernel
theorem dL_law_1124 : decode cL_law 1124 = .ok (.iadd, 1) := by decide +kernel
theorem dL_law_1125 : decode cL_law 1125 = .ok (.iaload, 1) := by decide +kernel
theorem dL_law_1126 : decode cL_law 1126 = .ok (.invokevirtual 131, 3) := by decide +kernel
theorem dL_law_1129 : decode cL_law 1129 = .ok (.if_icmp .eq 51, 3) := by decide +kernel
theorem dL_law_1132 : decode cL_law 1132 = .ok (.iconst 0, 1) := by decide +kernel
theorem dL_law_1133 : decode cL_law 1133 = .ok (.ireturn, 1) := by decide +kernel
theorem dL_law_1134 : decode cL_law 1134 = .ok (.aload_n 1, 1) := by decide +kernel
theorem dL_law_1135 : decode cL_law 1135 = .ok (.aload_n 0, 1) := by decide +kernel
theorem dL_law_1136 : decode cL_law 1136 = .ok (.iload_n 3, 1) := by decide +kernel
theorem dL_law_1137 : decode cL_law 1137 = .ok (.iconst 1, 1) := by decide +kernel
theorem dL_law_1138 : decode cL_law 1138 = .ok (.iadd, 1) := by decide +kernel
theorem dL_law_1139 : decode cL_law 1139 = .ok (.iaload, 1) := by decide +kernel
theorem dL_law_1140 : decode cL_law 1140 = .ok (.invokevirtual 132, 3) := by decide +kernel
theorem dL_law_1143 : decode cL_law 1143 = .ok (.aload_n 2, 1) := by decide +kernel
theorem dL_law_1144 : decode cL_law 1144 = .ok (.aload_n 0, 1) := by decide +kernel
theorem dL_law_1145 : decode cL_law 1145 = .ok (.iload_n 3, 1) := by decide +kernel
theorem dL_law_1146 : decode cL_law 1146 = .ok (.iconst 1, 1) := by decide +kernel
theorem dL_law_1147 : decode cL_law 1147 = .ok (.iadd, 1) := by decide +kernel
theorem dL_law_1148 : decode cL_law 1148 = .ok (.iaload, 1) := by decide +kernel
theorem dL_law_1149 : decode cL_law 1149 = .ok (.invokevirtual 135, 3) := by decide +kernel
theorem dL_law_1152 : decode cL_law 1152 = .ok (.if_icmp .eq 28, 3) := by decide +kernel
theorem dL_law_1155 : decode cL_law 1155 = .ok (.iconst 0, 1) := by decide +kernel
theorem dL_law_1156 : decode cL_law 1156 = .ok (.ireturn, 1) := by decide +kernel
theorem dL_law_1157 : decode cL_law 1157 = .ok (.aload_n 1, 1) := by decide +kernel
theorem dL_law_1158 : decode cL_law 1158 = .ok (.aload_n 0, 1) := by decide +kernel
theorem dL_law_1159 : decode cL_law 1159 = .ok (.iload_n 3, 1) := by decide +kernel
theorem dL_law_1160 : decode cL_law 1160 = .ok (.iconst 1, 1) := by decide +kernel
theorem dL_law_1161 : decode cL_law 1161 = .ok (.iadd, 1) := by decide +kernel
theorem dL_law_1162 : decode cL_law 1162 = .ok (.iaload, 1) := by decide +kernel
theorem dL_law_1163 : decode cL_law 1163 = .ok (.invokevirtual 136, 3) := by decide +kernel
theorem dL_law_1166 : decode cL_law 1166 = .ok (.aload_n 2, 1) := by decide +kernel
theorem dL_law_1167 : decode cL_law 1167 = .ok (.aload_n 0, 1) := by decide +kernel
theorem dL_law_1168 : decode cL_law 1168 = .ok (.iload_n 3, 1) := by decide +kernel
theorem dL_law_1169 : decode cL_law 1169 = .ok (.iconst 1, 1) := by decide +kernel
theorem dL_law_1170 : decode cL_law 1170 = .ok (.iadd, 1) := by decide +kernel
theorem dL_law_1171 : decode cL_law 1171 = .ok (.iaload, 1) := by decide +kernel
theorem dL_law_1172 : decode cL_law 1172 = .ok (.invokevirtual 139, 3) := by decide +kernel
theorem dL_law_1175 : decode cL_law 1175 = .ok (.if_icmp .eq 5, 3) := by decide +kernel
theorem dL_law_1178 : decode cL_law 1178 = .ok (.iconst 0, 1) := by decide +kernel
theorem dL_law_1179 : decode cL_law 1179 = .ok (.ireturn, 1) := by decide +kernel
theorem dL_law_1180 : decode cL_law 1180 = .ok (.iinc 3 6, 3) := by decide +kernel
theorem dL_law_1183 : decode cL_law 1183 = .ok (.goto (-1165), 3) := by decide +kernel
theorem dL_law_1186 : decode cL_law 1186 = .ok (.iconst 1, 1) := by decide +kernel
theorem dL_law_1187 : decode cL_law 1187 = .ok (.ireturn, 1) := by decide +kernel
