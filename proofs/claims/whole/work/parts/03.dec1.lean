theorem dX8_parsePart_57 : decode cX8_parsePart 57 = .ok (.aload_n 0, 1) := by decide +kernel
theorem dX8_parsePart_58 : decode cX8_parsePart 58 = .ok (.invokevirtual 82, 3) := by decide +kernel
theorem dX8_parsePart_61 : decode cX8_parsePart 61 = .ok (.return_, 1) := by decide +kernel
theorem dX8_parsePart_62 : decode cX8_parsePart 62 = .ok (.aload_n 0, 1) := by decide +kernel
theorem dX8_parsePart_63 : decode cX8_parsePart 63 = .ok (.dup, 1) := by decide +kernel
theorem dX8_parsePart_64 : decode cX8_parsePart 64 = .ok (.getfield 19, 3) := by decide +kernel
theorem dX8_parsePart_67 : decode cX8_parsePart 67 = .ok (.iconst 1, 1) := by decide +kernel
theorem dX8_parsePart_68 : decode cX8_parsePart 68 = .ok (.iadd, 1) := by decide +kernel
theorem dX8_parsePart_69 : decode cX8_parsePart 69 = .ok (.putfield 19, 3) := by decide +kernel
theorem dX8_parsePart_72 : decode cX8_parsePart 72 = .ok (.iload 5, 2) := by decide +kernel
theorem dX8_parsePart_74 : decode cX8_parsePart 74 = .ok (.ifCond .eq 19, 3) := by decide +kernel
theorem dX8_parsePart_77 : decode cX8_parsePart 77 = .ok (.aload_n 0, 1) := by decide +kernel
theorem dX8_parsePart_78 : decode cX8_parsePart 78 = .ok (.aload_n 1, 1) := by decide +kernel
theorem dX8_parsePart_79 : decode cX8_parsePart 79 = .ok (.iload 4, 2) := by decide +kernel
theorem dX8_parsePart_81 : decode cX8_parsePart 81 = .ok (.iload_n 2, 1) := by decide +kernel
theorem dX8_parsePart_82 : decode cX8_parsePart 82 = .ok (.iconst 1, 1) := by decide +kernel
theorem dX8_parsePart_83 : decode cX8_parsePart 83 = .ok (.iadd, 1) := by decide +kernel
theorem dX8_parsePart_84 : decode cX8_parsePart 84 = .ok (.iload_n 3, 1) := by decide +kernel
theorem dX8_parsePart_85 : decode cX8_parsePart 85 = .ok (.iconst 1, 1) := by decide +kernel
theorem dX8_parsePart_86 : decode cX8_parsePart 86 = .ok (.iadd, 1) := by decide +kernel
theorem dX8_parsePart_87 : decode cX8_parsePart 87 = .ok (.invokevirtual 85, 3) := by decide +kernel
theorem dX8_parsePart_90 : decode cX8_parsePart 90 = .ok (.goto 53, 3) := by decide +kernel
theorem dX8_parsePart_93 : decode cX8_parsePart 93 = .ok (.iload 4, 2) := by decide +kernel
theorem dX8_parsePart_95 : decode cX8_parsePart 95 = .ok (.bipush 45, 2) := by decide +kernel
theorem dX8_parsePart_97 : decode cX8_parsePart 97 = .ok (.if_icmp .ne 31, 3) := by decide +kernel
theorem dX8_parsePart_100 : decode cX8_parsePart 100 = .ok (.aload_n 1, 1) := by decide +kernel
theorem dX8_parsePart_101 : decode cX8_parsePart 101 = .ok (.bipush 45, 2) := by decide +kernel
theorem dX8_parsePart_103 : decode cX8_parsePart 103 = .ok (.iconst 0, 1) := by decide +kernel
theorem dX8_parsePart_104 : decode cX8_parsePart 104 = .ok (.iconst 0, 1) := by decide +kernel
theorem dX8_parsePart_105 : decode cX8_parsePart 105 = .ok (.invokevirtual 89, 3) := by decide +kernel
theorem dX8_parsePart_108 : decode cX8_parsePart 108 = .ok (.istore 6, 2) := by decide +kernel
theorem dX8_parsePart_110 : decode cX8_parsePart 110 = .ok (.aload_n 0, 1) := by decide +kernel
theorem dX8_parsePart_111 : decode cX8_parsePart 111 = .ok (.aload_n 1, 1) := by decide +kernel
theorem dX8_parsePart_112 : decode cX8_parsePart 112 = .ok (.iload_n 2, 1) := by decide +kernel
theorem dX8_parsePart_113 : decode cX8_parsePart 113 = .ok (.iconst 1, 1) := by decide +kernel
theorem dX8_parsePart_114 : decode cX8_parsePart 114 = .ok (.iadd, 1) := by decide +kernel
theorem dX8_parsePart_115 : decode cX8_parsePart 115 = .ok (.iload_n 3, 1) := by decide +kernel
theorem dX8_parsePart_116 : decode cX8_parsePart 116 = .ok (.invokevirtual 58, 3) := by decide +kernel
theorem dX8_parsePart_119 : decode cX8_parsePart 119 = .ok (.aload_n 1, 1) := by decide +kernel
theorem dX8_parsePart_120 : decode cX8_parsePart 120 = .ok (.iload 6, 2) := by decide +kernel
theorem dX8_parsePart_122 : decode cX8_parsePart 122 = .ok (.invokevirtual 72, 3) := by decide +kernel
theorem dX8_parsePart_125 : decode cX8_parsePart 125 = .ok (.goto 18, 3) := by decide +kernel
theorem dX8_parsePart_128 : decode cX8_parsePart 128 = .ok (.aload_n 0, 1) := by decide +kernel
theorem dX8_parsePart_129 : decode cX8_parsePart 129 = .ok (.aload_n 1, 1) := by decide +kernel
theorem dX8_parsePart_130 : decode cX8_parsePart 130 = .ok (.iload_n 2, 1) := by decide +kernel
theorem dX8_parsePart_131 : decode cX8_parsePart 131 = .ok (.iconst 1, 1) := by decide +kernel
theorem dX8_parsePart_132 : decode cX8_parsePart 132 = .ok (.iadd, 1) := by decide +kernel
theorem dX8_parsePart_133 : decode cX8_parsePart 133 = .ok (.iload_n 3, 1) := by decide +kernel
theorem dX8_parsePart_134 : decode cX8_parsePart 134 = .ok (.invokevirtual 44, 3) := by decide +kernel
theorem dX8_parsePart_137 : decode cX8_parsePart 137 = .ok (.aload_n 0, 1) := by decide +kernel
theorem dX8_parsePart_138 : decode cX8_parsePart 138 = .ok (.bipush 41, 2) := by decide +kernel
theorem dX8_parsePart_140 : decode cX8_parsePart 140 = .ok (.invokevirtual 48, 3) := by decide +kernel
theorem dX8_parsePart_143 : decode cX8_parsePart 143 = .ok (.return_, 1) := by decide +kernel
theorem dX8_parseQuantified_0 : decode cX8_parseQuantified 0 = .ok (.aload_n 0, 1) := by decide +kernel
theorem dX8_parseQuantified_1 : decode cX8_parseQuantified 1 = .ok (.invokevirtual 61, 3) := by decide +kernel
theorem dX8_parseQuantified_4 : decode cX8_parseQuantified 4 = .ok (.bipush 97, 2) := by decide +kernel
theorem dX8_parseQuantified_6 : decode cX8_parseQuantified 6 = .ok (.isub, 1) := by decide +kernel
theorem dX8_parseQuantified_7 : decode cX8_parseQuantified 7 = .ok (.istore 5, 2) := by decide +kernel
theorem dX8_parseQuantified_9 : decode cX8_parseQuantified 9 = .ok (.iload 5, 2) := by decide +kernel
theorem dX8_parseQuantified_11 : decode cX8_parseQuantified 11 = .ok (.ifCond .lt 13, 3) := by decide +kernel
theorem dX8_parseQuantified_14 : decode cX8_parseQuantified 14 = .ok (.iload 5, 2) := by decide +kernel
theorem dX8_parseQuantified_16 : decode cX8_parseQuantified 16 = .ok (.aload_n 0, 1) := by decide +kernel
theorem dX8_parseQuantified_17 : decode cX8_parseQuantified 17 = .ok (.getfield 25, 3) := by decide +kernel
theorem dX8_parseQuantified_20 : decode cX8_parseQuantified 20 = .ok (.arraylength, 1) := by decide +kernel
theorem dX8_parseQuantified_21 : decode cX8_parseQuantified 21 = .ok (.if_icmp .lt 8, 3) := by decide +kernel
theorem dX8_parseQuantified_24 : decode cX8_parseQuantified 24 = .ok (.aload_n 0, 1) := by decide +kernel
theorem dX8_parseQuantified_25 : decode cX8_parseQuantified 25 = .ok (.invokevirtual 82, 3) := by decide +kernel
theorem dX8_parseQuantified_28 : decode cX8_parseQuantified 28 = .ok (.return_, 1) := by decide +kernel
theorem dX8_parseQuantified_29 : decode cX8_parseQuantified 29 = .ok (.aload_n 0, 1) := by decide +kernel
theorem dX8_parseQuantified_30 : decode cX8_parseQuantified 30 = .ok (.dup, 1) := by decide +kernel
theorem dX8_parseQuantified_31 : decode cX8_parseQuantified 31 = .ok (.getfield 19, 3) := by decide +kernel
theorem dX8_parseQuantified_34 : decode cX8_parseQuantified 34 = .ok (.iconst 1, 1) := by decide +kernel
theorem dX8_parseQuantified_35 : decode cX8_parseQuantified 35 = .ok (.iadd, 1) := by decide +kernel
theorem dX8_parseQuantified_36 : decode cX8_parseQuantified 36 = .ok (.putfield 19, 3) := by decide +kernel
theorem dX8_parseQuantified_39 : decode cX8_parseQuantified 39 = .ok (.aload_n 0, 1) := by decide +kernel
theorem dX8_parseQuantified_40 : decode cX8_parseQuantified 40 = .ok (.getfield 25, 3) := by decide +kernel
theorem dX8_parseQuantified_43 : decode cX8_parseQuantified 43 = .ok (.iload 5, 2) := by decide +kernel
theorem dX8_parseQuantified_45 : decode cX8_parseQuantified 45 = .ok (.iaload, 1) := by decide +kernel
theorem dX8_parseQuantified_46 : decode cX8_parseQuantified 46 = .ok (.istore 6, 2) := by decide +kernel
theorem dX8_parseQuantified_48 : decode cX8_parseQuantified 48 = .ok (.aload_n 0, 1) := by decide +kernel
theorem dX8_parseQuantified_49 : decode cX8_parseQuantified 49 = .ok (.getfield 25, 3) := by decide +kernel
theorem dX8_parseQuantified_52 : decode cX8_parseQuantified 52 = .ok (.iload 5, 2) := by decide +kernel
theorem dX8_parseQuantified_54 : decode cX8_parseQuantified 54 = .ok (.iload 4, 2) := by decide +kernel
theorem dX8_parseQuantified_56 : decode cX8_parseQuantified 56 = .ok (.iastore, 1) := by decide +kernel
theorem dX8_parseQuantified_57 : decode cX8_parseQuantified 57 = .ok (.aload_n 1, 1) := by decide +kernel
theorem dX8_parseQuantified_58 : decode cX8_parseQuantified 58 = .ok (.iload_n 2, 1) := by decide +kernel
theorem dX8_parseQuantified_59 : decode cX8_parseQuantified 59 = .ok (.iload 4, 2) := by decide +kernel
theorem dX8_parseQuantified_61 : decode cX8_parseQuantified 61 = .ok (.iconst 0, 1) := by decide +kernel
theorem dX8_parseQuantified_62 : decode cX8_parseQuantified 62 = .ok (.invokevirtual 89, 3) := by decide +kernel
theorem dX8_parseQuantified_65 : decode cX8_parseQuantified 65 = .ok (.istore 7, 2) := by decide +kernel
theorem dX8_parseQuantified_67 : decode cX8_parseQuantified 67 = .ok (.aload_n 0, 1) := by decide +kernel
theorem dX8_parseQuantified_68 : decode cX8_parseQuantified 68 = .ok (.aload_n 1, 1) := by decide +kernel
theorem dX8_parseQuantified_69 : decode cX8_parseQuantified 69 = .ok (.iload_n 3, 1) := by decide +kernel
theorem dX8_parseQuantified_70 : decode cX8_parseQuantified 70 = .ok (.iload 4, 2) := by decide +kernel
theorem dX8_parseQuantified_72 : decode cX8_parseQuantified 72 = .ok (.invokevirtual 58, 3) := by decide +kernel
theorem dX8_parseQuantified_75 : decode cX8_parseQuantified 75 = .ok (.aload_n 1, 1) := by decide +kernel
theorem dX8_parseQuantified_76 : decode cX8_parseQuantified 76 = .ok (.iload 7, 2) := by decide +kernel
theorem dX8_parseQuantified_78 : decode cX8_parseQuantified 78 = .ok (.invokevirtual 72, 3) := by decide +kernel
theorem dX8_parseQuantified_81 : decode cX8_parseQuantified 81 = .ok (.aload_n 0, 1) := by decide +kernel
theorem dX8_parseQuantified_82 : decode cX8_parseQuantified 82 = .ok (.getfield 25, 3) := by decide +kernel
theorem dX8_parseQuantified_85 : decode cX8_parseQuantified 85 = .ok (.iload 5, 2) := by decide +kernel
theorem dX8_parseQuantified_87 : decode cX8_parseQuantified 87 = .ok (.iload 6, 2) := by decide +kernel
theorem dX8_parseQuantified_89 : decode cX8_parseQuantified 89 = .ok (.iastore, 1) := by decide +kernel
theorem dX8_parseQuantified_90 : decode cX8_parseQuantified 90 = .ok (.return_, 1) := by decide +kernel
theorem dX8_parseAtom_0 : decode cX8_parseAtom 0 = .ok (.iload_n 2, 1) := by decide +kernel
theorem dX8_parseAtom_1 : decode cX8_parseAtom 1 = .ok (.bipush 69, 2) := by decide +kernel
theorem dX8_parseAtom_3 : decode cX8_parseAtom 3 = .ok (.if_icmp .eq 9, 3) := by decide +kernel
theorem dX8_parseAtom_6 : decode cX8_parseAtom 6 = .ok (.iload_n 2, 1) := by decide +kernel
theorem dX8_parseAtom_7 : decode cX8_parseAtom 7 = .ok (.bipush 61, 2) := by decide +kernel
theorem dX8_parseAtom_9 : decode cX8_parseAtom 9 = .ok (.if_icmp .ne 7, 3) := by decide +kernel
theorem dX8_parseAtom_12 : decode cX8_parseAtom 12 = .ok (.iconst 1, 1) := by decide +kernel
theorem dX8_parseAtom_13 : decode cX8_parseAtom 13 = .ok (.goto 4, 3) := by decide +kernel
theorem dX8_parseAtom_16 : decode cX8_parseAtom 16 = .ok (.iconst 0, 1) := by decide +kernel
theorem dX8_parseAtom_17 : decode cX8_parseAtom 17 = .ok (.istore_n 3, 1) := by decide +kernel
theorem dX8_parseAtom_18 : decode cX8_parseAtom 18 = .ok (.iload_n 2, 1) := by decide +kernel
theorem dX8_parseAtom_19 : decode cX8_parseAtom 19 = .ok (.bipush 65, 2) := by decide +kernel
theorem dX8_parseAtom_21 : decode cX8_parseAtom 21 = .ok (.if_icmp .eq 9, 3) := by decide +kernel
theorem dX8_parseAtom_24 : decode cX8_parseAtom 24 = .ok (.iload_n 2, 1) := by decide +kernel
theorem dX8_parseAtom_25 : decode cX8_parseAtom 25 = .ok (.bipush 66, 2) := by decide +kernel
theorem dX8_parseAtom_27 : decode cX8_parseAtom 27 = .ok (.if_icmp .ne 7, 3) := by decide +kernel
theorem dX8_parseAtom_30 : decode cX8_parseAtom 30 = .ok (.iconst 1, 1) := by decide +kernel
theorem dX8_parseAtom_31 : decode cX8_parseAtom 31 = .ok (.goto 4, 3) := by decide +kernel
theorem dX8_parseAtom_34 : decode cX8_parseAtom 34 = .ok (.iconst 0, 1) := by decide +kernel
theorem dX8_parseAtom_35 : decode cX8_parseAtom 35 = .ok (.istore 4, 2) := by decide +kernel
theorem dX8_parseAtom_37 : decode cX8_parseAtom 37 = .ok (.iload_n 3, 1) := by decide +kernel
theorem dX8_parseAtom_38 : decode cX8_parseAtom 38 = .ok (.ifCond .ne 25, 3) := by decide +kernel
theorem dX8_parseAtom_41 : decode cX8_parseAtom 41 = .ok (.iload 4, 2) := by decide +kernel
theorem dX8_parseAtom_43 : decode cX8_parseAtom 43 = .ok (.ifCond .ne 20, 3) := by decide +kernel
theorem dX8_parseAtom_46 : decode cX8_parseAtom 46 = .ok (.iload_n 2, 1) := by decide +kernel
theorem dX8_parseAtom_47 : decode cX8_parseAtom 47 = .ok (.bipush 84, 2) := by decide +kernel
theorem dX8_parseAtom_49 : decode cX8_parseAtom 49 = .ok (.if_icmp .eq 14, 3) := by decide +kernel
theorem dX8_parseAtom_52 : decode cX8_parseAtom 52 = .ok (.iload_n 2, 1) := by decide +kernel
theorem dX8_parseAtom_53 : decode cX8_parseAtom 53 = .ok (.bipush 70, 2) := by decide +kernel
theorem dX8_parseAtom_55 : decode cX8_parseAtom 55 = .ok (.if_icmp .eq 8, 3) := by decide +kernel
theorem dX8_parseAtom_58 : decode cX8_parseAtom 58 = .ok (.aload_n 0, 1) := by decide +kernel
theorem dX8_parseAtom_59 : decode cX8_parseAtom 59 = .ok (.invokevirtual 82, 3) := by decide +kernel
theorem dX8_parseAtom_62 : decode cX8_parseAtom 62 = .ok (.return_, 1) := by decide +kernel
theorem dX8_parseAtom_63 : decode cX8_parseAtom 63 = .ok (.aload_n 0, 1) := by decide +kernel
theorem dX8_parseAtom_64 : decode cX8_parseAtom 64 = .ok (.dup, 1) := by decide +kernel
theorem dX8_parseAtom_65 : decode cX8_parseAtom 65 = .ok (.getfield 19, 3) := by decide +kernel
theorem dX8_parseAtom_68 : decode cX8_parseAtom 68 = .ok (.iconst 1, 1) := by decide +kernel
theorem dX8_parseAtom_69 : decode cX8_parseAtom 69 = .ok (.iadd, 1) := by decide +kernel
theorem dX8_parseAtom_70 : decode cX8_parseAtom 70 = .ok (.putfield 19, 3) := by decide +kernel
theorem dX8_parseAtom_73 : decode cX8_parseAtom 73 = .ok (.iload_n 3, 1) := by decide +kernel
theorem dX8_parseAtom_74 : decode cX8_parseAtom 74 = .ok (.ifCond .ne 8, 3) := by decide +kernel
theorem dX8_parseAtom_77 : decode cX8_parseAtom 77 = .ok (.iload 4, 2) := by decide +kernel
theorem dX8_parseAtom_79 : decode cX8_parseAtom 79 = .ok (.ifCond .eq 10, 3) := by decide +kernel
theorem dX8_parseAtom_82 : decode cX8_parseAtom 82 = .ok (.aload_n 0, 1) := by decide +kernel
theorem dX8_parseAtom_83 : decode cX8_parseAtom 83 = .ok (.invokevirtual 93, 3) := by decide +kernel
theorem dX8_parseAtom_86 : decode cX8_parseAtom 86 = .ok (.goto 4, 3) := by decide +kernel
theorem dX8_parseAtom_89 : decode cX8_parseAtom 89 = .ok (.iconst 0, 1) := by decide +kernel
theorem dX8_parseAtom_90 : decode cX8_parseAtom 90 = .ok (.istore 5, 2) := by decide +kernel
theorem dX8_parseAtom_92 : decode cX8_parseAtom 92 = .ok (.iload_n 3, 1) := by decide +kernel
theorem dX8_parseAtom_93 : decode cX8_parseAtom 93 = .ok (.ifCond .eq 10, 3) := by decide +kernel
theorem dX8_parseAtom_96 : decode cX8_parseAtom 96 = .ok (.aload_n 0, 1) := by decide +kernel
theorem dX8_parseAtom_97 : decode cX8_parseAtom 97 = .ok (.invokevirtual 93, 3) := by decide +kernel
theorem dX8_parseAtom_100 : decode cX8_parseAtom 100 = .ok (.goto 4, 3) := by decide +kernel
theorem dX8_parseAtom_103 : decode cX8_parseAtom 103 = .ok (.iconst 0, 1) := by decide +kernel
theorem dX8_parseAtom_104 : decode cX8_parseAtom 104 = .ok (.istore 6, 2) := by decide +kernel
theorem dX8_parseAtom_106 : decode cX8_parseAtom 106 = .ok (.aload_n 1, 1) := by decide +kernel
theorem dX8_parseAtom_107 : decode cX8_parseAtom 107 = .ok (.iload_n 2, 1) := by decide +kernel
theorem dX8_parseAtom_108 : decode cX8_parseAtom 108 = .ok (.iload 5, 2) := by decide +kernel
theorem dX8_parseAtom_110 : decode cX8_parseAtom 110 = .ok (.iload 6, 2) := by decide +kernel
theorem dX8_parseAtom_112 : decode cX8_parseAtom 112 = .ok (.invokevirtual 89, 3) := by decide +kernel
theorem dX8_parseAtom_115 : decode cX8_parseAtom 115 = .ok (.pop, 1) := by decide +kernel
theorem dX8_parseAtom_116 : decode cX8_parseAtom 116 = .ok (.return_, 1) := by decide +kernel
theorem dX8_parseOwner_0 : decode cX8_parseOwner 0 = .ok (.aload_n 0, 1) := by decide +kernel
theorem dX8_parseOwner_1 : decode cX8_parseOwner 1 = .ok (.invokevirtual 61, 3) := by decide +kernel
theorem dX8_parseOwner_4 : decode cX8_parseOwner 4 = .ok (.bipush 97, 2) := by decide +kernel
theorem dX8_parseOwner_6 : decode cX8_parseOwner 6 = .ok (.isub, 1) := by decide +kernel
theorem dX8_parseOwner_7 : decode cX8_parseOwner 7 = .ok (.istore_n 1, 1) := by decide +kernel
theorem dX8_parseOwner_8 : decode cX8_parseOwner 8 = .ok (.iload_n 1, 1) := by decide +kernel
theorem dX8_parseOwner_9 : decode cX8_parseOwner 9 = .ok (.ifCond .lt 21, 3) := by decide +kernel
theorem dX8_parseOwner_12 : decode cX8_parseOwner 12 = .ok (.iload_n 1, 1) := by decide +kernel
theorem dX8_parseOwner_13 : decode cX8_parseOwner 13 = .ok (.aload_n 0, 1) := by decide +kernel
theorem dX8_parseOwner_14 : decode cX8_parseOwner 14 = .ok (.getfield 25, 3) := by decide +kernel
theorem dX8_parseOwner_17 : decode cX8_parseOwner 17 = .ok (.arraylength, 1) := by decide +kernel
theorem dX8_parseOwner_18 : decode cX8_parseOwner 18 = .ok (.if_icmp .ge 12, 3) := by decide +kernel
theorem dX8_parseOwner_21 : decode cX8_parseOwner 21 = .ok (.aload_n 0, 1) := by decide +kernel
theorem dX8_parseOwner_22 : decode cX8_parseOwner 22 = .ok (.getfield 25, 3) := by decide +kernel
theorem dX8_parseOwner_25 : decode cX8_parseOwner 25 = .ok (.iload_n 1, 1) := by decide +kernel
theorem dX8_parseOwner_26 : decode cX8_parseOwner 26 = .ok (.iaload, 1) := by decide +kernel
theorem dX8_parseOwner_27 : decode cX8_parseOwner 27 = .ok (.ifCond .ne 9, 3) := by decide +kernel
theorem dX8_parseOwner_30 : decode cX8_parseOwner 30 = .ok (.aload_n 0, 1) := by decide +kernel
theorem dX8_parseOwner_31 : decode cX8_parseOwner 31 = .ok (.invokevirtual 82, 3) := by decide +kernel
theorem dX8_parseOwner_34 : decode cX8_parseOwner 34 = .ok (.iconst 0, 1) := by decide +kernel
theorem dX8_parseOwner_35 : decode cX8_parseOwner 35 = .ok (.ireturn, 1) := by decide +kernel
theorem dX8_parseOwner_36 : decode cX8_parseOwner 36 = .ok (.aload_n 0, 1) := by decide +kernel
theorem dX8_parseOwner_37 : decode cX8_parseOwner 37 = .ok (.dup, 1) := by decide +kernel
theorem dX8_parseOwner_38 : decode cX8_parseOwner 38 = .ok (.getfield 19, 3) := by decide +kernel
theorem dX8_parseOwner_41 : decode cX8_parseOwner 41 = .ok (.iconst 1, 1) := by decide +kernel
theorem dX8_parseOwner_42 : decode cX8_parseOwner 42 = .ok (.iadd, 1) := by decide +kernel
theorem dX8_parseOwner_43 : decode cX8_parseOwner 43 = .ok (.putfield 19, 3) := by decide +kernel
theorem dX8_parseOwner_46 : decode cX8_parseOwner 46 = .ok (.aload_n 0, 1) := by decide +kernel
theorem dX8_parseOwner_47 : decode cX8_parseOwner 47 = .ok (.getfield 25, 3) := by decide +kernel
theorem dX8_parseOwner_50 : decode cX8_parseOwner 50 = .ok (.iload_n 1, 1) := by decide +kernel
theorem dX8_parseOwner_51 : decode cX8_parseOwner 51 = .ok (.iaload, 1) := by decide +kernel
theorem dX8_parseOwner_52 : decode cX8_parseOwner 52 = .ok (.ireturn, 1) := by decide +kernel
theorem dX8_expect_0 : decode cX8_expect 0 = .ok (.aload_n 0, 1) := by decide +kernel
theorem dX8_expect_1 : decode cX8_expect 1 = .ok (.invokevirtual 61, 3) := by decide +kernel
theorem dX8_expect_4 : decode cX8_expect 4 = .ok (.iload_n 1, 1) := by decide +kernel
theorem dX8_expect_5 : decode cX8_expect 5 = .ok (.if_icmp .eq 10, 3) := by decide +kernel
theorem dX8_expect_8 : decode cX8_expect 8 = .ok (.aload_n 0, 1) := by decide +kernel
theorem dX8_expect_9 : decode cX8_expect 9 = .ok (.invokevirtual 82, 3) := by decide +kernel
theorem dX8_expect_12 : decode cX8_expect 12 = .ok (.goto 18, 3) := by decide +kernel
theorem dX8_expect_15 : decode cX8_expect 15 = .ok (.iload_n 1, 1) := by decide +kernel
theorem dX8_expect_16 : decode cX8_expect 16 = .ok (.iconst (-1), 1) := by decide +kernel
theorem dX8_expect_17 : decode cX8_expect 17 = .ok (.if_icmp .eq 13, 3) := by decide +kernel
theorem dX8_expect_20 : decode cX8_expect 20 = .ok (.aload_n 0, 1) := by decide +kernel
theorem dX8_expect_21 : decode cX8_expect 21 = .ok (.dup, 1) := by decide +kernel
theorem dX8_expect_22 : decode cX8_expect 22 = .ok (.getfield 19, 3) := by decide +kernel
theorem dX8_expect_25 : decode cX8_expect 25 = .ok (.iconst 1, 1) := by decide +kernel
theorem dX8_expect_26 : decode cX8_expect 26 = .ok (.iadd, 1) := by decide +kernel
theorem dX8_expect_27 : decode cX8_expect 27 = .ok (.putfield 19, 3) := by decide +kernel
theorem dX8_expect_30 : decode cX8_expect 30 = .ok (.return_, 1) := by decide +kernel
theorem dX8_fail_0 : decode cX8_fail 0 = .ok (.aload_n 0, 1) := by decide +kernel
theorem dX8_fail_1 : decode cX8_fail 1 = .ok (.getfield 22, 3) := by decide +kernel
theorem dX8_fail_4 : decode cX8_fail 4 = .ok (.ifCond .ge 11, 3) := by decide +kernel
theorem dX8_fail_7 : decode cX8_fail 7 = .ok (.aload_n 0, 1) := by decide +kernel
theorem dX8_fail_8 : decode cX8_fail 8 = .ok (.aload_n 0, 1) := by decide +kernel
theorem dX8_fail_9 : decode cX8_fail 9 = .ok (.getfield 19, 3) := by decide +kernel
theorem dX8_fail_12 : decode cX8_fail 12 = .ok (.putfield 22, 3) := by decide +kernel
theorem dX8_fail_15 : decode cX8_fail 15 = .ok (.return_, 1) := by decide +kernel
theorem dX8_peek_0 : decode cX8_peek 0 = .ok (.aload_n 0, 1) := by decide +kernel
theorem dX8_peek_1 : decode cX8_peek 1 = .ok (.getfield 19, 3) := by decide +kernel
theorem dX8_peek_4 : decode cX8_peek 4 = .ok (.ifCond .lt 67, 3) := by decide +kernel
theorem dX8_peek_7 : decode cX8_peek 7 = .ok (.aload_n 0, 1) := by decide +kernel
theorem dX8_peek_8 : decode cX8_peek 8 = .ok (.getfield 19, 3) := by decide +kernel
theorem dX8_peek_11 : decode cX8_peek 11 = .ok (.aload_n 0, 1) := by decide +kernel
theorem dX8_peek_12 : decode cX8_peek 12 = .ok (.getfield 15, 3) := by decide +kernel
theorem dX8_peek_15 : decode cX8_peek 15 = .ok (.if_icmp .ge 56, 3) := by decide +kernel
theorem dX8_peek_18 : decode cX8_peek 18 = .ok (.aload_n 0, 1) := by decide +kernel
theorem dX8_peek_19 : decode cX8_peek 19 = .ok (.getfield 19, 3) := by decide +kernel
theorem dX8_peek_22 : decode cX8_peek 22 = .ok (.aload_n 0, 1) := by decide +kernel
theorem dX8_peek_23 : decode cX8_peek 23 = .ok (.getfield 9, 3) := by decide +kernel
theorem dX8_peek_26 : decode cX8_peek 26 = .ok (.arraylength, 1) := by decide +kernel
theorem dX8_peek_27 : decode cX8_peek 27 = .ok (.if_icmp .ge 44, 3) := by decide +kernel
theorem dX8_peek_30 : decode cX8_peek 30 = .ok (.aload_n 0, 1) := by decide +kernel
theorem dX8_peek_31 : decode cX8_peek 31 = .ok (.getfield 9, 3) := by decide +kernel
theorem dX8_peek_34 : decode cX8_peek 34 = .ok (.aload_n 0, 1) := by decide +kernel
theorem dX8_peek_35 : decode cX8_peek 35 = .ok (.getfield 19, 3) := by decide +kernel
theorem dX8_peek_38 : decode cX8_peek 38 = .ok (.baload, 1) := by decide +kernel
theorem dX8_peek_39 : decode cX8_peek 39 = .ok (.sipush 255, 3) := by decide +kernel
theorem dX8_peek_42 : decode cX8_peek 42 = .ok (.iand, 1) := by decide +kernel
theorem dX8_peek_43 : decode cX8_peek 43 = .ok (.istore_n 1, 1) := by decide +kernel
theorem dX8_peek_44 : decode cX8_peek 44 = .ok (.iload_n 1, 1) := by decide +kernel
theorem dX8_peek_45 : decode cX8_peek 45 = .ok (.bipush 32, 2) := by decide +kernel
theorem dX8_peek_47 : decode cX8_peek 47 = .ok (.if_icmp .eq 11, 3) := by decide +kernel
theorem dX8_peek_50 : decode cX8_peek 50 = .ok (.iload_n 1, 1) := by decide +kernel
theorem dX8_peek_51 : decode cX8_peek 51 = .ok (.bipush 10, 2) := by decide +kernel
theorem dX8_peek_53 : decode cX8_peek 53 = .ok (.if_icmp .eq 5, 3) := by decide +kernel
theorem dX8_peek_56 : decode cX8_peek 56 = .ok (.iload_n 1, 1) := by decide +kernel
theorem dX8_peek_57 : decode cX8_peek 57 = .ok (.ireturn, 1) := by decide +kernel
theorem dX8_peek_58 : decode cX8_peek 58 = .ok (.aload_n 0, 1) := by decide +kernel
theorem dX8_peek_59 : decode cX8_peek 59 = .ok (.dup, 1) := by decide +kernel
theorem dX8_peek_60 : decode cX8_peek 60 = .ok (.getfield 19, 3) := by decide +kernel
theorem dX8_peek_63 : decode cX8_peek 63 = .ok (.iconst 1, 1) := by decide +kernel
theorem dX8_peek_64 : decode cX8_peek 64 = .ok (.iadd, 1) := by decide +kernel
theorem dX8_peek_65 : decode cX8_peek 65 = .ok (.putfield 19, 3) := by decide +kernel
theorem dX8_peek_68 : decode cX8_peek 68 = .ok (.goto (-68), 3) := by decide +kernel
theorem dX8_peek_71 : decode cX8_peek 71 = .ok (.iconst (-1), 1) := by decide +kernel
theorem dX8_peek_72 : decode cX8_peek 72 = .ok (.ireturn, 1) := by decide +kernel
theorem dX9_init_0 : decode cX9_init 0 = .ok (.aload_n 0, 1) := by decide +kernel
theorem dX9_init_1 : decode cX9_init 1 = .ok (.invokespecial 3, 3) := by decide +kernel
theorem dX9_init_4 : decode cX9_init 4 = .ok (.aload_n 0, 1) := by decide +kernel
theorem dX9_init_5 : decode cX9_init 5 = .ok (.iconst 0, 1) := by decide +kernel
theorem dX9_init_6 : decode cX9_init 6 = .ok (.putfield 9, 3) := by decide +kernel
theorem dX9_init_9 : decode cX9_init 9 = .ok (.aload_n 0, 1) := by decide +kernel
theorem dX9_init_10 : decode cX9_init 10 = .ok (.bipush 6, 2) := by decide +kernel
theorem dX9_init_12 : decode cX9_init 12 = .ok (.newarray .int, 2) := by decide +kernel
theorem dX9_init_14 : decode cX9_init 14 = .ok (.putfield 15, 3) := by decide +kernel
theorem dX9_init_17 : decode cX9_init 17 = .ok (.aload_n 0, 1) := by decide +kernel
theorem dX9_init_18 : decode cX9_init 18 = .ok (.bipush 6, 2) := by decide +kernel
theorem dX9_init_20 : decode cX9_init 20 = .ok (.newarray .int, 2) := by decide +kernel
theorem dX9_init_22 : decode cX9_init 22 = .ok (.putfield 19, 3) := by decide +kernel
theorem dX9_init_25 : decode cX9_init 25 = .ok (.return_, 1) := by decide +kernel
theorem dX9_size_0 : decode cX9_size 0 = .ok (.aload_n 0, 1) := by decide +kernel
theorem dX9_size_1 : decode cX9_size 1 = .ok (.getfield 9, 3) := by decide +kernel
theorem dX9_size_4 : decode cX9_size 4 = .ok (.ireturn, 1) := by decide +kernel
theorem dX9_has_0 : decode cX9_has 0 = .ok (.iload_n 1, 1) := by decide +kernel
theorem dX9_has_1 : decode cX9_has 1 = .ok (.ifCond .lt 21, 3) := by decide +kernel
theorem dX9_has_4 : decode cX9_has 4 = .ok (.iload_n 1, 1) := by decide +kernel
theorem dX9_has_5 : decode cX9_has 5 = .ok (.aload_n 0, 1) := by decide +kernel
theorem dX9_has_6 : decode cX9_has 6 = .ok (.getfield 9, 3) := by decide +kernel
theorem dX9_has_9 : decode cX9_has 9 = .ok (.if_icmp .ge 13, 3) := by decide +kernel
theorem dX9_has_12 : decode cX9_has 12 = .ok (.iload_n 1, 1) := by decide +kernel
theorem dX9_has_13 : decode cX9_has 13 = .ok (.bipush 6, 2) := by decide +kernel
theorem dX9_has_15 : decode cX9_has 15 = .ok (.if_icmp .ge 7, 3) := by decide +kernel
theorem dX9_has_18 : decode cX9_has 18 = .ok (.iconst 1, 1) := by decide +kernel
theorem dX9_has_19 : decode cX9_has 19 = .ok (.goto 4, 3) := by decide +kernel
theorem dX9_has_22 : decode cX9_has 22 = .ok (.iconst 0, 1) := by decide +kernel
theorem dX9_has_23 : decode cX9_has 23 = .ok (.ireturn, 1) := by decide +kernel
theorem dX9_makeBare_0 : decode cX9_makeBare 0 = .ok (.aload_n 0, 1) := by decide +kernel
theorem dX9_makeBare_1 : decode cX9_makeBare 1 = .ok (.iconst 0, 1) := by decide +kernel
theorem dX9_makeBare_2 : decode cX9_makeBare 2 = .ok (.iload_n 1, 1) := by decide +kernel
theorem dX9_makeBare_3 : decode cX9_makeBare 3 = .ok (.bipush 6, 2) := by decide +kernel
theorem dX9_makeBare_5 : decode cX9_makeBare 5 = .ok (.invokestatic 22, 3) := by decide +kernel
theorem dX9_makeBare_8 : decode cX9_makeBare 8 = .ok (.invokestatic 28, 3) := by decide +kernel
theorem dX9_makeBare_11 : decode cX9_makeBare 11 = .ok (.putfield 9, 3) := by decide +kernel
theorem dX9_makeBare_14 : decode cX9_makeBare 14 = .ok (.aload_n 0, 1) := by decide +kernel
theorem dX9_makeBare_15 : decode cX9_makeBare 15 = .ok (.getfield 15, 3) := by decide +kernel
theorem dX9_makeBare_18 : decode cX9_makeBare 18 = .ok (.iconst 0, 1) := by decide +kernel
theorem dX9_makeBare_19 : decode cX9_makeBare 19 = .ok (.invokestatic 31, 3) := by decide +kernel
theorem dX9_makeBare_22 : decode cX9_makeBare 22 = .ok (.aload_n 0, 1) := by decide +kernel
theorem dX9_makeBare_23 : decode cX9_makeBare 23 = .ok (.getfield 19, 3) := by decide +kernel
theorem dX9_makeBare_26 : decode cX9_makeBare 26 = .ok (.iconst 0, 1) := by decide +kernel
theorem dX9_makeBare_27 : decode cX9_makeBare 27 = .ok (.invokestatic 31, 3) := by decide +kernel
theorem dX9_makeBare_30 : decode cX9_makeBare 30 = .ok (.return_, 1) := by decide +kernel
theorem dX9_become_0 : decode cX9_become 0 = .ok (.aload_n 0, 1) := by decide +kernel
theorem dX9_become_1 : decode cX9_become 1 = .ok (.aload_n 1, 1) := by decide +kernel
theorem dX9_become_2 : decode cX9_become 2 = .ok (.getfield 9, 3) := by decide +kernel
theorem dX9_become_5 : decode cX9_become 5 = .ok (.putfield 9, 3) := by decide +kernel
theorem dX9_become_8 : decode cX9_become 8 = .ok (.iconst 0, 1) := by decide +kernel
theorem dX9_become_9 : decode cX9_become 9 = .ok (.istore_n 2, 1) := by decide +kernel
theorem dX9_become_10 : decode cX9_become 10 = .ok (.iload_n 2, 1) := by decide +kernel
theorem dX9_become_11 : decode cX9_become 11 = .ok (.bipush 6, 2) := by decide +kernel
theorem dX9_become_13 : decode cX9_become 13 = .ok (.if_icmp .ge 33, 3) := by decide +kernel
theorem dX9_become_16 : decode cX9_become 16 = .ok (.aload_n 0, 1) := by decide +kernel
theorem dX9_become_17 : decode cX9_become 17 = .ok (.getfield 15, 3) := by decide +kernel
theorem dX9_become_20 : decode cX9_become 20 = .ok (.iload_n 2, 1) := by decide +kernel
theorem dX9_become_21 : decode cX9_become 21 = .ok (.aload_n 1, 1) := by decide +kernel
theorem dX9_become_22 : decode cX9_become 22 = .ok (.getfield 15, 3) := by decide +kernel
theorem dX9_become_25 : decode cX9_become 25 = .ok (.iload_n 2, 1) := by decide +kernel
theorem dX9_become_26 : decode cX9_become 26 = .ok (.iaload, 1) := by decide +kernel
theorem dX9_become_27 : decode cX9_become 27 = .ok (.iastore, 1) := by decide +kernel
theorem dX9_become_28 : decode cX9_become 28 = .ok (.aload_n 0, 1) := by decide +kernel
theorem dX9_become_29 : decode cX9_become 29 = .ok (.getfield 19, 3) := by decide +kernel
theorem dX9_become_32 : decode cX9_become 32 = .ok (.iload_n 2, 1) := by decide +kernel
theorem dX9_become_33 : decode cX9_become 33 = .ok (.aload_n 1, 1) := by decide +kernel
theorem dX9_become_34 : decode cX9_become 34 = .ok (.getfield 19, 3) := by decide +kernel
theorem dX9_become_37 : decode cX9_become 37 = .ok (.iload_n 2, 1) := by decide +kernel
theorem dX9_become_38 : decode cX9_become 38 = .ok (.iaload, 1) := by decide +kernel
theorem dX9_become_39 : decode cX9_become 39 = .ok (.iastore, 1) := by decide +kernel
theorem dX9_become_40 : decode cX9_become 40 = .ok (.iinc 2 1, 3) := by decide +kernel
theorem dX9_become_43 : decode cX9_become 43 = .ok (.goto (-33), 3) := by decide +kernel
theorem dX9_become_46 : decode cX9_become 46 = .ok (.return_, 1) := by decide +kernel
theorem dX9_exchange_0 : decode cX9_exchange 0 = .ok (.aload_n 0, 1) := by decide +kernel
theorem dX9_exchange_1 : decode cX9_exchange 1 = .ok (.iload_n 1, 1) := by decide +kernel
theorem dX9_exchange_2 : decode cX9_exchange 2 = .ok (.invokevirtual 37, 3) := by decide +kernel
theorem dX9_exchange_5 : decode cX9_exchange 5 = .ok (.ifCond .eq 11, 3) := by decide +kernel
theorem dX9_exchange_8 : decode cX9_exchange 8 = .ok (.aload_n 0, 1) := by decide +kernel
theorem dX9_exchange_9 : decode cX9_exchange 9 = .ok (.iload_n 2, 1) := by decide +kernel
theorem dX9_exchange_10 : decode cX9_exchange 10 = .ok (.invokevirtual 37, 3) := by decide +kernel
theorem dX9_exchange_13 : decode cX9_exchange 13 = .ok (.ifCond .ne 4, 3) := by decide +kernel
theorem dX9_exchange_16 : decode cX9_exchange 16 = .ok (.return_, 1) := by decide +kernel
theorem dX9_exchange_17 : decode cX9_exchange 17 = .ok (.aload_n 0, 1) := by decide +kernel
theorem dX9_exchange_18 : decode cX9_exchange 18 = .ok (.getfield 15, 3) := by decide +kernel
theorem dX9_exchange_21 : decode cX9_exchange 21 = .ok (.iload_n 1, 1) := by decide +kernel
theorem dX9_exchange_22 : decode cX9_exchange 22 = .ok (.iaload, 1) := by decide +kernel
theorem dX9_exchange_23 : decode cX9_exchange 23 = .ok (.istore_n 3, 1) := by decide +kernel
theorem dX9_exchange_24 : decode cX9_exchange 24 = .ok (.aload_n 0, 1) := by decide +kernel
theorem dX9_exchange_25 : decode cX9_exchange 25 = .ok (.getfield 15, 3) := by decide +kernel
theorem dX9_exchange_28 : decode cX9_exchange 28 = .ok (.iload_n 1, 1) := by decide +kernel
theorem dX9_exchange_29 : decode cX9_exchange 29 = .ok (.aload_n 0, 1) := by decide +kernel
theorem dX9_exchange_30 : decode cX9_exchange 30 = .ok (.getfield 15, 3) := by decide +kernel
theorem dX9_exchange_33 : decode cX9_exchange 33 = .ok (.iload_n 2, 1) := by decide +kernel
theorem dX9_exchange_34 : decode cX9_exchange 34 = .ok (.iaload, 1) := by decide +kernel
theorem dX9_exchange_35 : decode cX9_exchange 35 = .ok (.iastore, 1) := by decide +kernel
theorem dX9_exchange_36 : decode cX9_exchange 36 = .ok (.aload_n 0, 1) := by decide +kernel
theorem dX9_exchange_37 : decode cX9_exchange 37 = .ok (.getfield 15, 3) := by decide +kernel
theorem dX9_exchange_40 : decode cX9_exchange 40 = .ok (.iload_n 2, 1) := by decide +kernel
theorem dX9_exchange_41 : decode cX9_exchange 41 = .ok (.iload_n 3, 1) := by decide +kernel
theorem dX9_exchange_42 : decode cX9_exchange 42 = .ok (.iastore, 1) := by decide +kernel
theorem dX9_exchange_43 : decode cX9_exchange 43 = .ok (.aload_n 0, 1) := by decide +kernel
theorem dX9_exchange_44 : decode cX9_exchange 44 = .ok (.getfield 19, 3) := by decide +kernel
theorem dX9_exchange_47 : decode cX9_exchange 47 = .ok (.iload_n 1, 1) := by decide +kernel
theorem dX9_exchange_48 : decode cX9_exchange 48 = .ok (.iaload, 1) := by decide +kernel
theorem dX9_exchange_49 : decode cX9_exchange 49 = .ok (.istore 4, 2) := by decide +kernel
theorem dX9_exchange_51 : decode cX9_exchange 51 = .ok (.aload_n 0, 1) := by decide +kernel
theorem dX9_exchange_52 : decode cX9_exchange 52 = .ok (.getfield 19, 3) := by decide +kernel
theorem dX9_exchange_55 : decode cX9_exchange 55 = .ok (.iload_n 1, 1) := by decide +kernel
theorem dX9_exchange_56 : decode cX9_exchange 56 = .ok (.aload_n 0, 1) := by decide +kernel
theorem dX9_exchange_57 : decode cX9_exchange 57 = .ok (.getfield 19, 3) := by decide +kernel
theorem dX9_exchange_60 : decode cX9_exchange 60 = .ok (.iload_n 2, 1) := by decide +kernel
theorem dX9_exchange_61 : decode cX9_exchange 61 = .ok (.iaload, 1) := by decide +kernel
theorem dX9_exchange_62 : decode cX9_exchange 62 = .ok (.iastore, 1) := by decide +kernel
theorem dX9_exchange_63 : decode cX9_exchange 63 = .ok (.aload_n 0, 1) := by decide +kernel
theorem dX9_exchange_64 : decode cX9_exchange 64 = .ok (.getfield 19, 3) := by decide +kernel
theorem dX9_exchange_67 : decode cX9_exchange 67 = .ok (.iload_n 2, 1) := by decide +kernel
theorem dX9_exchange_68 : decode cX9_exchange 68 = .ok (.iload 4, 2) := by decide +kernel
theorem dX9_exchange_70 : decode cX9_exchange 70 = .ok (.iastore, 1) := by decide +kernel
theorem dX9_exchange_71 : decode cX9_exchange 71 = .ok (.iconst 0, 1) := by decide +kernel
theorem dX9_exchange_72 : decode cX9_exchange 72 = .ok (.istore 5, 2) := by decide +kernel
theorem dX9_exchange_74 : decode cX9_exchange 74 = .ok (.iload 5, 2) := by decide +kernel
theorem dX9_exchange_76 : decode cX9_exchange 76 = .ok (.bipush 6, 2) := by decide +kernel
theorem dX9_exchange_78 : decode cX9_exchange 78 = .ok (.if_icmp .ge 50, 3) := by decide +kernel
theorem dX9_exchange_81 : decode cX9_exchange 81 = .ok (.aload_n 0, 1) := by decide +kernel
theorem dX9_exchange_82 : decode cX9_exchange 82 = .ok (.getfield 19, 3) := by decide +kernel
theorem dX9_exchange_85 : decode cX9_exchange 85 = .ok (.iload 5, 2) := by decide +kernel
theorem dX9_exchange_87 : decode cX9_exchange 87 = .ok (.iaload, 1) := by decide +kernel
theorem dX9_exchange_88 : decode cX9_exchange 88 = .ok (.istore 6, 2) := by decide +kernel
theorem dX9_exchange_90 : decode cX9_exchange 90 = .ok (.iload 6, 2) := by decide +kernel
theorem dX9_exchange_92 : decode cX9_exchange 92 = .ok (.iload_n 1, 1) := by decide +kernel
theorem dX9_exchange_93 : decode cX9_exchange 93 = .ok (.ishr, 1) := by decide +kernel
theorem dX9_exchange_94 : decode cX9_exchange 94 = .ok (.iload 6, 2) := by decide +kernel
theorem dX9_exchange_96 : decode cX9_exchange 96 = .ok (.iload_n 2, 1) := by decide +kernel
theorem dX9_exchange_97 : decode cX9_exchange 97 = .ok (.ishr, 1) := by decide +kernel
theorem dX9_exchange_98 : decode cX9_exchange 98 = .ok (.ixor, 1) := by decide +kernel
theorem dX9_exchange_99 : decode cX9_exchange 99 = .ok (.iconst 1, 1) := by decide +kernel
theorem dX9_exchange_100 : decode cX9_exchange 100 = .ok (.iand, 1) := by decide +kernel
theorem dX9_exchange_101 : decode cX9_exchange 101 = .ok (.istore 7, 2) := by decide +kernel
theorem dX9_exchange_103 : decode cX9_exchange 103 = .ok (.aload_n 0, 1) := by decide +kernel
theorem dX9_exchange_104 : decode cX9_exchange 104 = .ok (.getfield 19, 3) := by decide +kernel
theorem dX9_exchange_107 : decode cX9_exchange 107 = .ok (.iload 5, 2) := by decide +kernel
theorem dX9_exchange_109 : decode cX9_exchange 109 = .ok (.iload 6, 2) := by decide +kernel
theorem dX9_exchange_111 : decode cX9_exchange 111 = .ok (.iload 7, 2) := by decide +kernel
theorem dX9_exchange_113 : decode cX9_exchange 113 = .ok (.iload_n 1, 1) := by decide +kernel
theorem dX9_exchange_114 : decode cX9_exchange 114 = .ok (.ishl, 1) := by decide +kernel
theorem dX9_exchange_115 : decode cX9_exchange 115 = .ok (.iload 7, 2) := by decide +kernel
theorem dX9_exchange_117 : decode cX9_exchange 117 = .ok (.iload_n 2, 1) := by decide +kernel
theorem dX9_exchange_118 : decode cX9_exchange 118 = .ok (.ishl, 1) := by decide +kernel
theorem dX9_exchange_119 : decode cX9_exchange 119 = .ok (.ixor, 1) := by decide +kernel
theorem dX9_exchange_120 : decode cX9_exchange 120 = .ok (.ixor, 1) := by decide +kernel
theorem dX9_exchange_121 : decode cX9_exchange 121 = .ok (.iastore, 1) := by decide +kernel
theorem dX9_exchange_122 : decode cX9_exchange 122 = .ok (.iinc 5 1, 3) := by decide +kernel
theorem dX9_exchange_125 : decode cX9_exchange 125 = .ok (.goto (-51), 3) := by decide +kernel
theorem dX9_exchange_128 : decode cX9_exchange 128 = .ok (.return_, 1) := by decide +kernel
theorem dX9_append_0 : decode cX9_append 0 = .ok (.iconst 0, 1) := by decide +kernel
theorem dX9_append_1 : decode cX9_append 1 = .ok (.istore_n 2, 1) := by decide +kernel
theorem dX9_append_2 : decode cX9_append 2 = .ok (.iload_n 2, 1) := by decide +kernel
theorem dX9_append_3 : decode cX9_append 3 = .ok (.aload_n 1, 1) := by decide +kernel
theorem dX9_append_4 : decode cX9_append 4 = .ok (.getfield 9, 3) := by decide +kernel
theorem dX9_append_7 : decode cX9_append 7 = .ok (.if_icmp .ge 57, 3) := by decide +kernel
theorem dX9_append_10 : decode cX9_append 10 = .ok (.aload_n 0, 1) := by decide +kernel
theorem dX9_append_11 : decode cX9_append 11 = .ok (.getfield 9, 3) := by decide +kernel
theorem dX9_append_14 : decode cX9_append 14 = .ok (.iload_n 2, 1) := by decide +kernel
theorem dX9_append_15 : decode cX9_append 15 = .ok (.iadd, 1) := by decide +kernel
theorem dX9_append_16 : decode cX9_append 16 = .ok (.bipush 6, 2) := by decide +kernel
theorem dX9_append_18 : decode cX9_append 18 = .ok (.if_icmp .ge 46, 3) := by decide +kernel
theorem dX9_append_21 : decode cX9_append 21 = .ok (.aload_n 0, 1) := by decide +kernel
theorem dX9_append_22 : decode cX9_append 22 = .ok (.getfield 15, 3) := by decide +kernel
theorem dX9_append_25 : decode cX9_append 25 = .ok (.aload_n 0, 1) := by decide +kernel
theorem dX9_append_26 : decode cX9_append 26 = .ok (.getfield 9, 3) := by decide +kernel
theorem dX9_append_29 : decode cX9_append 29 = .ok (.iload_n 2, 1) := by decide +kernel
theorem dX9_append_30 : decode cX9_append 30 = .ok (.iadd, 1) := by decide +kernel
theorem dX9_append_31 : decode cX9_append 31 = .ok (.aload_n 1, 1) := by decide +kernel
theorem dX9_append_32 : decode cX9_append 32 = .ok (.iload_n 2, 1) := by decide +kernel
theorem dX9_append_33 : decode cX9_append 33 = .ok (.invokevirtual 41, 3) := by decide +kernel
theorem dX9_append_36 : decode cX9_append 36 = .ok (.iastore, 1) := by decide +kernel
theorem dX9_append_37 : decode cX9_append 37 = .ok (.aload_n 0, 1) := by decide +kernel
theorem dX9_append_38 : decode cX9_append 38 = .ok (.getfield 19, 3) := by decide +kernel
theorem dX9_append_41 : decode cX9_append 41 = .ok (.aload_n 0, 1) := by decide +kernel
theorem dX9_append_42 : decode cX9_append 42 = .ok (.getfield 9, 3) := by decide +kernel
theorem dX9_append_45 : decode cX9_append 45 = .ok (.iload_n 2, 1) := by decide +kernel
theorem dX9_append_46 : decode cX9_append 46 = .ok (.iadd, 1) := by decide +kernel
theorem dX9_append_47 : decode cX9_append 47 = .ok (.aload_n 1, 1) := by decide +kernel
theorem dX9_append_48 : decode cX9_append 48 = .ok (.iload_n 2, 1) := by decide +kernel
theorem dX9_append_49 : decode cX9_append 49 = .ok (.invokevirtual 45, 3) := by decide +kernel
theorem dX9_append_52 : decode cX9_append 52 = .ok (.aload_n 0, 1) := by decide +kernel
theorem dX9_append_53 : decode cX9_append 53 = .ok (.getfield 9, 3) := by decide +kernel
theorem dX9_append_56 : decode cX9_append 56 = .ok (.ishl, 1) := by decide +kernel
theorem dX9_append_57 : decode cX9_append 57 = .ok (.iastore, 1) := by decide +kernel
theorem dX9_append_58 : decode cX9_append 58 = .ok (.iinc 2 1, 3) := by decide +kernel
theorem dX9_append_61 : decode cX9_append 61 = .ok (.goto (-59), 3) := by decide +kernel
theorem dX9_append_64 : decode cX9_append 64 = .ok (.aload_n 0, 1) := by decide +kernel
theorem dX9_append_65 : decode cX9_append 65 = .ok (.bipush 6, 2) := by decide +kernel
theorem dX9_append_67 : decode cX9_append 67 = .ok (.aload_n 0, 1) := by decide +kernel
theorem dX9_append_68 : decode cX9_append 68 = .ok (.getfield 9, 3) := by decide +kernel
theorem dX9_append_71 : decode cX9_append 71 = .ok (.aload_n 1, 1) := by decide +kernel
theorem dX9_append_72 : decode cX9_append 72 = .ok (.getfield 9, 3) := by decide +kernel
theorem dX9_append_75 : decode cX9_append 75 = .ok (.iadd, 1) := by decide +kernel
theorem dX9_append_76 : decode cX9_append 76 = .ok (.invokestatic 22, 3) := by decide +kernel
theorem dX9_append_79 : decode cX9_append 79 = .ok (.putfield 9, 3) := by decide +kernel
theorem dX9_append_82 : decode cX9_append 82 = .ok (.return_, 1) := by decide +kernel
theorem dX9_marksOf_0 : decode cX9_marksOf 0 = .ok (.aload_n 0, 1) := by decide +kernel
theorem dX9_marksOf_1 : decode cX9_marksOf 1 = .ok (.iload_n 1, 1) := by decide +kernel
theorem dX9_marksOf_2 : decode cX9_marksOf 2 = .ok (.invokevirtual 37, 3) := by decide +kernel
theorem dX9_marksOf_5 : decode cX9_marksOf 5 = .ok (.ifCond .eq 12, 3) := by decide +kernel
theorem dX9_marksOf_8 : decode cX9_marksOf 8 = .ok (.aload_n 0, 1) := by decide +kernel
theorem dX9_marksOf_9 : decode cX9_marksOf 9 = .ok (.getfield 15, 3) := by decide +kernel
theorem dX9_marksOf_12 : decode cX9_marksOf 12 = .ok (.iload_n 1, 1) := by decide +kernel
theorem dX9_marksOf_13 : decode cX9_marksOf 13 = .ok (.iaload, 1) := by decide +kernel
theorem dX9_marksOf_14 : decode cX9_marksOf 14 = .ok (.goto 4, 3) := by decide +kernel
theorem dX9_marksOf_17 : decode cX9_marksOf 17 = .ok (.iconst 0, 1) := by decide +kernel
theorem dX9_marksOf_18 : decode cX9_marksOf 18 = .ok (.ireturn, 1) := by decide +kernel
theorem dX9_tiesOf_0 : decode cX9_tiesOf 0 = .ok (.aload_n 0, 1) := by decide +kernel
theorem dX9_tiesOf_1 : decode cX9_tiesOf 1 = .ok (.iload_n 1, 1) := by decide +kernel
theorem dX9_tiesOf_2 : decode cX9_tiesOf 2 = .ok (.invokevirtual 37, 3) := by decide +kernel
theorem dX9_tiesOf_5 : decode cX9_tiesOf 5 = .ok (.ifCond .eq 12, 3) := by decide +kernel
theorem dX9_tiesOf_8 : decode cX9_tiesOf 8 = .ok (.aload_n 0, 1) := by decide +kernel
theorem dX9_tiesOf_9 : decode cX9_tiesOf 9 = .ok (.getfield 19, 3) := by decide +kernel
theorem dX9_tiesOf_12 : decode cX9_tiesOf 12 = .ok (.iload_n 1, 1) := by decide +kernel
theorem dX9_tiesOf_13 : decode cX9_tiesOf 13 = .ok (.iaload, 1) := by decide +kernel
theorem dX9_tiesOf_14 : decode cX9_tiesOf 14 = .ok (.goto 4, 3) := by decide +kernel
theorem dX9_tiesOf_17 : decode cX9_tiesOf 17 = .ok (.iconst 0, 1) := by decide +kernel
theorem dX9_tiesOf_18 : decode cX9_tiesOf 18 = .ok (.ireturn, 1) := by decide +kernel
theorem dX9_isTied_0 : decode cX9_isTied 0 = .ok (.aload_n 0, 1) := by decide +kernel
theorem dX9_isTied_1 : decode cX9_isTied 1 = .ok (.iload_n 1, 1) := by decide +kernel
theorem dX9_isTied_2 : decode cX9_isTied 2 = .ok (.invokevirtual 37, 3) := by decide +kernel
theorem dX9_isTied_5 : decode cX9_isTied 5 = .ok (.ifCond .eq 29, 3) := by decide +kernel
theorem dX9_isTied_8 : decode cX9_isTied 8 = .ok (.aload_n 0, 1) := by decide +kernel
theorem dX9_isTied_9 : decode cX9_isTied 9 = .ok (.iload_n 2, 1) := by decide +kernel
theorem dX9_isTied_10 : decode cX9_isTied 10 = .ok (.invokevirtual 37, 3) := by decide +kernel
theorem dX9_isTied_13 : decode cX9_isTied 13 = .ok (.ifCond .eq 21, 3) := by decide +kernel
theorem dX9_isTied_16 : decode cX9_isTied 16 = .ok (.aload_n 0, 1) := by decide +kernel
theorem dX9_isTied_17 : decode cX9_isTied 17 = .ok (.getfield 19, 3) := by decide +kernel
theorem dX9_isTied_20 : decode cX9_isTied 20 = .ok (.iload_n 1, 1) := by decide +kernel
theorem dX9_isTied_21 : decode cX9_isTied 21 = .ok (.iaload, 1) := by decide +kernel
theorem dX9_isTied_22 : decode cX9_isTied 22 = .ok (.iload_n 2, 1) := by decide +kernel
theorem dX9_isTied_23 : decode cX9_isTied 23 = .ok (.ishr, 1) := by decide +kernel
theorem dX9_isTied_24 : decode cX9_isTied 24 = .ok (.iconst 1, 1) := by decide +kernel
theorem dX9_isTied_25 : decode cX9_isTied 25 = .ok (.iand, 1) := by decide +kernel
theorem dX9_isTied_26 : decode cX9_isTied 26 = .ok (.iconst 1, 1) := by decide +kernel
theorem dX9_isTied_27 : decode cX9_isTied 27 = .ok (.if_icmp .ne 7, 3) := by decide +kernel
theorem dX9_isTied_30 : decode cX9_isTied 30 = .ok (.iconst 1, 1) := by decide +kernel
theorem dX9_isTied_31 : decode cX9_isTied 31 = .ok (.goto 4, 3) := by decide +kernel
theorem dX9_isTied_34 : decode cX9_isTied 34 = .ok (.iconst 0, 1) := by decide +kernel
theorem dX9_isTied_35 : decode cX9_isTied 35 = .ok (.ireturn, 1) := by decide +kernel
theorem dX9_setMark_0 : decode cX9_setMark 0 = .ok (.aload_n 0, 1) := by decide +kernel
theorem dX9_setMark_1 : decode cX9_setMark 1 = .ok (.iload_n 1, 1) := by decide +kernel
theorem dX9_setMark_2 : decode cX9_setMark 2 = .ok (.invokevirtual 37, 3) := by decide +kernel
theorem dX9_setMark_5 : decode cX9_setMark 5 = .ok (.ifCond .ne 5, 3) := by decide +kernel
theorem dX9_setMark_8 : decode cX9_setMark 8 = .ok (.iconst 0, 1) := by decide +kernel
theorem dX9_setMark_9 : decode cX9_setMark 9 = .ok (.ireturn, 1) := by decide +kernel
theorem dX9_setMark_10 : decode cX9_setMark 10 = .ok (.aload_n 0, 1) := by decide +kernel
theorem dX9_setMark_11 : decode cX9_setMark 11 = .ok (.getfield 15, 3) := by decide +kernel
theorem dX9_setMark_14 : decode cX9_setMark 14 = .ok (.iload_n 1, 1) := by decide +kernel
theorem dX9_setMark_15 : decode cX9_setMark 15 = .ok (.iaload, 1) := by decide +kernel
theorem dX9_setMark_16 : decode cX9_setMark 16 = .ok (.istore 4, 2) := by decide +kernel
theorem dX9_setMark_18 : decode cX9_setMark 18 = .ok (.aload_n 0, 1) := by decide +kernel
theorem dX9_setMark_19 : decode cX9_setMark 19 = .ok (.getfield 15, 3) := by decide +kernel
theorem dX9_setMark_22 : decode cX9_setMark 22 = .ok (.iload_n 1, 1) := by decide +kernel
theorem dX9_setMark_23 : decode cX9_setMark 23 = .ok (.iload 4, 2) := by decide +kernel
theorem dX9_setMark_25 : decode cX9_setMark 25 = .ok (.iload_n 2, 1) := by decide +kernel
theorem dX9_setMark_26 : decode cX9_setMark 26 = .ok (.iload_n 3, 1) := by decide +kernel
theorem dX9_setMark_27 : decode cX9_setMark 27 = .ok (.invokestatic 48, 3) := by decide +kernel
theorem dX9_setMark_30 : decode cX9_setMark 30 = .ok (.iastore, 1) := by decide +kernel
theorem dX9_setMark_31 : decode cX9_setMark 31 = .ok (.aload_n 0, 1) := by decide +kernel
theorem dX9_setMark_32 : decode cX9_setMark 32 = .ok (.getfield 15, 3) := by decide +kernel
theorem dX9_setMark_35 : decode cX9_setMark 35 = .ok (.iload_n 1, 1) := by decide +kernel
theorem dX9_setMark_36 : decode cX9_setMark 36 = .ok (.iaload, 1) := by decide +kernel
theorem dX9_setMark_37 : decode cX9_setMark 37 = .ok (.iload 4, 2) := by decide +kernel
theorem dX9_setMark_39 : decode cX9_setMark 39 = .ok (.if_icmp .eq 7, 3) := by decide +kernel
theorem dX9_setMark_42 : decode cX9_setMark 42 = .ok (.iconst 1, 1) := by decide +kernel
theorem dX9_setMark_43 : decode cX9_setMark 43 = .ok (.goto 4, 3) := by decide +kernel
theorem dX9_setMark_46 : decode cX9_setMark 46 = .ok (.iconst 0, 1) := by decide +kernel
theorem dX9_setMark_47 : decode cX9_setMark 47 = .ok (.ireturn, 1) := by decide +kernel
theorem dX9_setTie_0 : decode cX9_setTie 0 = .ok (.aload_n 0, 1) := by decide +kernel
theorem dX9_setTie_1 : decode cX9_setTie 1 = .ok (.iload_n 1, 1) := by decide +kernel
theorem dX9_setTie_2 : decode cX9_setTie 2 = .ok (.invokevirtual 37, 3) := by decide +kernel
theorem dX9_setTie_5 : decode cX9_setTie 5 = .ok (.ifCond .eq 11, 3) := by decide +kernel
theorem dX9_setTie_8 : decode cX9_setTie 8 = .ok (.aload_n 0, 1) := by decide +kernel
theorem dX9_setTie_9 : decode cX9_setTie 9 = .ok (.iload_n 2, 1) := by decide +kernel
theorem dX9_setTie_10 : decode cX9_setTie 10 = .ok (.invokevirtual 37, 3) := by decide +kernel
theorem dX9_setTie_13 : decode cX9_setTie 13 = .ok (.ifCond .ne 5, 3) := by decide +kernel
theorem dX9_setTie_16 : decode cX9_setTie 16 = .ok (.iconst 0, 1) := by decide +kernel
theorem dX9_setTie_17 : decode cX9_setTie 17 = .ok (.ireturn, 1) := by decide +kernel
theorem dX9_setTie_18 : decode cX9_setTie 18 = .ok (.aload_n 0, 1) := by decide +kernel
theorem dX9_setTie_19 : decode cX9_setTie 19 = .ok (.getfield 19, 3) := by decide +kernel
theorem dX9_setTie_22 : decode cX9_setTie 22 = .ok (.iload_n 1, 1) := by decide +kernel
theorem dX9_setTie_23 : decode cX9_setTie 23 = .ok (.iaload, 1) := by decide +kernel
theorem dX9_setTie_24 : decode cX9_setTie 24 = .ok (.istore 4, 2) := by decide +kernel
theorem dX9_setTie_26 : decode cX9_setTie 26 = .ok (.aload_n 0, 1) := by decide +kernel
theorem dX9_setTie_27 : decode cX9_setTie 27 = .ok (.getfield 19, 3) := by decide +kernel
theorem dX9_setTie_30 : decode cX9_setTie 30 = .ok (.iload_n 1, 1) := by decide +kernel
theorem dX9_setTie_31 : decode cX9_setTie 31 = .ok (.iload 4, 2) := by decide +kernel
theorem dX9_setTie_33 : decode cX9_setTie 33 = .ok (.iload_n 2, 1) := by decide +kernel
theorem dX9_setTie_34 : decode cX9_setTie 34 = .ok (.iload_n 3, 1) := by decide +kernel
theorem dX9_setTie_35 : decode cX9_setTie 35 = .ok (.invokestatic 48, 3) := by decide +kernel
theorem dX9_setTie_38 : decode cX9_setTie 38 = .ok (.iastore, 1) := by decide +kernel
theorem dX9_setTie_39 : decode cX9_setTie 39 = .ok (.aload_n 0, 1) := by decide +kernel
theorem dX9_setTie_40 : decode cX9_setTie 40 = .ok (.getfield 19, 3) := by decide +kernel
theorem dX9_setTie_43 : decode cX9_setTie 43 = .ok (.iload_n 1, 1) := by decide +kernel
theorem dX9_setTie_44 : decode cX9_setTie 44 = .ok (.iaload, 1) := by decide +kernel
theorem dX9_setTie_45 : decode cX9_setTie 45 = .ok (.iload 4, 2) := by decide +kernel
theorem dX9_setTie_47 : decode cX9_setTie 47 = .ok (.if_icmp .eq 7, 3) := by decide +kernel
theorem dX9_setTie_50 : decode cX9_setTie 50 = .ok (.iconst 1, 1) := by decide +kernel
theorem dX9_setTie_51 : decode cX9_setTie 51 = .ok (.goto 4, 3) := by decide +kernel
theorem dX9_setTie_54 : decode cX9_setTie 54 = .ok (.iconst 0, 1) := by decide +kernel
theorem dX9_setTie_55 : decode cX9_setTie 55 = .ok (.ireturn, 1) := by decide +kernel
theorem dX9_withBit_0 : decode cX9_withBit 0 = .ok (.iload_n 2, 1) := by decide +kernel
theorem dX9_withBit_1 : decode cX9_withBit 1 = .ok (.ifCond .eq 11, 3) := by decide +kernel
theorem dX9_withBit_4 : decode cX9_withBit 4 = .ok (.iload_n 0, 1) := by decide +kernel
theorem dX9_withBit_5 : decode cX9_withBit 5 = .ok (.iconst 1, 1) := by decide +kernel
theorem dX9_withBit_6 : decode cX9_withBit 6 = .ok (.iload_n 1, 1) := by decide +kernel
theorem dX9_withBit_7 : decode cX9_withBit 7 = .ok (.ishl, 1) := by decide +kernel
theorem dX9_withBit_8 : decode cX9_withBit 8 = .ok (.ior, 1) := by decide +kernel
theorem dX9_withBit_9 : decode cX9_withBit 9 = .ok (.goto 10, 3) := by decide +kernel
theorem dX9_withBit_12 : decode cX9_withBit 12 = .ok (.iload_n 0, 1) := by decide +kernel
theorem dX9_withBit_13 : decode cX9_withBit 13 = .ok (.iconst 1, 1) := by decide +kernel
theorem dX9_withBit_14 : decode cX9_withBit 14 = .ok (.iload_n 1, 1) := by decide +kernel
theorem dX9_withBit_15 : decode cX9_withBit 15 = .ok (.ishl, 1) := by decide +kernel
theorem dX9_withBit_16 : decode cX9_withBit 16 = .ok (.iconst (-1), 1) := by decide +kernel
theorem dX9_withBit_17 : decode cX9_withBit 17 = .ok (.ixor, 1) := by decide +kernel
theorem dX9_withBit_18 : decode cX9_withBit 18 = .ok (.iand, 1) := by decide +kernel
theorem dX9_withBit_19 : decode cX9_withBit 19 = .ok (.ireturn, 1) := by decide +kernel
theorem dX9_countMarked_0 : decode cX9_countMarked 0 = .ok (.iconst 0, 1) := by decide +kernel
theorem dX9_countMarked_1 : decode cX9_countMarked 1 = .ok (.istore_n 2, 1) := by decide +kernel
theorem dX9_countMarked_2 : decode cX9_countMarked 2 = .ok (.iconst 0, 1) := by decide +kernel
theorem dX9_countMarked_3 : decode cX9_countMarked 3 = .ok (.istore_n 3, 1) := by decide +kernel
theorem dX9_countMarked_4 : decode cX9_countMarked 4 = .ok (.iload_n 3, 1) := by decide +kernel
theorem dX9_countMarked_5 : decode cX9_countMarked 5 = .ok (.aload_n 0, 1) := by decide +kernel
theorem dX9_countMarked_6 : decode cX9_countMarked 6 = .ok (.getfield 9, 3) := by decide +kernel
theorem dX9_countMarked_9 : decode cX9_countMarked 9 = .ok (.if_icmp .ge 21, 3) := by decide +kernel
theorem dX9_countMarked_12 : decode cX9_countMarked 12 = .ok (.iload_n 2, 1) := by decide +kernel
theorem dX9_countMarked_13 : decode cX9_countMarked 13 = .ok (.aload_n 0, 1) := by decide +kernel
theorem dX9_countMarked_14 : decode cX9_countMarked 14 = .ok (.iload_n 3, 1) := by decide +kernel
theorem dX9_countMarked_15 : decode cX9_countMarked 15 = .ok (.invokevirtual 41, 3) := by decide +kernel
theorem dX9_countMarked_18 : decode cX9_countMarked 18 = .ok (.iload_n 1, 1) := by decide +kernel
theorem dX9_countMarked_19 : decode cX9_countMarked 19 = .ok (.ishr, 1) := by decide +kernel
theorem dX9_countMarked_20 : decode cX9_countMarked 20 = .ok (.iconst 1, 1) := by decide +kernel
theorem dX9_countMarked_21 : decode cX9_countMarked 21 = .ok (.iand, 1) := by decide +kernel
theorem dX9_countMarked_22 : decode cX9_countMarked 22 = .ok (.iadd, 1) := by decide +kernel
theorem dX9_countMarked_23 : decode cX9_countMarked 23 = .ok (.istore_n 2, 1) := by decide +kernel
theorem dX9_countMarked_24 : decode cX9_countMarked 24 = .ok (.iinc 3 1, 3) := by decide +kernel
theorem dX9_countMarked_27 : decode cX9_countMarked 27 = .ok (.goto (-23), 3) := by decide +kernel
theorem dX9_countMarked_30 : decode cX9_countMarked 30 = .ok (.iload_n 2, 1) := by decide +kernel
theorem dX9_countMarked_31 : decode cX9_countMarked 31 = .ok (.ireturn, 1) := by decide +kernel
theorem dX9_countTies_0 : decode cX9_countTies 0 = .ok (.iconst 0, 1) := by decide +kernel
theorem dX9_countTies_1 : decode cX9_countTies 1 = .ok (.istore_n 1, 1) := by decide +kernel
theorem dX9_countTies_2 : decode cX9_countTies 2 = .ok (.iconst 0, 1) := by decide +kernel
theorem dX9_countTies_3 : decode cX9_countTies 3 = .ok (.istore_n 2, 1) := by decide +kernel
theorem dX9_countTies_4 : decode cX9_countTies 4 = .ok (.iload_n 2, 1) := by decide +kernel
theorem dX9_countTies_5 : decode cX9_countTies 5 = .ok (.aload_n 0, 1) := by decide +kernel
theorem dX9_countTies_6 : decode cX9_countTies 6 = .ok (.getfield 9, 3) := by decide +kernel
theorem dX9_countTies_9 : decode cX9_countTies 9 = .ok (.if_icmp .ge 20, 3) := by decide +kernel
theorem dX9_countTies_12 : decode cX9_countTies 12 = .ok (.iload_n 1, 1) := by decide +kernel
theorem dX9_countTies_13 : decode cX9_countTies 13 = .ok (.aload_n 0, 1) := by decide +kernel
theorem dX9_countTies_14 : decode cX9_countTies 14 = .ok (.iload_n 2, 1) := by decide +kernel
theorem dX9_countTies_15 : decode cX9_countTies 15 = .ok (.invokevirtual 45, 3) := by decide +kernel
theorem dX9_countTies_18 : decode cX9_countTies 18 = .ok (.invokestatic 52, 3) := by decide +kernel
theorem dX9_countTies_21 : decode cX9_countTies 21 = .ok (.iadd, 1) := by decide +kernel
theorem dX9_countTies_22 : decode cX9_countTies 22 = .ok (.istore_n 1, 1) := by decide +kernel
theorem dX9_countTies_23 : decode cX9_countTies 23 = .ok (.iinc 2 1, 3) := by decide +kernel
theorem dX9_countTies_26 : decode cX9_countTies 26 = .ok (.goto (-22), 3) := by decide +kernel
theorem dX9_countTies_29 : decode cX9_countTies 29 = .ok (.iload_n 1, 1) := by decide +kernel
theorem dX9_countTies_30 : decode cX9_countTies 30 = .ok (.ireturn, 1) := by decide +kernel
theorem dX9_looks_0 : decode cX9_looks 0 = .ok (.aload_n 0, 1) := by decide +kernel
theorem dX9_looks_1 : decode cX9_looks 1 = .ok (.iload_n 1, 1) := by decide +kernel
theorem dX9_looks_2 : decode cX9_looks 2 = .ok (.invokevirtual 37, 3) := by decide +kernel
theorem dX9_looks_5 : decode cX9_looks 5 = .ok (.ifCond .eq 25, 3) := by decide +kernel
theorem dX9_looks_8 : decode cX9_looks 8 = .ok (.aload_n 0, 1) := by decide +kernel
theorem dX9_looks_9 : decode cX9_looks 9 = .ok (.getfield 15, 3) := by decide +kernel
theorem dX9_looks_12 : decode cX9_looks 12 = .ok (.iload_n 1, 1) := by decide +kernel
theorem dX9_looks_13 : decode cX9_looks 13 = .ok (.iaload, 1) := by decide +kernel
theorem dX9_looks_14 : decode cX9_looks 14 = .ok (.aload_n 0, 1) := by decide +kernel
theorem dX9_looks_15 : decode cX9_looks 15 = .ok (.getfield 19, 3) := by decide +kernel
theorem dX9_looks_18 : decode cX9_looks 18 = .ok (.iload_n 1, 1) := by decide +kernel
theorem dX9_looks_19 : decode cX9_looks 19 = .ok (.iaload, 1) := by decide +kernel
theorem dX9_looks_20 : decode cX9_looks 20 = .ok (.iload_n 1, 1) := by decide +kernel
theorem dX9_looks_21 : decode cX9_looks 21 = .ok (.ishr, 1) := by decide +kernel
theorem dX9_looks_22 : decode cX9_looks 22 = .ok (.iconst 1, 1) := by decide +kernel
theorem dX9_looks_23 : decode cX9_looks 23 = .ok (.iand, 1) := by decide +kernel
theorem dX9_looks_24 : decode cX9_looks 24 = .ok (.iconst 2, 1) := by decide +kernel
theorem dX9_looks_25 : decode cX9_looks 25 = .ok (.ishl, 1) := by decide +kernel
theorem dX9_looks_26 : decode cX9_looks 26 = .ok (.ior, 1) := by decide +kernel
theorem dX9_looks_27 : decode cX9_looks 27 = .ok (.goto 4, 3) := by decide +kernel
theorem dX9_looks_30 : decode cX9_looks 30 = .ok (.iconst 0, 1) := by decide +kernel
theorem dX9_looks_31 : decode cX9_looks 31 = .ok (.ireturn, 1) := by decide +kernel
theorem dX9_bond_0 : decode cX9_bond 0 = .ok (.aload_n 0, 1) := by decide +kernel
theorem dX9_bond_1 : decode cX9_bond 1 = .ok (.iload_n 1, 1) := by decide +kernel
theorem dX9_bond_2 : decode cX9_bond 2 = .ok (.invokevirtual 37, 3) := by decide +kernel
theorem dX9_bond_5 : decode cX9_bond 5 = .ok (.ifCond .eq 11, 3) := by decide +kernel
theorem dX9_bond_8 : decode cX9_bond 8 = .ok (.aload_n 0, 1) := by decide +kernel
theorem dX9_bond_9 : decode cX9_bond 9 = .ok (.iload_n 2, 1) := by decide +kernel
theorem dX9_bond_10 : decode cX9_bond 10 = .ok (.invokevirtual 37, 3) := by decide +kernel
theorem dX9_bond_13 : decode cX9_bond 13 = .ok (.ifCond .ne 5, 3) := by decide +kernel
theorem dX9_bond_16 : decode cX9_bond 16 = .ok (.iconst 0, 1) := by decide +kernel
theorem dX9_bond_17 : decode cX9_bond 17 = .ok (.ireturn, 1) := by decide +kernel
theorem dX9_bond_18 : decode cX9_bond 18 = .ok (.iload_n 1, 1) := by decide +kernel
theorem dX9_bond_19 : decode cX9_bond 19 = .ok (.iload_n 2, 1) := by decide +kernel
theorem dX9_bond_20 : decode cX9_bond 20 = .ok (.if_icmp .ne 7, 3) := by decide +kernel
theorem dX9_bond_23 : decode cX9_bond 23 = .ok (.iconst 1, 1) := by decide +kernel
theorem dX9_bond_24 : decode cX9_bond 24 = .ok (.goto 4, 3) := by decide +kernel
theorem dX9_bond_27 : decode cX9_bond 27 = .ok (.iconst 0, 1) := by decide +kernel
theorem dX9_bond_28 : decode cX9_bond 28 = .ok (.aload_n 0, 1) := by decide +kernel
theorem dX9_bond_29 : decode cX9_bond 29 = .ok (.getfield 19, 3) := by decide +kernel
theorem dX9_bond_32 : decode cX9_bond 32 = .ok (.iload_n 1, 1) := by decide +kernel
theorem dX9_bond_33 : decode cX9_bond 33 = .ok (.iaload, 1) := by decide +kernel
theorem dX9_bond_34 : decode cX9_bond 34 = .ok (.iload_n 2, 1) := by decide +kernel
theorem dX9_bond_35 : decode cX9_bond 35 = .ok (.ishr, 1) := by decide +kernel
theorem dX9_bond_36 : decode cX9_bond 36 = .ok (.iconst 1, 1) := by decide +kernel
theorem dX9_bond_37 : decode cX9_bond 37 = .ok (.iand, 1) := by decide +kernel
theorem dX9_bond_38 : decode cX9_bond 38 = .ok (.iconst 1, 1) := by decide +kernel
theorem dX9_bond_39 : decode cX9_bond 39 = .ok (.ishl, 1) := by decide +kernel
theorem dX9_bond_40 : decode cX9_bond 40 = .ok (.ior, 1) := by decide +kernel
theorem dX9_bond_41 : decode cX9_bond 41 = .ok (.aload_n 0, 1) := by decide +kernel
theorem dX9_bond_42 : decode cX9_bond 42 = .ok (.getfield 19, 3) := by decide +kernel
theorem dX9_bond_45 : decode cX9_bond 45 = .ok (.iload_n 2, 1) := by decide +kernel
theorem dX9_bond_46 : decode cX9_bond 46 = .ok (.iaload, 1) := by decide +kernel
theorem dX9_bond_47 : decode cX9_bond 47 = .ok (.iload_n 1, 1) := by decide +kernel
theorem dX9_bond_48 : decode cX9_bond 48 = .ok (.ishr, 1) := by decide +kernel
theorem dX9_bond_49 : decode cX9_bond 49 = .ok (.iconst 1, 1) := by decide +kernel
theorem dX9_bond_50 : decode cX9_bond 50 = .ok (.iand, 1) := by decide +kernel
theorem dX9_bond_51 : decode cX9_bond 51 = .ok (.iconst 2, 1) := by decide +kernel
theorem dX9_bond_52 : decode cX9_bond 52 = .ok (.ishl, 1) := by decide +kernel
theorem dX9_bond_53 : decode cX9_bond 53 = .ok (.ior, 1) := by decide +kernel
theorem dX9_bond_54 : decode cX9_bond 54 = .ok (.ireturn, 1) := by decide +kernel
theorem dX9_holdsAtom_0 : decode cX9_holdsAtom 0 = .ok (.iload_n 1, 1) := by decide +kernel
theorem dX9_holdsAtom_1 : decode cX9_holdsAtom 1 = .ok (.tableswitch 101 61 69 #[90, 101, 101, 101, 51, 67, 101, 101, 83], 51) := by decide +kernel
theorem dX9_holdsAtom_52 : decode cX9_holdsAtom 52 = .ok (.aload_n 0, 1) := by decide +kernel
theorem dX9_holdsAtom_53 : decode cX9_holdsAtom 53 = .ok (.iload_n 2, 1) := by decide +kernel
theorem dX9_holdsAtom_54 : decode cX9_holdsAtom 54 = .ok (.invokevirtual 41, 3) := by decide +kernel
theorem dX9_holdsAtom_57 : decode cX9_holdsAtom 57 = .ok (.iconst 1, 1) := by decide +kernel
theorem dX9_holdsAtom_58 : decode cX9_holdsAtom 58 = .ok (.iand, 1) := by decide +kernel
theorem dX9_holdsAtom_59 : decode cX9_holdsAtom 59 = .ok (.ifCond .eq 7, 3) := by decide +kernel
theorem dX9_holdsAtom_62 : decode cX9_holdsAtom 62 = .ok (.iconst 1, 1) := by decide +kernel
theorem dX9_holdsAtom_63 : decode cX9_holdsAtom 63 = .ok (.goto 4, 3) := by decide +kernel
theorem dX9_holdsAtom_66 : decode cX9_holdsAtom 66 = .ok (.iconst 0, 1) := by decide +kernel
theorem dX9_holdsAtom_67 : decode cX9_holdsAtom 67 = .ok (.ireturn, 1) := by decide +kernel
theorem dX9_holdsAtom_68 : decode cX9_holdsAtom 68 = .ok (.aload_n 0, 1) := by decide +kernel
theorem dX9_holdsAtom_69 : decode cX9_holdsAtom 69 = .ok (.iload_n 2, 1) := by decide +kernel
theorem dX9_holdsAtom_70 : decode cX9_holdsAtom 70 = .ok (.invokevirtual 41, 3) := by decide +kernel
theorem dX9_holdsAtom_73 : decode cX9_holdsAtom 73 = .ok (.iconst 2, 1) := by decide +kernel
theorem dX9_holdsAtom_74 : decode cX9_holdsAtom 74 = .ok (.iand, 1) := by decide +kernel
theorem dX9_holdsAtom_75 : decode cX9_holdsAtom 75 = .ok (.ifCond .eq 7, 3) := by decide +kernel
theorem dX9_holdsAtom_78 : decode cX9_holdsAtom 78 = .ok (.iconst 1, 1) := by decide +kernel
theorem dX9_holdsAtom_79 : decode cX9_holdsAtom 79 = .ok (.goto 4, 3) := by decide +kernel
theorem dX9_holdsAtom_82 : decode cX9_holdsAtom 82 = .ok (.iconst 0, 1) := by decide +kernel
theorem dX9_holdsAtom_83 : decode cX9_holdsAtom 83 = .ok (.ireturn, 1) := by decide +kernel
theorem dX9_holdsAtom_84 : decode cX9_holdsAtom 84 = .ok (.aload_n 0, 1) := by decide +kernel
theorem dX9_holdsAtom_85 : decode cX9_holdsAtom 85 = .ok (.iload_n 2, 1) := by decide +kernel
theorem dX9_holdsAtom_86 : decode cX9_holdsAtom 86 = .ok (.iload_n 3, 1) := by decide +kernel
theorem dX9_holdsAtom_87 : decode cX9_holdsAtom 87 = .ok (.invokevirtual 57, 3) := by decide +kernel
theorem dX9_holdsAtom_90 : decode cX9_holdsAtom 90 = .ok (.ireturn, 1) := by decide +kernel
theorem dX9_holdsAtom_91 : decode cX9_holdsAtom 91 = .ok (.iload_n 2, 1) := by decide +kernel
theorem dX9_holdsAtom_92 : decode cX9_holdsAtom 92 = .ok (.iload_n 3, 1) := by decide +kernel
theorem dX9_holdsAtom_93 : decode cX9_holdsAtom 93 = .ok (.if_icmp .ne 7, 3) := by decide +kernel
theorem dX9_holdsAtom_96 : decode cX9_holdsAtom 96 = .ok (.iconst 1, 1) := by decide +kernel
theorem dX9_holdsAtom_97 : decode cX9_holdsAtom 97 = .ok (.goto 4, 3) := by decide +kernel
theorem dX9_holdsAtom_100 : decode cX9_holdsAtom 100 = .ok (.iconst 0, 1) := by decide +kernel
theorem dX9_holdsAtom_101 : decode cX9_holdsAtom 101 = .ok (.ireturn, 1) := by decide +kernel
theorem dX9_holdsAtom_102 : decode cX9_holdsAtom 102 = .ok (.iload_n 1, 1) := by decide +kernel
theorem dX9_holdsAtom_103 : decode cX9_holdsAtom 103 = .ok (.bipush 84, 2) := by decide +kernel
theorem dX9_holdsAtom_105 : decode cX9_holdsAtom 105 = .ok (.if_icmp .ne 7, 3) := by decide +kernel
theorem dX9_holdsAtom_108 : decode cX9_holdsAtom 108 = .ok (.iconst 1, 1) := by decide +kernel
theorem dX9_holdsAtom_109 : decode cX9_holdsAtom 109 = .ok (.goto 4, 3) := by decide +kernel
theorem dX9_holdsAtom_112 : decode cX9_holdsAtom 112 = .ok (.iconst 0, 1) := by decide +kernel
theorem dX9_holdsAtom_113 : decode cX9_holdsAtom 113 = .ok (.ireturn, 1) := by decide +kernel
theorem dX10_init_0 : decode cX10_init 0 = .ok (.aload_n 0, 1) := by decide +kernel
theorem dX10_init_1 : decode cX10_init 1 = .ok (.invokespecial 3, 3) := by decide +kernel
theorem dX10_init_4 : decode cX10_init 4 = .ok (.aload_n 0, 1) := by decide +kernel
theorem dX10_init_5 : decode cX10_init 5 = .ok (.sipush 1300, 3) := by decide +kernel
theorem dX10_init_8 : decode cX10_init 8 = .ok (.newarray .byte, 2) := by decide +kernel
theorem dX10_init_10 : decode cX10_init 10 = .ok (.putfield 9, 3) := by decide +kernel
theorem dX10_init_13 : decode cX10_init 13 = .ok (.aload_n 0, 1) := by decide +kernel
theorem dX10_init_14 : decode cX10_init 14 = .ok (.iconst 0, 1) := by decide +kernel
theorem dX10_init_15 : decode cX10_init 15 = .ok (.putfield 15, 3) := by decide +kernel
theorem dX10_init_18 : decode cX10_init 18 = .ok (.return_, 1) := by decide +kernel
theorem dX10_write_0 : decode cX10_write 0 = .ok (.aload_n 0, 1) := by decide +kernel
theorem dX10_write_1 : decode cX10_write 1 = .ok (.iconst 0, 1) := by decide +kernel
theorem dX10_write_2 : decode cX10_write 2 = .ok (.putfield 15, 3) := by decide +kernel
theorem dX10_write_5 : decode cX10_write 5 = .ok (.aload_n 0, 1) := by decide +kernel
theorem dX10_write_6 : decode cX10_write 6 = .ok (.aload_n 1, 1) := by decide +kernel
theorem dX10_write_7 : decode cX10_write 7 = .ok (.iconst 0, 1) := by decide +kernel
theorem dX10_write_8 : decode cX10_write 8 = .ok (.iconst 0, 1) := by decide +kernel
theorem dX10_write_9 : decode cX10_write 9 = .ok (.iconst 0, 1) := by decide +kernel
theorem dX10_write_10 : decode cX10_write 10 = .ok (.invokevirtual 19, 3) := by decide +kernel
theorem dX10_write_13 : decode cX10_write 13 = .ok (.aload_n 0, 1) := by decide +kernel
theorem dX10_write_14 : decode cX10_write 14 = .ok (.getfield 9, 3) := by decide +kernel
theorem dX10_write_17 : decode cX10_write 17 = .ok (.iconst 0, 1) := by decide +kernel
theorem dX10_write_18 : decode cX10_write 18 = .ok (.aload_n 0, 1) := by decide +kernel
theorem dX10_write_19 : decode cX10_write 19 = .ok (.getfield 15, 3) := by decide +kernel
theorem dX10_write_22 : decode cX10_write 22 = .ok (.aload_n 0, 1) := by decide +kernel
theorem dX10_write_23 : decode cX10_write 23 = .ok (.getfield 9, 3) := by decide +kernel
theorem dX10_write_26 : decode cX10_write 26 = .ok (.arraylength, 1) := by decide +kernel
theorem dX10_write_27 : decode cX10_write 27 = .ok (.invokestatic 23, 3) := by decide +kernel
theorem dX10_write_30 : decode cX10_write 30 = .ok (.invokestatic 29, 3) := by decide +kernel
theorem dX10_write_33 : decode cX10_write 33 = .ok (.invokestatic 32, 3) := by decide +kernel
theorem dX10_write_36 : decode cX10_write 36 = .ok (.areturn, 1) := by decide +kernel
theorem dX10_writeFrom_0 : decode cX10_writeFrom 0 = .ok (.iload_n 2, 1) := by decide +kernel
theorem dX10_writeFrom_1 : decode cX10_writeFrom 1 = .ok (.ifCond .lt 16, 3) := by decide +kernel
theorem dX10_writeFrom_4 : decode cX10_writeFrom 4 = .ok (.iload_n 2, 1) := by decide +kernel
theorem dX10_writeFrom_5 : decode cX10_writeFrom 5 = .ok (.aload_n 1, 1) := by decide +kernel
theorem dX10_writeFrom_6 : decode cX10_writeFrom 6 = .ok (.arraylength, 1) := by decide +kernel
theorem dX10_writeFrom_7 : decode cX10_writeFrom 7 = .ok (.if_icmp .ge 10, 3) := by decide +kernel
theorem dX10_writeFrom_10 : decode cX10_writeFrom 10 = .ok (.iload 4, 2) := by decide +kernel
theorem dX10_writeFrom_12 : decode cX10_writeFrom 12 = .ok (.bipush 30, 2) := by decide +kernel
theorem dX10_writeFrom_14 : decode cX10_writeFrom 14 = .ok (.if_icmp .le 4, 3) := by decide +kernel
theorem dX10_writeFrom_17 : decode cX10_writeFrom 17 = .ok (.return_, 1) := by decide +kernel
theorem dX10_writeFrom_18 : decode cX10_writeFrom 18 = .ok (.aload_n 1, 1) := by decide +kernel
theorem dX10_writeFrom_19 : decode cX10_writeFrom 19 = .ok (.iload_n 2, 1) := by decide +kernel
theorem dX10_writeFrom_20 : decode cX10_writeFrom 20 = .ok (.iaload, 1) := by decide +kernel
theorem dX10_writeFrom_21 : decode cX10_writeFrom 21 = .ok (.invokestatic 38, 3) := by decide +kernel
theorem dX10_writeFrom_24 : decode cX10_writeFrom 24 = .ok (.istore 5, 2) := by decide +kernel
theorem dX10_writeFrom_26 : decode cX10_writeFrom 26 = .ok (.iload 5, 2) := by decide +kernel
theorem dX10_writeFrom_28 : decode cX10_writeFrom 28 = .ok (.invokestatic 44, 3) := by decide +kernel
theorem dX10_writeFrom_31 : decode cX10_writeFrom 31 = .ok (.ifCond .eq 13, 3) := by decide +kernel
theorem dX10_writeFrom_34 : decode cX10_writeFrom 34 = .ok (.aload_n 0, 1) := by decide +kernel
theorem dX10_writeFrom_35 : decode cX10_writeFrom 35 = .ok (.aload_n 1, 1) := by decide +kernel
theorem dX10_writeFrom_36 : decode cX10_writeFrom 36 = .ok (.iload_n 2, 1) := by decide +kernel
theorem dX10_writeFrom_37 : decode cX10_writeFrom 37 = .ok (.iload_n 3, 1) := by decide +kernel
theorem dX10_writeFrom_38 : decode cX10_writeFrom 38 = .ok (.iload 4, 2) := by decide +kernel
theorem dX10_writeFrom_40 : decode cX10_writeFrom 40 = .ok (.invokevirtual 48, 3) := by decide +kernel
theorem dX10_writeFrom_43 : decode cX10_writeFrom 43 = .ok (.return_, 1) := by decide +kernel
theorem dX10_writeFrom_44 : decode cX10_writeFrom 44 = .ok (.aload_n 0, 1) := by decide +kernel
theorem dX10_writeFrom_45 : decode cX10_writeFrom 45 = .ok (.iload 5, 2) := by decide +kernel
theorem dX10_writeFrom_47 : decode cX10_writeFrom 47 = .ok (.invokevirtual 51, 3) := by decide +kernel
theorem dX10_writeFrom_50 : decode cX10_writeFrom 50 = .ok (.aload_n 0, 1) := by decide +kernel
theorem dX10_writeFrom_51 : decode cX10_writeFrom 51 = .ok (.aload_n 1, 1) := by decide +kernel
theorem dX10_writeFrom_52 : decode cX10_writeFrom 52 = .ok (.iload_n 2, 1) := by decide +kernel
theorem dX10_writeFrom_53 : decode cX10_writeFrom 53 = .ok (.iaload, 1) := by decide +kernel
theorem dX10_writeFrom_54 : decode cX10_writeFrom 54 = .ok (.invokestatic 55, 3) := by decide +kernel
theorem dX10_writeFrom_57 : decode cX10_writeFrom 57 = .ok (.invokevirtual 58, 3) := by decide +kernel
theorem dX10_writeFrom_60 : decode cX10_writeFrom 60 = .ok (.aload_n 0, 1) := by decide +kernel
theorem dX10_writeFrom_61 : decode cX10_writeFrom 61 = .ok (.aload_n 1, 1) := by decide +kernel
theorem dX10_writeFrom_62 : decode cX10_writeFrom 62 = .ok (.iload_n 2, 1) := by decide +kernel
theorem dX10_writeFrom_63 : decode cX10_writeFrom 63 = .ok (.iaload, 1) := by decide +kernel
theorem dX10_writeFrom_64 : decode cX10_writeFrom 64 = .ok (.invokestatic 61, 3) := by decide +kernel
theorem dX10_writeFrom_67 : decode cX10_writeFrom 67 = .ok (.invokevirtual 58, 3) := by decide +kernel
theorem dX10_writeFrom_70 : decode cX10_writeFrom 70 = .ok (.iload 5, 2) := by decide +kernel
theorem dX10_writeFrom_72 : decode cX10_writeFrom 72 = .ok (.bipush 45, 2) := by decide +kernel
theorem dX10_writeFrom_74 : decode cX10_writeFrom 74 = .ok (.if_icmp .eq 11, 3) := by decide +kernel
theorem dX10_writeFrom_77 : decode cX10_writeFrom 77 = .ok (.iload 5, 2) := by decide +kernel
theorem dX10_writeFrom_79 : decode cX10_writeFrom 79 = .ok (.invokestatic 64, 3) := by decide +kernel
theorem dX10_writeFrom_82 : decode cX10_writeFrom 82 = .ok (.ifCond .eq 16, 3) := by decide +kernel
theorem dX10_writeFrom_85 : decode cX10_writeFrom 85 = .ok (.aload_n 0, 1) := by decide +kernel
theorem dX10_writeFrom_86 : decode cX10_writeFrom 86 = .ok (.aload_n 1, 1) := by decide +kernel
theorem dX10_writeFrom_87 : decode cX10_writeFrom 87 = .ok (.iload_n 2, 1) := by decide +kernel
theorem dX10_writeFrom_88 : decode cX10_writeFrom 88 = .ok (.iconst 1, 1) := by decide +kernel
theorem dX10_writeFrom_89 : decode cX10_writeFrom 89 = .ok (.iadd, 1) := by decide +kernel
theorem dX10_writeFrom_90 : decode cX10_writeFrom 90 = .ok (.iconst 1, 1) := by decide +kernel
theorem dX10_writeFrom_91 : decode cX10_writeFrom 91 = .ok (.iload 4, 2) := by decide +kernel
theorem dX10_writeFrom_93 : decode cX10_writeFrom 93 = .ok (.iconst 1, 1) := by decide +kernel
theorem dX10_writeFrom_94 : decode cX10_writeFrom 94 = .ok (.iadd, 1) := by decide +kernel
theorem dX10_writeFrom_95 : decode cX10_writeFrom 95 = .ok (.invokevirtual 19, 3) := by decide +kernel
theorem dX10_writeFrom_98 : decode cX10_writeFrom 98 = .ok (.return_, 1) := by decide +kernel
theorem dX10_writeList_0 : decode cX10_writeList 0 = .ok (.iload_n 2, 1) := by decide +kernel
theorem dX10_writeList_1 : decode cX10_writeList 1 = .ok (.ifCond .lt 9, 3) := by decide +kernel
theorem dX10_writeList_4 : decode cX10_writeList 4 = .ok (.iload_n 2, 1) := by decide +kernel
theorem dX10_writeList_5 : decode cX10_writeList 5 = .ok (.aload_n 1, 1) := by decide +kernel
theorem dX10_writeList_6 : decode cX10_writeList 6 = .ok (.arraylength, 1) := by decide +kernel
theorem dX10_writeList_7 : decode cX10_writeList 7 = .ok (.if_icmp .lt 4, 3) := by decide +kernel
theorem dX10_writeList_10 : decode cX10_writeList 10 = .ok (.return_, 1) := by decide +kernel
theorem dX10_writeList_11 : decode cX10_writeList 11 = .ok (.aload_n 1, 1) := by decide +kernel
theorem dX10_writeList_12 : decode cX10_writeList 12 = .ok (.iload_n 2, 1) := by decide +kernel
theorem dX10_writeList_13 : decode cX10_writeList 13 = .ok (.iaload, 1) := by decide +kernel
theorem dX10_writeList_14 : decode cX10_writeList 14 = .ok (.invokestatic 38, 3) := by decide +kernel
theorem dX10_writeList_17 : decode cX10_writeList 17 = .ok (.istore 5, 2) := by decide +kernel
theorem dX10_writeList_19 : decode cX10_writeList 19 = .ok (.aload_n 1, 1) := by decide +kernel
theorem dX10_writeList_20 : decode cX10_writeList 20 = .ok (.arraylength, 1) := by decide +kernel
theorem dX10_writeList_21 : decode cX10_writeList 21 = .ok (.iload_n 2, 1) := by decide +kernel
theorem dX10_writeList_22 : decode cX10_writeList 22 = .ok (.aload_n 1, 1) := by decide +kernel
theorem dX10_writeList_23 : decode cX10_writeList 23 = .ok (.iload_n 2, 1) := by decide +kernel
theorem dX10_writeList_24 : decode cX10_writeList 24 = .ok (.iaload, 1) := by decide +kernel
theorem dX10_writeList_25 : decode cX10_writeList 25 = .ok (.invokestatic 67, 3) := by decide +kernel
theorem dX10_writeList_28 : decode cX10_writeList 28 = .ok (.iadd, 1) := by decide +kernel
theorem dX10_writeList_29 : decode cX10_writeList 29 = .ok (.invokestatic 23, 3) := by decide +kernel
theorem dX10_writeList_32 : decode cX10_writeList 32 = .ok (.istore 6, 2) := by decide +kernel
theorem dX10_writeList_34 : decode cX10_writeList 34 = .ok (.iload_n 3, 1) := by decide +kernel
theorem dX10_writeList_35 : decode cX10_writeList 35 = .ok (.ifCond .eq 9, 3) := by decide +kernel
theorem dX10_writeList_38 : decode cX10_writeList 38 = .ok (.aload_n 0, 1) := by decide +kernel
theorem dX10_writeList_39 : decode cX10_writeList 39 = .ok (.bipush 40, 2) := by decide +kernel
theorem dX10_writeList_41 : decode cX10_writeList 41 = .ok (.invokevirtual 51, 3) := by decide +kernel
theorem dX10_writeList_44 : decode cX10_writeList 44 = .ok (.iload_n 2, 1) := by decide +kernel
theorem dX10_writeList_45 : decode cX10_writeList 45 = .ok (.iconst 1, 1) := by decide +kernel
theorem dX10_writeList_46 : decode cX10_writeList 46 = .ok (.iadd, 1) := by decide +kernel
theorem dX10_writeList_47 : decode cX10_writeList 47 = .ok (.istore 7, 2) := by decide +kernel
theorem dX10_writeList_49 : decode cX10_writeList 49 = .ok (.iload 7, 2) := by decide +kernel
theorem dX10_writeList_51 : decode cX10_writeList 51 = .ok (.iload 6, 2) := by decide +kernel
theorem dX10_writeList_53 : decode cX10_writeList 53 = .ok (.if_icmp .ge 44, 3) := by decide +kernel
theorem dX10_writeList_56 : decode cX10_writeList 56 = .ok (.iload 7, 2) := by decide +kernel
theorem dX10_writeList_58 : decode cX10_writeList 58 = .ok (.iload_n 2, 1) := by decide +kernel
theorem dX10_writeList_59 : decode cX10_writeList 59 = .ok (.iconst 1, 1) := by decide +kernel
theorem dX10_writeList_60 : decode cX10_writeList 60 = .ok (.iadd, 1) := by decide +kernel
theorem dX10_writeList_61 : decode cX10_writeList 61 = .ok (.if_icmp .le 9, 3) := by decide +kernel
theorem dX10_writeList_64 : decode cX10_writeList 64 = .ok (.aload_n 0, 1) := by decide +kernel
theorem dX10_writeList_65 : decode cX10_writeList 65 = .ok (.iload 5, 2) := by decide +kernel
theorem dX10_writeList_67 : decode cX10_writeList 67 = .ok (.invokevirtual 51, 3) := by decide +kernel
theorem dX10_writeList_70 : decode cX10_writeList 70 = .ok (.aload_n 0, 1) := by decide +kernel
theorem dX10_writeList_71 : decode cX10_writeList 71 = .ok (.aload_n 1, 1) := by decide +kernel
theorem dX10_writeList_72 : decode cX10_writeList 72 = .ok (.iload 7, 2) := by decide +kernel
theorem dX10_writeList_74 : decode cX10_writeList 74 = .ok (.iconst 1, 1) := by decide +kernel
theorem dX10_writeList_75 : decode cX10_writeList 75 = .ok (.iload 4, 2) := by decide +kernel
theorem dX10_writeList_77 : decode cX10_writeList 77 = .ok (.iconst 1, 1) := by decide +kernel
theorem dX10_writeList_78 : decode cX10_writeList 78 = .ok (.iadd, 1) := by decide +kernel
theorem dX10_writeList_79 : decode cX10_writeList 79 = .ok (.invokevirtual 19, 3) := by decide +kernel
theorem dX10_writeList_82 : decode cX10_writeList 82 = .ok (.iload 7, 2) := by decide +kernel
theorem dX10_writeList_84 : decode cX10_writeList 84 = .ok (.aload_n 1, 1) := by decide +kernel
theorem dX10_writeList_85 : decode cX10_writeList 85 = .ok (.iload 7, 2) := by decide +kernel
theorem dX10_writeList_87 : decode cX10_writeList 87 = .ok (.iaload, 1) := by decide +kernel
theorem dX10_writeList_88 : decode cX10_writeList 88 = .ok (.invokestatic 67, 3) := by decide +kernel
theorem dX10_writeList_91 : decode cX10_writeList 91 = .ok (.iadd, 1) := by decide +kernel
theorem dX10_writeList_92 : decode cX10_writeList 92 = .ok (.istore 7, 2) := by decide +kernel
theorem dX10_writeList_94 : decode cX10_writeList 94 = .ok (.goto (-45), 3) := by decide +kernel
theorem dX10_writeList_97 : decode cX10_writeList 97 = .ok (.iload_n 3, 1) := by decide +kernel
theorem dX10_writeList_98 : decode cX10_writeList 98 = .ok (.ifCond .eq 9, 3) := by decide +kernel
theorem dX10_writeList_101 : decode cX10_writeList 101 = .ok (.aload_n 0, 1) := by decide +kernel
theorem dX10_writeList_102 : decode cX10_writeList 102 = .ok (.bipush 41, 2) := by decide +kernel
theorem dX10_writeList_104 : decode cX10_writeList 104 = .ok (.invokevirtual 51, 3) := by decide +kernel
theorem dX10_writeList_107 : decode cX10_writeList 107 = .ok (.return_, 1) := by decide +kernel
theorem dX10_putVariable_0 : decode cX10_putVariable 0 = .ok (.iload_n 1, 1) := by decide +kernel
theorem dX10_putVariable_1 : decode cX10_putVariable 1 = .ok (.ifCond .le 13, 3) := by decide +kernel
theorem dX10_putVariable_4 : decode cX10_putVariable 4 = .ok (.aload_n 0, 1) := by decide +kernel
theorem dX10_putVariable_5 : decode cX10_putVariable 5 = .ok (.bipush 97, 2) := by decide +kernel
theorem dX10_putVariable_7 : decode cX10_putVariable 7 = .ok (.iload_n 1, 1) := by decide +kernel
theorem dX10_putVariable_8 : decode cX10_putVariable 8 = .ok (.iadd, 1) := by decide +kernel
theorem dX10_putVariable_9 : decode cX10_putVariable 9 = .ok (.iconst 1, 1) := by decide +kernel
theorem dX10_putVariable_10 : decode cX10_putVariable 10 = .ok (.isub, 1) := by decide +kernel
theorem dX10_putVariable_11 : decode cX10_putVariable 11 = .ok (.invokevirtual 51, 3) := by decide +kernel
theorem dX10_putVariable_14 : decode cX10_putVariable 14 = .ok (.return_, 1) := by decide +kernel
theorem dX10_put_0 : decode cX10_put 0 = .ok (.aload_n 0, 1) := by decide +kernel
theorem dX10_put_1 : decode cX10_put 1 = .ok (.getfield 15, 3) := by decide +kernel
theorem dX10_put_4 : decode cX10_put 4 = .ok (.ifCond .lt 36, 3) := by decide +kernel
theorem dX10_put_7 : decode cX10_put 7 = .ok (.aload_n 0, 1) := by decide +kernel
theorem dX10_put_8 : decode cX10_put 8 = .ok (.getfield 15, 3) := by decide +kernel
theorem dX10_put_11 : decode cX10_put 11 = .ok (.aload_n 0, 1) := by decide +kernel
theorem dX10_put_12 : decode cX10_put 12 = .ok (.getfield 9, 3) := by decide +kernel
theorem dX10_put_15 : decode cX10_put 15 = .ok (.arraylength, 1) := by decide +kernel
theorem dX10_put_16 : decode cX10_put 16 = .ok (.if_icmp .ge 24, 3) := by decide +kernel
theorem dX10_put_19 : decode cX10_put 19 = .ok (.aload_n 0, 1) := by decide +kernel
theorem dX10_put_20 : decode cX10_put 20 = .ok (.getfield 9, 3) := by decide +kernel
theorem dX10_put_23 : decode cX10_put 23 = .ok (.aload_n 0, 1) := by decide +kernel
theorem dX10_put_24 : decode cX10_put 24 = .ok (.getfield 15, 3) := by decide +kernel
theorem dX10_put_27 : decode cX10_put 27 = .ok (.iload_n 1, 1) := by decide +kernel
theorem dX10_put_28 : decode cX10_put 28 = .ok (.i2b, 1) := by decide +kernel
theorem dX10_put_29 : decode cX10_put 29 = .ok (.bastore, 1) := by decide +kernel
theorem dX10_put_30 : decode cX10_put 30 = .ok (.aload_n 0, 1) := by decide +kernel
theorem dX10_put_31 : decode cX10_put 31 = .ok (.dup, 1) := by decide +kernel
theorem dX10_put_32 : decode cX10_put 32 = .ok (.getfield 15, 3) := by decide +kernel
theorem dX10_put_35 : decode cX10_put 35 = .ok (.iconst 1, 1) := by decide +kernel
theorem dX10_put_36 : decode cX10_put 36 = .ok (.iadd, 1) := by decide +kernel
theorem dX10_put_37 : decode cX10_put 37 = .ok (.putfield 15, 3) := by decide +kernel
theorem dX10_put_40 : decode cX10_put 40 = .ok (.return_, 1) := by decide +kernel
theorem dX11_init_0 : decode cX11_init 0 = .ok (.aload_n 0, 1) := by decide +kernel
theorem dX11_init_1 : decode cX11_init 1 = .ok (.invokespecial 3, 3) := by decide +kernel
theorem dX11_init_4 : decode cX11_init 4 = .ok (.aload_n 0, 1) := by decide +kernel
theorem dX11_init_5 : decode cX11_init 5 = .ok (.bipush 6, 2) := by decide +kernel
theorem dX11_init_7 : decode cX11_init 7 = .ok (.anewarray 9, 3) := by decide +kernel
theorem dX11_init_10 : decode cX11_init 10 = .ok (.putfield 11, 3) := by decide +kernel
theorem dX11_init_13 : decode cX11_init 13 = .ok (.aload_n 0, 1) := by decide +kernel
theorem dX11_init_14 : decode cX11_init 14 = .ok (.new 9, 3) := by decide +kernel
theorem dX11_init_17 : decode cX11_init 17 = .ok (.dup, 1) := by decide +kernel
theorem dX11_init_18 : decode cX11_init 18 = .ok (.invokespecial 15, 3) := by decide +kernel
theorem dX11_init_21 : decode cX11_init 21 = .ok (.putfield 16, 3) := by decide +kernel
theorem dX11_init_24 : decode cX11_init 24 = .ok (.aload_n 0, 1) := by decide +kernel
theorem dX11_init_25 : decode cX11_init 25 = .ok (.new 20, 3) := by decide +kernel
theorem dX11_init_28 : decode cX11_init 28 = .ok (.dup, 1) := by decide +kernel
theorem dX11_init_29 : decode cX11_init 29 = .ok (.invokespecial 22, 3) := by decide +kernel
theorem dX11_init_32 : decode cX11_init 32 = .ok (.putfield 23, 3) := by decide +kernel
theorem dX11_init_35 : decode cX11_init 35 = .ok (.aload_n 0, 1) := by decide +kernel
theorem dX11_init_36 : decode cX11_init 36 = .ok (.new 27, 3) := by decide +kernel
theorem dX11_init_39 : decode cX11_init 39 = .ok (.dup, 1) := by decide +kernel
theorem dX11_init_40 : decode cX11_init 40 = .ok (.invokespecial 29, 3) := by decide +kernel
theorem dX11_init_43 : decode cX11_init 43 = .ok (.putfield 30, 3) := by decide +kernel
theorem dX11_init_46 : decode cX11_init 46 = .ok (.aload_n 0, 1) := by decide +kernel
theorem dX11_init_47 : decode cX11_init 47 = .ok (.new 34, 3) := by decide +kernel
theorem dX11_init_50 : decode cX11_init 50 = .ok (.dup, 1) := by decide +kernel
theorem dX11_init_51 : decode cX11_init 51 = .ok (.invokespecial 36, 3) := by decide +kernel
theorem dX11_init_54 : decode cX11_init 54 = .ok (.putfield 37, 3) := by decide +kernel
theorem dX11_init_57 : decode cX11_init 57 = .ok (.aload_n 0, 1) := by decide +kernel
theorem dX11_init_58 : decode cX11_init 58 = .ok (.new 41, 3) := by decide +kernel
theorem dX11_init_61 : decode cX11_init 61 = .ok (.dup, 1) := by decide +kernel
theorem dX11_init_62 : decode cX11_init 62 = .ok (.invokespecial 43, 3) := by decide +kernel
theorem dX11_init_65 : decode cX11_init 65 = .ok (.putfield 44, 3) := by decide +kernel
theorem dX11_init_68 : decode cX11_init 68 = .ok (.aload_n 0, 1) := by decide +kernel
theorem dX11_init_69 : decode cX11_init 69 = .ok (.new 48, 3) := by decide +kernel
theorem dX11_init_72 : decode cX11_init 72 = .ok (.dup, 1) := by decide +kernel
theorem dX11_init_73 : decode cX11_init 73 = .ok (.invokespecial 50, 3) := by decide +kernel
theorem dX11_init_76 : decode cX11_init 76 = .ok (.putfield 51, 3) := by decide +kernel
theorem dX11_init_79 : decode cX11_init 79 = .ok (.aload_n 0, 1) := by decide +kernel
theorem dX11_init_80 : decode cX11_init 80 = .ok (.new 55, 3) := by decide +kernel
theorem dX11_init_83 : decode cX11_init 83 = .ok (.dup, 1) := by decide +kernel
theorem dX11_init_84 : decode cX11_init 84 = .ok (.invokespecial 57, 3) := by decide +kernel
theorem dX11_init_87 : decode cX11_init 87 = .ok (.putfield 58, 3) := by decide +kernel
theorem dX11_init_90 : decode cX11_init 90 = .ok (.aload_n 0, 1) := by decide +kernel
theorem dX11_init_91 : decode cX11_init 91 = .ok (.bipush 20, 2) := by decide +kernel
theorem dX11_init_93 : decode cX11_init 93 = .ok (.anewarray 62, 3) := by decide +kernel
theorem dX11_init_96 : decode cX11_init 96 = .ok (.putfield 64, 3) := by decide +kernel
theorem dX11_init_99 : decode cX11_init 99 = .ok (.aload_n 0, 1) := by decide +kernel
theorem dX11_init_100 : decode cX11_init 100 = .ok (.iconst 0, 1) := by decide +kernel
theorem dX11_init_101 : decode cX11_init 101 = .ok (.putfield 68, 3) := by decide +kernel
theorem dX11_init_104 : decode cX11_init 104 = .ok (.aload_n 0, 1) := by decide +kernel
theorem dX11_init_105 : decode cX11_init 105 = .ok (.new 72, 3) := by decide +kernel
theorem dX11_init_108 : decode cX11_init 108 = .ok (.dup, 1) := by decide +kernel
theorem dX11_init_109 : decode cX11_init 109 = .ok (.invokespecial 74, 3) := by decide +kernel
theorem dX11_init_112 : decode cX11_init 112 = .ok (.putfield 75, 3) := by decide +kernel
theorem dX11_init_115 : decode cX11_init 115 = .ok (.aload_n 0, 1) := by decide +kernel
theorem dX11_init_116 : decode cX11_init 116 = .ok (.new 79, 3) := by decide +kernel
theorem dX11_init_119 : decode cX11_init 119 = .ok (.dup, 1) := by decide +kernel
theorem dX11_init_120 : decode cX11_init 120 = .ok (.invokespecial 81, 3) := by decide +kernel
theorem dX11_init_123 : decode cX11_init 123 = .ok (.putfield 82, 3) := by decide +kernel
theorem dX11_init_126 : decode cX11_init 126 = .ok (.iconst 0, 1) := by decide +kernel
theorem dX11_init_127 : decode cX11_init 127 = .ok (.istore_n 1, 1) := by decide +kernel
theorem dX11_init_128 : decode cX11_init 128 = .ok (.iload_n 1, 1) := by decide +kernel
theorem dX11_init_129 : decode cX11_init 129 = .ok (.bipush 6, 2) := by decide +kernel
theorem dX11_init_131 : decode cX11_init 131 = .ok (.if_icmp .ge 22, 3) := by decide +kernel
theorem dX11_init_134 : decode cX11_init 134 = .ok (.aload_n 0, 1) := by decide +kernel
theorem dX11_init_135 : decode cX11_init 135 = .ok (.getfield 11, 3) := by decide +kernel
theorem dX11_init_138 : decode cX11_init 138 = .ok (.iload_n 1, 1) := by decide +kernel
theorem dX11_init_139 : decode cX11_init 139 = .ok (.new 9, 3) := by decide +kernel
theorem dX11_init_142 : decode cX11_init 142 = .ok (.dup, 1) := by decide +kernel
theorem dX11_init_143 : decode cX11_init 143 = .ok (.invokespecial 15, 3) := by decide +kernel
theorem dX11_init_146 : decode cX11_init 146 = .ok (.aastore, 1) := by decide +kernel
theorem dX11_init_147 : decode cX11_init 147 = .ok (.iinc 1 1, 3) := by decide +kernel
theorem dX11_init_150 : decode cX11_init 150 = .ok (.goto (-22), 3) := by decide +kernel
theorem dX11_init_153 : decode cX11_init 153 = .ok (.return_, 1) := by decide +kernel
theorem dX11_world_0 : decode cX11_world 0 = .ok (.aload_n 0, 1) := by decide +kernel
theorem dX11_world_1 : decode cX11_world 1 = .ok (.iload_n 1, 1) := by decide +kernel
theorem dX11_world_2 : decode cX11_world 2 = .ok (.invokevirtual 86, 3) := by decide +kernel
theorem dX11_world_5 : decode cX11_world 5 = .ok (.astore_n 3, 1) := by decide +kernel
theorem dX11_world_6 : decode cX11_world 6 = .ok (.aload_n 3, 1) := by decide +kernel
theorem dX11_world_7 : decode cX11_world 7 = .ok (.ifnonnull 5, 3) := by decide +kernel
theorem dX11_world_10 : decode cX11_world 10 = .ok (.iconst (-1), 1) := by decide +kernel
theorem dX11_world_11 : decode cX11_world 11 = .ok (.ireturn, 1) := by decide +kernel
theorem dX11_world_12 : decode cX11_world 12 = .ok (.iload_n 2, 1) := by decide +kernel
theorem dX11_world_13 : decode cX11_world 13 = .ok (.iconst 1, 1) := by decide +kernel
theorem dX11_world_14 : decode cX11_world 14 = .ok (.if_icmp .lt 9, 3) := by decide +kernel
theorem dX11_world_17 : decode cX11_world 17 = .ok (.iload_n 2, 1) := by decide +kernel
theorem dX11_world_18 : decode cX11_world 18 = .ok (.bipush 6, 2) := by decide +kernel
theorem dX11_world_20 : decode cX11_world 20 = .ok (.if_icmp .le 6, 3) := by decide +kernel
theorem dX11_world_23 : decode cX11_world 23 = .ok (.bipush (-2), 2) := by decide +kernel
theorem dX11_world_25 : decode cX11_world 25 = .ok (.ireturn, 1) := by decide +kernel
theorem dX11_world_26 : decode cX11_world 26 = .ok (.aload_n 3, 1) := by decide +kernel
theorem dX11_world_27 : decode cX11_world 27 = .ok (.iload_n 2, 1) := by decide +kernel
theorem dX11_world_28 : decode cX11_world 28 = .ok (.invokevirtual 90, 3) := by decide +kernel
theorem dX11_world_31 : decode cX11_world 31 = .ok (.iload_n 2, 1) := by decide +kernel
theorem dX11_world_32 : decode cX11_world 32 = .ok (.ireturn, 1) := by decide +kernel
theorem dX11_mark_0 : decode cX11_mark 0 = .ok (.aload_n 0, 1) := by decide +kernel
theorem dX11_mark_1 : decode cX11_mark 1 = .ok (.iload_n 1, 1) := by decide +kernel
theorem dX11_mark_2 : decode cX11_mark 2 = .ok (.invokevirtual 94, 3) := by decide +kernel
theorem dX11_mark_5 : decode cX11_mark 5 = .ok (.astore 5, 2) := by decide +kernel
theorem dX11_mark_7 : decode cX11_mark 7 = .ok (.aload 5, 2) := by decide +kernel
theorem dX11_mark_9 : decode cX11_mark 9 = .ok (.ifnull 12, 3) := by decide +kernel
theorem dX11_mark_12 : decode cX11_mark 12 = .ok (.aload 5, 2) := by decide +kernel
theorem dX11_mark_14 : decode cX11_mark 14 = .ok (.iload_n 2, 1) := by decide +kernel
theorem dX11_mark_15 : decode cX11_mark 15 = .ok (.invokevirtual 97, 3) := by decide +kernel
theorem dX11_mark_18 : decode cX11_mark 18 = .ok (.ifCond .ne 5, 3) := by decide +kernel
theorem dX11_mark_21 : decode cX11_mark 21 = .ok (.iconst (-1), 1) := by decide +kernel
theorem dX11_mark_22 : decode cX11_mark 22 = .ok (.ireturn, 1) := by decide +kernel
theorem dX11_mark_23 : decode cX11_mark 23 = .ok (.iload_n 3, 1) := by decide +kernel
theorem dX11_mark_24 : decode cX11_mark 24 = .ok (.ifCond .eq 11, 3) := by decide +kernel
theorem dX11_mark_27 : decode cX11_mark 27 = .ok (.iload_n 3, 1) := by decide +kernel
theorem dX11_mark_28 : decode cX11_mark 28 = .ok (.iconst 1, 1) := by decide +kernel
theorem dX11_mark_29 : decode cX11_mark 29 = .ok (.if_icmp .eq 6, 3) := by decide +kernel
theorem dX11_mark_32 : decode cX11_mark 32 = .ok (.bipush (-2), 2) := by decide +kernel
theorem dX11_mark_34 : decode cX11_mark 34 = .ok (.ireturn, 1) := by decide +kernel
theorem dX11_mark_35 : decode cX11_mark 35 = .ok (.aload 5, 2) := by decide +kernel
theorem dX11_mark_37 : decode cX11_mark 37 = .ok (.iload_n 2, 1) := by decide +kernel
theorem dX11_mark_38 : decode cX11_mark 38 = .ok (.iload_n 3, 1) := by decide +kernel
theorem dX11_mark_39 : decode cX11_mark 39 = .ok (.iload 4, 2) := by decide +kernel
theorem dX11_mark_41 : decode cX11_mark 41 = .ok (.invokevirtual 101, 3) := by decide +kernel
theorem dX11_mark_44 : decode cX11_mark 44 = .ok (.ifCond .eq 7, 3) := by decide +kernel
theorem dX11_mark_47 : decode cX11_mark 47 = .ok (.iconst 1, 1) := by decide +kernel
theorem dX11_mark_48 : decode cX11_mark 48 = .ok (.goto 4, 3) := by decide +kernel
theorem dX11_mark_51 : decode cX11_mark 51 = .ok (.iconst 0, 1) := by decide +kernel
theorem dX11_mark_52 : decode cX11_mark 52 = .ok (.ireturn, 1) := by decide +kernel
theorem dX11_tie_0 : decode cX11_tie 0 = .ok (.aload_n 0, 1) := by decide +kernel
theorem dX11_tie_1 : decode cX11_tie 1 = .ok (.iload_n 1, 1) := by decide +kernel
theorem dX11_tie_2 : decode cX11_tie 2 = .ok (.invokevirtual 94, 3) := by decide +kernel
theorem dX11_tie_5 : decode cX11_tie 5 = .ok (.astore 5, 2) := by decide +kernel
theorem dX11_tie_7 : decode cX11_tie 7 = .ok (.aload 5, 2) := by decide +kernel
theorem dX11_tie_9 : decode cX11_tie 9 = .ok (.ifnull 21, 3) := by decide +kernel
theorem dX11_tie_12 : decode cX11_tie 12 = .ok (.aload 5, 2) := by decide +kernel
theorem dX11_tie_14 : decode cX11_tie 14 = .ok (.iload_n 2, 1) := by decide +kernel
theorem dX11_tie_15 : decode cX11_tie 15 = .ok (.invokevirtual 97, 3) := by decide +kernel
theorem dX11_tie_18 : decode cX11_tie 18 = .ok (.ifCond .eq 12, 3) := by decide +kernel
theorem dX11_tie_21 : decode cX11_tie 21 = .ok (.aload 5, 2) := by decide +kernel
theorem dX11_tie_23 : decode cX11_tie 23 = .ok (.iload_n 3, 1) := by decide +kernel
theorem dX11_tie_24 : decode cX11_tie 24 = .ok (.invokevirtual 97, 3) := by decide +kernel
theorem dX11_tie_27 : decode cX11_tie 27 = .ok (.ifCond .ne 5, 3) := by decide +kernel
theorem dX11_tie_30 : decode cX11_tie 30 = .ok (.iconst (-1), 1) := by decide +kernel
theorem dX11_tie_31 : decode cX11_tie 31 = .ok (.ireturn, 1) := by decide +kernel
theorem dX11_tie_32 : decode cX11_tie 32 = .ok (.aload 5, 2) := by decide +kernel
theorem dX11_tie_34 : decode cX11_tie 34 = .ok (.iload_n 2, 1) := by decide +kernel
theorem dX11_tie_35 : decode cX11_tie 35 = .ok (.iload_n 3, 1) := by decide +kernel
theorem dX11_tie_36 : decode cX11_tie 36 = .ok (.iload 4, 2) := by decide +kernel
theorem dX11_tie_38 : decode cX11_tie 38 = .ok (.invokevirtual 105, 3) := by decide +kernel
theorem dX11_tie_41 : decode cX11_tie 41 = .ok (.ifCond .eq 7, 3) := by decide +kernel
theorem dX11_tie_44 : decode cX11_tie 44 = .ok (.iconst 1, 1) := by decide +kernel
theorem dX11_tie_45 : decode cX11_tie 45 = .ok (.goto 4, 3) := by decide +kernel
theorem dX11_tie_48 : decode cX11_tie 48 = .ok (.iconst 0, 1) := by decide +kernel
theorem dX11_tie_49 : decode cX11_tie 49 = .ok (.ireturn, 1) := by decide +kernel
theorem dX11_turn_0 : decode cX11_turn 0 = .ok (.aload_n 0, 1) := by decide +kernel
theorem dX11_turn_1 : decode cX11_turn 1 = .ok (.iload_n 1, 1) := by decide +kernel
theorem dX11_turn_2 : decode cX11_turn 2 = .ok (.invokevirtual 94, 3) := by decide +kernel
theorem dX11_turn_5 : decode cX11_turn 5 = .ok (.astore 5, 2) := by decide +kernel
theorem dX11_turn_7 : decode cX11_turn 7 = .ok (.aload_n 0, 1) := by decide +kernel
theorem dX11_turn_8 : decode cX11_turn 8 = .ok (.iload 4, 2) := by decide +kernel
theorem dX11_turn_10 : decode cX11_turn 10 = .ok (.invokevirtual 86, 3) := by decide +kernel
theorem dX11_turn_13 : decode cX11_turn 13 = .ok (.astore 6, 2) := by decide +kernel
theorem dX11_turn_15 : decode cX11_turn 15 = .ok (.aload 5, 2) := by decide +kernel
theorem dX11_turn_17 : decode cX11_turn 17 = .ok (.ifnull 26, 3) := by decide +kernel
theorem dX11_turn_20 : decode cX11_turn 20 = .ok (.aload 5, 2) := by decide +kernel
theorem dX11_turn_22 : decode cX11_turn 22 = .ok (.iload_n 2, 1) := by decide +kernel
theorem dX11_turn_23 : decode cX11_turn 23 = .ok (.invokevirtual 97, 3) := by decide +kernel
theorem dX11_turn_26 : decode cX11_turn 26 = .ok (.ifCond .eq 17, 3) := by decide +kernel
theorem dX11_turn_29 : decode cX11_turn 29 = .ok (.aload 5, 2) := by decide +kernel
theorem dX11_turn_31 : decode cX11_turn 31 = .ok (.iload_n 3, 1) := by decide +kernel
theorem dX11_turn_32 : decode cX11_turn 32 = .ok (.invokevirtual 97, 3) := by decide +kernel
theorem dX11_turn_35 : decode cX11_turn 35 = .ok (.ifCond .eq 8, 3) := by decide +kernel
theorem dX11_turn_38 : decode cX11_turn 38 = .ok (.aload 6, 2) := by decide +kernel
theorem dX11_turn_40 : decode cX11_turn 40 = .ok (.ifnonnull 5, 3) := by decide +kernel
theorem dX11_turn_43 : decode cX11_turn 43 = .ok (.iconst (-1), 1) := by decide +kernel
theorem dX11_turn_44 : decode cX11_turn 44 = .ok (.ireturn, 1) := by decide +kernel
theorem dX11_turn_45 : decode cX11_turn 45 = .ok (.aload 6, 2) := by decide +kernel
theorem dX11_turn_47 : decode cX11_turn 47 = .ok (.aload 5, 2) := by decide +kernel
theorem dX11_turn_49 : decode cX11_turn 49 = .ok (.invokevirtual 108, 3) := by decide +kernel
theorem dX11_turn_52 : decode cX11_turn 52 = .ok (.aload 6, 2) := by decide +kernel
theorem dX11_turn_54 : decode cX11_turn 54 = .ok (.iload_n 2, 1) := by decide +kernel
theorem dX11_turn_55 : decode cX11_turn 55 = .ok (.iload_n 3, 1) := by decide +kernel
theorem dX11_turn_56 : decode cX11_turn 56 = .ok (.invokevirtual 112, 3) := by decide +kernel
theorem dX11_turn_59 : decode cX11_turn 59 = .ok (.iconst 1, 1) := by decide +kernel
theorem dX11_turn_60 : decode cX11_turn 60 = .ok (.ireturn, 1) := by decide +kernel
theorem dX11_join_0 : decode cX11_join 0 = .ok (.aload_n 0, 1) := by decide +kernel
theorem dX11_join_1 : decode cX11_join 1 = .ok (.iload_n 1, 1) := by decide +kernel
theorem dX11_join_2 : decode cX11_join 2 = .ok (.invokevirtual 94, 3) := by decide +kernel
theorem dX11_join_5 : decode cX11_join 5 = .ok (.astore 4, 2) := by decide +kernel
theorem dX11_join_7 : decode cX11_join 7 = .ok (.aload_n 0, 1) := by decide +kernel
theorem dX11_join_8 : decode cX11_join 8 = .ok (.iload_n 2, 1) := by decide +kernel
theorem dX11_join_9 : decode cX11_join 9 = .ok (.invokevirtual 94, 3) := by decide +kernel
theorem dX11_join_12 : decode cX11_join 12 = .ok (.astore 5, 2) := by decide +kernel
theorem dX11_join_14 : decode cX11_join 14 = .ok (.aload_n 0, 1) := by decide +kernel
theorem dX11_join_15 : decode cX11_join 15 = .ok (.iload_n 3, 1) := by decide +kernel
theorem dX11_join_16 : decode cX11_join 16 = .ok (.invokevirtual 86, 3) := by decide +kernel
theorem dX11_join_19 : decode cX11_join 19 = .ok (.astore 6, 2) := by decide +kernel
theorem dX11_join_21 : decode cX11_join 21 = .ok (.aload 4, 2) := by decide +kernel
theorem dX11_join_23 : decode cX11_join 23 = .ok (.ifnull 13, 3) := by decide +kernel
theorem dX11_join_26 : decode cX11_join 26 = .ok (.aload 5, 2) := by decide +kernel
theorem dX11_join_28 : decode cX11_join 28 = .ok (.ifnull 8, 3) := by decide +kernel
theorem dX11_join_31 : decode cX11_join 31 = .ok (.aload 6, 2) := by decide +kernel
theorem dX11_join_33 : decode cX11_join 33 = .ok (.ifnonnull 5, 3) := by decide +kernel
theorem dX11_join_36 : decode cX11_join 36 = .ok (.iconst (-1), 1) := by decide +kernel
theorem dX11_join_37 : decode cX11_join 37 = .ok (.ireturn, 1) := by decide +kernel
theorem dX11_join_38 : decode cX11_join 38 = .ok (.aload 4, 2) := by decide +kernel
theorem dX11_join_40 : decode cX11_join 40 = .ok (.invokevirtual 116, 3) := by decide +kernel
theorem dX11_join_43 : decode cX11_join 43 = .ok (.aload 5, 2) := by decide +kernel
theorem dX11_join_45 : decode cX11_join 45 = .ok (.invokevirtual 116, 3) := by decide +kernel
theorem dX11_join_48 : decode cX11_join 48 = .ok (.iadd, 1) := by decide +kernel
theorem dX11_join_49 : decode cX11_join 49 = .ok (.bipush 6, 2) := by decide +kernel
theorem dX11_join_51 : decode cX11_join 51 = .ok (.if_icmp .le 6, 3) := by decide +kernel
theorem dX11_join_54 : decode cX11_join 54 = .ok (.bipush (-2), 2) := by decide +kernel
theorem dX11_join_56 : decode cX11_join 56 = .ok (.ireturn, 1) := by decide +kernel
theorem dX11_join_57 : decode cX11_join 57 = .ok (.aload_n 0, 1) := by decide +kernel
theorem dX11_join_58 : decode cX11_join 58 = .ok (.getfield 16, 3) := by decide +kernel
theorem dX11_join_61 : decode cX11_join 61 = .ok (.aload 4, 2) := by decide +kernel
theorem dX11_join_63 : decode cX11_join 63 = .ok (.invokevirtual 108, 3) := by decide +kernel
theorem dX11_join_66 : decode cX11_join 66 = .ok (.aload_n 0, 1) := by decide +kernel
theorem dX11_join_67 : decode cX11_join 67 = .ok (.getfield 16, 3) := by decide +kernel
theorem dX11_join_70 : decode cX11_join 70 = .ok (.aload 5, 2) := by decide +kernel
theorem dX11_join_72 : decode cX11_join 72 = .ok (.invokevirtual 120, 3) := by decide +kernel
theorem dX11_join_75 : decode cX11_join 75 = .ok (.aload 6, 2) := by decide +kernel
theorem dX11_join_77 : decode cX11_join 77 = .ok (.aload_n 0, 1) := by decide +kernel
theorem dX11_join_78 : decode cX11_join 78 = .ok (.getfield 16, 3) := by decide +kernel
theorem dX11_join_81 : decode cX11_join 81 = .ok (.invokevirtual 108, 3) := by decide +kernel
theorem dX11_join_84 : decode cX11_join 84 = .ok (.aload 6, 2) := by decide +kernel
theorem dX11_join_86 : decode cX11_join 86 = .ok (.invokevirtual 116, 3) := by decide +kernel
theorem dX11_join_89 : decode cX11_join 89 = .ok (.ireturn, 1) := by decide +kernel
theorem dX11_about_0 : decode cX11_about 0 = .ok (.aload_n 0, 1) := by decide +kernel
theorem dX11_about_1 : decode cX11_about 1 = .ok (.iload_n 1, 1) := by decide +kernel
theorem dX11_about_2 : decode cX11_about 2 = .ok (.invokevirtual 94, 3) := by decide +kernel
theorem dX11_about_5 : decode cX11_about 5 = .ok (.astore_n 3, 1) := by decide +kernel
theorem dX11_about_6 : decode cX11_about 6 = .ok (.aload_n 3, 1) := by decide +kernel
theorem dX11_about_7 : decode cX11_about 7 = .ok (.ifnonnull 5, 3) := by decide +kernel
theorem dX11_about_10 : decode cX11_about 10 = .ok (.iconst (-1), 1) := by decide +kernel
theorem dX11_about_11 : decode cX11_about 11 = .ok (.ireturn, 1) := by decide +kernel
theorem dX11_about_12 : decode cX11_about 12 = .ok (.iload_n 2, 1) := by decide +kernel
theorem dX11_about_13 : decode cX11_about 13 = .ok (.ifCond .ne 8, 3) := by decide +kernel
theorem dX11_about_16 : decode cX11_about 16 = .ok (.aload_n 3, 1) := by decide +kernel
theorem dX11_about_17 : decode cX11_about 17 = .ok (.invokevirtual 116, 3) := by decide +kernel
theorem dX11_about_20 : decode cX11_about 20 = .ok (.ireturn, 1) := by decide +kernel
theorem dX11_about_21 : decode cX11_about 21 = .ok (.iload_n 2, 1) := by decide +kernel
theorem dX11_about_22 : decode cX11_about 22 = .ok (.iconst 1, 1) := by decide +kernel
theorem dX11_about_23 : decode cX11_about 23 = .ok (.if_icmp .eq 8, 3) := by decide +kernel
theorem dX11_about_26 : decode cX11_about 26 = .ok (.iload_n 2, 1) := by decide +kernel
theorem dX11_about_27 : decode cX11_about 27 = .ok (.iconst 2, 1) := by decide +kernel
theorem dX11_about_28 : decode cX11_about 28 = .ok (.if_icmp .ne 11, 3) := by decide +kernel
theorem dX11_about_31 : decode cX11_about 31 = .ok (.aload_n 3, 1) := by decide +kernel
theorem dX11_about_32 : decode cX11_about 32 = .ok (.iload_n 2, 1) := by decide +kernel
theorem dX11_about_33 : decode cX11_about 33 = .ok (.iconst 1, 1) := by decide +kernel
theorem dX11_about_34 : decode cX11_about 34 = .ok (.isub, 1) := by decide +kernel
theorem dX11_about_35 : decode cX11_about 35 = .ok (.invokevirtual 123, 3) := by decide +kernel
theorem dX11_about_38 : decode cX11_about 38 = .ok (.ireturn, 1) := by decide +kernel
theorem dX11_about_39 : decode cX11_about 39 = .ok (.iload_n 2, 1) := by decide +kernel
theorem dX11_about_40 : decode cX11_about 40 = .ok (.iconst 3, 1) := by decide +kernel
theorem dX11_about_41 : decode cX11_about 41 = .ok (.if_icmp .ne 8, 3) := by decide +kernel
theorem dX11_about_44 : decode cX11_about 44 = .ok (.aload_n 3, 1) := by decide +kernel
theorem dX11_about_45 : decode cX11_about 45 = .ok (.invokevirtual 127, 3) := by decide +kernel
theorem dX11_about_48 : decode cX11_about 48 = .ok (.ireturn, 1) := by decide +kernel
theorem dX11_about_49 : decode cX11_about 49 = .ok (.iload_n 2, 1) := by decide +kernel
theorem dX11_about_50 : decode cX11_about 50 = .ok (.bipush 10, 2) := by decide +kernel
theorem dX11_about_52 : decode cX11_about 52 = .ok (.if_icmp .lt 23, 3) := by decide +kernel
theorem dX11_about_55 : decode cX11_about 55 = .ok (.aload_n 3, 1) := by decide +kernel
theorem dX11_about_56 : decode cX11_about 56 = .ok (.iload_n 2, 1) := by decide +kernel
theorem dX11_about_57 : decode cX11_about 57 = .ok (.bipush 10, 2) := by decide +kernel
theorem dX11_about_59 : decode cX11_about 59 = .ok (.isub, 1) := by decide +kernel
theorem dX11_about_60 : decode cX11_about 60 = .ok (.invokevirtual 97, 3) := by decide +kernel
theorem dX11_about_63 : decode cX11_about 63 = .ok (.ifCond .eq 12, 3) := by decide +kernel
theorem dX11_about_66 : decode cX11_about 66 = .ok (.aload_n 3, 1) := by decide +kernel
theorem dX11_about_67 : decode cX11_about 67 = .ok (.iload_n 2, 1) := by decide +kernel
theorem dX11_about_68 : decode cX11_about 68 = .ok (.bipush 10, 2) := by decide +kernel
theorem dX11_about_70 : decode cX11_about 70 = .ok (.isub, 1) := by decide +kernel
theorem dX11_about_71 : decode cX11_about 71 = .ok (.invokevirtual 130, 3) := by decide +kernel
theorem dX11_about_74 : decode cX11_about 74 = .ok (.ireturn, 1) := by decide +kernel
theorem dX11_about_75 : decode cX11_about 75 = .ok (.bipush (-2), 2) := by decide +kernel
theorem dX11_about_77 : decode cX11_about 77 = .ok (.ireturn, 1) := by decide +kernel
theorem dX11_tied_0 : decode cX11_tied 0 = .ok (.aload_n 0, 1) := by decide +kernel
theorem dX11_tied_1 : decode cX11_tied 1 = .ok (.iload_n 1, 1) := by decide +kernel
theorem dX11_tied_2 : decode cX11_tied 2 = .ok (.invokevirtual 94, 3) := by decide +kernel
theorem dX11_tied_5 : decode cX11_tied 5 = .ok (.astore 4, 2) := by decide +kernel
theorem dX11_tied_7 : decode cX11_tied 7 = .ok (.aload 4, 2) := by decide +kernel
theorem dX11_tied_9 : decode cX11_tied 9 = .ok (.ifnull 21, 3) := by decide +kernel
theorem dX11_tied_12 : decode cX11_tied 12 = .ok (.aload 4, 2) := by decide +kernel
theorem dX11_tied_14 : decode cX11_tied 14 = .ok (.iload_n 2, 1) := by decide +kernel
theorem dX11_tied_15 : decode cX11_tied 15 = .ok (.invokevirtual 97, 3) := by decide +kernel
theorem dX11_tied_18 : decode cX11_tied 18 = .ok (.ifCond .eq 12, 3) := by decide +kernel
theorem dX11_tied_21 : decode cX11_tied 21 = .ok (.aload 4, 2) := by decide +kernel
theorem dX11_tied_23 : decode cX11_tied 23 = .ok (.iload_n 3, 1) := by decide +kernel
theorem dX11_tied_24 : decode cX11_tied 24 = .ok (.invokevirtual 97, 3) := by decide +kernel
theorem dX11_tied_27 : decode cX11_tied 27 = .ok (.ifCond .ne 5, 3) := by decide +kernel
theorem dX11_tied_30 : decode cX11_tied 30 = .ok (.iconst (-1), 1) := by decide +kernel
theorem dX11_tied_31 : decode cX11_tied 31 = .ok (.ireturn, 1) := by decide +kernel
theorem dX11_tied_32 : decode cX11_tied 32 = .ok (.aload 4, 2) := by decide +kernel
theorem dX11_tied_34 : decode cX11_tied 34 = .ok (.iload_n 2, 1) := by decide +kernel
theorem dX11_tied_35 : decode cX11_tied 35 = .ok (.iload_n 3, 1) := by decide +kernel
theorem dX11_tied_36 : decode cX11_tied 36 = .ok (.invokevirtual 133, 3) := by decide +kernel
theorem dX11_tied_39 : decode cX11_tied 39 = .ok (.ifCond .eq 7, 3) := by decide +kernel
theorem dX11_tied_42 : decode cX11_tied 42 = .ok (.iconst 1, 1) := by decide +kernel
theorem dX11_tied_43 : decode cX11_tied 43 = .ok (.goto 4, 3) := by decide +kernel
theorem dX11_tied_46 : decode cX11_tied 46 = .ok (.iconst 0, 1) := by decide +kernel
theorem dX11_tied_47 : decode cX11_tied 47 = .ok (.ireturn, 1) := by decide +kernel
theorem dX11_game_0 : decode cX11_game 0 = .ok (.aload_n 0, 1) := by decide +kernel
theorem dX11_game_1 : decode cX11_game 1 = .ok (.iload_n 1, 1) := by decide +kernel
theorem dX11_game_2 : decode cX11_game 2 = .ok (.invokevirtual 94, 3) := by decide +kernel
theorem dX11_game_5 : decode cX11_game 5 = .ok (.astore 4, 2) := by decide +kernel
theorem dX11_game_7 : decode cX11_game 7 = .ok (.aload_n 0, 1) := by decide +kernel
theorem dX11_game_8 : decode cX11_game 8 = .ok (.iload_n 2, 1) := by decide +kernel
theorem dX11_game_9 : decode cX11_game 9 = .ok (.invokevirtual 94, 3) := by decide +kernel
theorem dX11_game_12 : decode cX11_game 12 = .ok (.astore 5, 2) := by decide +kernel
theorem dX11_game_14 : decode cX11_game 14 = .ok (.aload 4, 2) := by decide +kernel
theorem dX11_game_16 : decode cX11_game 16 = .ok (.ifnull 8, 3) := by decide +kernel
theorem dX11_game_19 : decode cX11_game 19 = .ok (.aload 5, 2) := by decide +kernel
theorem dX11_game_21 : decode cX11_game 21 = .ok (.ifnonnull 5, 3) := by decide +kernel
theorem dX11_game_24 : decode cX11_game 24 = .ok (.iconst (-1), 1) := by decide +kernel
theorem dX11_game_25 : decode cX11_game 25 = .ok (.ireturn, 1) := by decide +kernel
theorem dX11_game_26 : decode cX11_game 26 = .ok (.iload_n 3, 1) := by decide +kernel
theorem dX11_game_27 : decode cX11_game 27 = .ok (.ifCond .lt 8, 3) := by decide +kernel
theorem dX11_game_30 : decode cX11_game 30 = .ok (.iload_n 3, 1) := by decide +kernel
theorem dX11_game_31 : decode cX11_game 31 = .ok (.iconst 3, 1) := by decide +kernel
theorem dX11_game_32 : decode cX11_game 32 = .ok (.if_icmp .le 6, 3) := by decide +kernel
theorem dX11_game_35 : decode cX11_game 35 = .ok (.bipush (-2), 2) := by decide +kernel
theorem dX11_game_37 : decode cX11_game 37 = .ok (.ireturn, 1) := by decide +kernel
theorem dX11_game_38 : decode cX11_game 38 = .ok (.aload_n 0, 1) := by decide +kernel
theorem dX11_game_39 : decode cX11_game 39 = .ok (.getfield 23, 3) := by decide +kernel
theorem dX11_game_42 : decode cX11_game 42 = .ok (.aload 4, 2) := by decide +kernel
theorem dX11_game_44 : decode cX11_game 44 = .ok (.aload 5, 2) := by decide +kernel
theorem dX11_game_46 : decode cX11_game 46 = .ok (.invokevirtual 137, 3) := by decide +kernel
theorem dX11_game_49 : decode cX11_game 49 = .ok (.aload_n 0, 1) := by decide +kernel
theorem dX11_game_50 : decode cX11_game 50 = .ok (.getfield 23, 3) := by decide +kernel
theorem dX11_game_53 : decode cX11_game 53 = .ok (.iload_n 3, 1) := by decide +kernel
theorem dX11_game_54 : decode cX11_game 54 = .ok (.invokevirtual 141, 3) := by decide +kernel
theorem dX11_game_57 : decode cX11_game 57 = .ok (.ifCond .eq 7, 3) := by decide +kernel
theorem dX11_game_60 : decode cX11_game 60 = .ok (.iconst 1, 1) := by decide +kernel
theorem dX11_game_61 : decode cX11_game 61 = .ok (.goto 4, 3) := by decide +kernel
theorem dX11_game_64 : decode cX11_game 64 = .ok (.iconst 0, 1) := by decide +kernel
theorem dX11_game_65 : decode cX11_game 65 = .ok (.ireturn, 1) := by decide +kernel
theorem dX11_rank_0 : decode cX11_rank 0 = .ok (.aload_n 0, 1) := by decide +kernel
theorem dX11_rank_1 : decode cX11_rank 1 = .ok (.iload_n 1, 1) := by decide +kernel
theorem dX11_rank_2 : decode cX11_rank 2 = .ok (.invokevirtual 94, 3) := by decide +kernel
theorem dX11_rank_5 : decode cX11_rank 5 = .ok (.astore_n 3, 1) := by decide +kernel
theorem dX11_rank_6 : decode cX11_rank 6 = .ok (.aload_n 0, 1) := by decide +kernel
theorem dX11_rank_7 : decode cX11_rank 7 = .ok (.iload_n 2, 1) := by decide +kernel
theorem dX11_rank_8 : decode cX11_rank 8 = .ok (.invokevirtual 94, 3) := by decide +kernel
theorem dX11_rank_11 : decode cX11_rank 11 = .ok (.astore 4, 2) := by decide +kernel
theorem dX11_rank_13 : decode cX11_rank 13 = .ok (.aload_n 3, 1) := by decide +kernel
theorem dX11_rank_14 : decode cX11_rank 14 = .ok (.ifnull 8, 3) := by decide +kernel
theorem dX11_rank_17 : decode cX11_rank 17 = .ok (.aload 4, 2) := by decide +kernel
theorem dX11_rank_19 : decode cX11_rank 19 = .ok (.ifnonnull 5, 3) := by decide +kernel
theorem dX11_rank_22 : decode cX11_rank 22 = .ok (.iconst (-1), 1) := by decide +kernel
theorem dX11_rank_23 : decode cX11_rank 23 = .ok (.ireturn, 1) := by decide +kernel
theorem dX11_rank_24 : decode cX11_rank 24 = .ok (.aload_n 0, 1) := by decide +kernel
theorem dX11_rank_25 : decode cX11_rank 25 = .ok (.getfield 23, 3) := by decide +kernel
theorem dX11_rank_28 : decode cX11_rank 28 = .ok (.aload_n 3, 1) := by decide +kernel
theorem dX11_rank_29 : decode cX11_rank 29 = .ok (.aload 4, 2) := by decide +kernel
theorem dX11_rank_31 : decode cX11_rank 31 = .ok (.invokevirtual 137, 3) := by decide +kernel
theorem dX11_rank_34 : decode cX11_rank 34 = .ok (.aload_n 0, 1) := by decide +kernel
theorem dX11_rank_35 : decode cX11_rank 35 = .ok (.getfield 23, 3) := by decide +kernel
theorem dX11_rank_38 : decode cX11_rank 38 = .ok (.invokevirtual 144, 3) := by decide +kernel
theorem dX11_rank_41 : decode cX11_rank 41 = .ok (.ireturn, 1) := by decide +kernel
theorem dX11_play_0 : decode cX11_play 0 = .ok (.aload_n 0, 1) := by decide +kernel
theorem dX11_play_1 : decode cX11_play 1 = .ok (.iload_n 1, 1) := by decide +kernel
theorem dX11_play_2 : decode cX11_play 2 = .ok (.invokevirtual 94, 3) := by decide +kernel
theorem dX11_play_5 : decode cX11_play 5 = .ok (.astore 4, 2) := by decide +kernel
theorem dX11_play_7 : decode cX11_play 7 = .ok (.aload_n 0, 1) := by decide +kernel
theorem dX11_play_8 : decode cX11_play 8 = .ok (.iload_n 2, 1) := by decide +kernel
theorem dX11_play_9 : decode cX11_play 9 = .ok (.invokevirtual 94, 3) := by decide +kernel
theorem dX11_play_12 : decode cX11_play 12 = .ok (.astore 5, 2) := by decide +kernel
theorem dX11_play_14 : decode cX11_play 14 = .ok (.aload 4, 2) := by decide +kernel
theorem dX11_play_16 : decode cX11_play 16 = .ok (.ifnull 8, 3) := by decide +kernel
theorem dX11_play_19 : decode cX11_play 19 = .ok (.aload 5, 2) := by decide +kernel
theorem dX11_play_21 : decode cX11_play 21 = .ok (.ifnonnull 5, 3) := by decide +kernel
theorem dX11_play_24 : decode cX11_play 24 = .ok (.iconst (-1), 1) := by decide +kernel
theorem dX11_play_25 : decode cX11_play 25 = .ok (.ireturn, 1) := by decide +kernel
theorem dX11_play_26 : decode cX11_play 26 = .ok (.iload_n 3, 1) := by decide +kernel
theorem dX11_play_27 : decode cX11_play 27 = .ok (.ifCond .lt 8, 3) := by decide +kernel
theorem dX11_play_30 : decode cX11_play 30 = .ok (.iload_n 3, 1) := by decide +kernel
theorem dX11_play_31 : decode cX11_play 31 = .ok (.iconst 3, 1) := by decide +kernel
theorem dX11_play_32 : decode cX11_play 32 = .ok (.if_icmp .le 6, 3) := by decide +kernel
theorem dX11_play_35 : decode cX11_play 35 = .ok (.bipush (-2), 2) := by decide +kernel
theorem dX11_play_37 : decode cX11_play 37 = .ok (.ireturn, 1) := by decide +kernel
theorem dX11_play_38 : decode cX11_play 38 = .ok (.aload_n 0, 1) := by decide +kernel
theorem dX11_play_39 : decode cX11_play 39 = .ok (.getfield 30, 3) := by decide +kernel
theorem dX11_play_42 : decode cX11_play 42 = .ok (.aload 4, 2) := by decide +kernel
theorem dX11_play_44 : decode cX11_play 44 = .ok (.aload 5, 2) := by decide +kernel
theorem dX11_play_46 : decode cX11_play 46 = .ok (.iload_n 3, 1) := by decide +kernel
theorem dX11_play_47 : decode cX11_play 47 = .ok (.invokevirtual 147, 3) := by decide +kernel
theorem dX11_play_50 : decode cX11_play 50 = .ok (.iconst 1, 1) := by decide +kernel
theorem dX11_play_51 : decode cX11_play 51 = .ok (.ireturn, 1) := by decide +kernel
theorem dX11_pick_0 : decode cX11_pick 0 = .ok (.aload_n 0, 1) := by decide +kernel
theorem dX11_pick_1 : decode cX11_pick 1 = .ok (.getfield 30, 3) := by decide +kernel
theorem dX11_pick_4 : decode cX11_pick 4 = .ok (.iload_n 1, 1) := by decide +kernel
theorem dX11_pick_5 : decode cX11_pick 5 = .ok (.iload_n 2, 1) := by decide +kernel
theorem dX11_pick_6 : decode cX11_pick 6 = .ok (.invokevirtual 150, 3) := by decide +kernel
theorem dX11_pick_9 : decode cX11_pick 9 = .ok (.ireturn, 1) := by decide +kernel
theorem dX11_answer_0 : decode cX11_answer 0 = .ok (.aload_n 0, 1) := by decide +kernel
theorem dX11_answer_1 : decode cX11_answer 1 = .ok (.getfield 30, 3) := by decide +kernel
theorem dX11_answer_4 : decode cX11_answer 4 = .ok (.iload_n 1, 1) := by decide +kernel
theorem dX11_answer_5 : decode cX11_answer 5 = .ok (.invokevirtual 154, 3) := by decide +kernel
theorem dX11_answer_8 : decode cX11_answer 8 = .ok (.ireturn, 1) := by decide +kernel
theorem dX11_best_0 : decode cX11_best 0 = .ok (.aload_n 0, 1) := by decide +kernel
theorem dX11_best_1 : decode cX11_best 1 = .ok (.getfield 30, 3) := by decide +kernel
theorem dX11_best_4 : decode cX11_best 4 = .ok (.invokevirtual 157, 3) := by decide +kernel
theorem dX11_best_7 : decode cX11_best 7 = .ok (.ireturn, 1) := by decide +kernel
theorem dX11_state_0 : decode cX11_state 0 = .ok (.aload_n 0, 1) := by decide +kernel
theorem dX11_state_1 : decode cX11_state 1 = .ok (.getfield 30, 3) := by decide +kernel
theorem dX11_state_4 : decode cX11_state 4 = .ok (.invokevirtual 160, 3) := by decide +kernel
theorem dX11_state_7 : decode cX11_state 7 = .ok (.ireturn, 1) := by decide +kernel
theorem dX11_left_0 : decode cX11_left 0 = .ok (.aload_n 0, 1) := by decide +kernel
theorem dX11_left_1 : decode cX11_left 1 = .ok (.getfield 30, 3) := by decide +kernel
theorem dX11_left_4 : decode cX11_left 4 = .ok (.invokevirtual 160, 3) := by decide +kernel
theorem dX11_left_7 : decode cX11_left 7 = .ok (.ifCond .ne 8, 3) := by decide +kernel
theorem dX11_left_10 : decode cX11_left 10 = .ok (.bipush (-3), 2) := by decide +kernel
theorem dX11_left_12 : decode cX11_left 12 = .ok (.goto 10, 3) := by decide +kernel
theorem dX11_left_15 : decode cX11_left 15 = .ok (.aload_n 0, 1) := by decide +kernel
theorem dX11_left_16 : decode cX11_left 16 = .ok (.getfield 30, 3) := by decide +kernel
theorem dX11_left_19 : decode cX11_left 19 = .ok (.invokevirtual 163, 3) := by decide +kernel
theorem dX11_left_22 : decode cX11_left 22 = .ok (.ireturn, 1) := by decide +kernel
theorem dX11_feed_0 : decode cX11_feed 0 = .ok (.aload_n 0, 1) := by decide +kernel
theorem dX11_feed_1 : decode cX11_feed 1 = .ok (.getfield 37, 3) := by decide +kernel
theorem dX11_feed_4 : decode cX11_feed 4 = .ok (.invokevirtual 166, 3) := by decide +kernel
theorem dX11_feed_7 : decode cX11_feed 7 = .ok (.bipush 20, 2) := by decide +kernel
theorem dX11_feed_9 : decode cX11_feed 9 = .ok (.iadd, 1) := by decide +kernel
theorem dX11_feed_10 : decode cX11_feed 10 = .ok (.sipush 800, 3) := by decide +kernel
theorem dX11_feed_13 : decode cX11_feed 13 = .ok (.if_icmp .le 6, 3) := by decide +kernel
theorem dX11_feed_16 : decode cX11_feed 16 = .ok (.bipush (-4), 2) := by decide +kernel
theorem dX11_feed_18 : decode cX11_feed 18 = .ok (.ireturn, 1) := by decide +kernel
theorem dX11_feed_19 : decode cX11_feed 19 = .ok (.aload_n 0, 1) := by decide +kernel
theorem dX11_feed_20 : decode cX11_feed 20 = .ok (.getfield 37, 3) := by decide +kernel
theorem dX11_feed_23 : decode cX11_feed 23 = .ok (.iload_n 1, 1) := by decide +kernel
theorem dX11_feed_24 : decode cX11_feed 24 = .ok (.invokevirtual 169, 3) := by decide +kernel
theorem dX11_feed_27 : decode cX11_feed 27 = .ok (.aload_n 0, 1) := by decide +kernel
theorem dX11_feed_28 : decode cX11_feed 28 = .ok (.getfield 37, 3) := by decide +kernel
theorem dX11_feed_31 : decode cX11_feed 31 = .ok (.iload_n 2, 1) := by decide +kernel
theorem dX11_feed_32 : decode cX11_feed 32 = .ok (.invokevirtual 169, 3) := by decide +kernel
theorem dX11_feed_35 : decode cX11_feed 35 = .ok (.aload_n 0, 1) := by decide +kernel
theorem dX11_feed_36 : decode cX11_feed 36 = .ok (.getfield 37, 3) := by decide +kernel
theorem dX11_feed_39 : decode cX11_feed 39 = .ok (.iload_n 3, 1) := by decide +kernel
theorem dX11_feed_40 : decode cX11_feed 40 = .ok (.invokevirtual 169, 3) := by decide +kernel
theorem dX11_feed_43 : decode cX11_feed 43 = .ok (.aload_n 0, 1) := by decide +kernel
theorem dX11_feed_44 : decode cX11_feed 44 = .ok (.getfield 37, 3) := by decide +kernel
theorem dX11_feed_47 : decode cX11_feed 47 = .ok (.iload 4, 2) := by decide +kernel
theorem dX11_feed_49 : decode cX11_feed 49 = .ok (.invokevirtual 169, 3) := by decide +kernel
theorem dX11_feed_52 : decode cX11_feed 52 = .ok (.aload_n 0, 1) := by decide +kernel
theorem dX11_feed_53 : decode cX11_feed 53 = .ok (.getfield 37, 3) := by decide +kernel
theorem dX11_feed_56 : decode cX11_feed 56 = .ok (.iload 5, 2) := by decide +kernel
theorem dX11_feed_58 : decode cX11_feed 58 = .ok (.invokevirtual 169, 3) := by decide +kernel
theorem dX11_feed_61 : decode cX11_feed 61 = .ok (.aload_n 0, 1) := by decide +kernel
theorem dX11_feed_62 : decode cX11_feed 62 = .ok (.getfield 37, 3) := by decide +kernel
theorem dX11_feed_65 : decode cX11_feed 65 = .ok (.invokevirtual 166, 3) := by decide +kernel
theorem dX11_feed_68 : decode cX11_feed 68 = .ok (.ireturn, 1) := by decide +kernel
theorem dX11_trim_0 : decode cX11_trim 0 = .ok (.iload_n 1, 1) := by decide +kernel
theorem dX11_trim_1 : decode cX11_trim 1 = .ok (.ifCond .lt 14, 3) := by decide +kernel
theorem dX11_trim_4 : decode cX11_trim 4 = .ok (.iload_n 1, 1) := by decide +kernel
theorem dX11_trim_5 : decode cX11_trim 5 = .ok (.aload_n 0, 1) := by decide +kernel
theorem dX11_trim_6 : decode cX11_trim 6 = .ok (.getfield 37, 3) := by decide +kernel
theorem dX11_trim_9 : decode cX11_trim 9 = .ok (.invokevirtual 166, 3) := by decide +kernel
theorem dX11_trim_12 : decode cX11_trim 12 = .ok (.if_icmp .le 6, 3) := by decide +kernel
theorem dX11_trim_15 : decode cX11_trim 15 = .ok (.bipush (-2), 2) := by decide +kernel
theorem dX11_trim_17 : decode cX11_trim 17 = .ok (.ireturn, 1) := by decide +kernel
theorem dX11_trim_18 : decode cX11_trim 18 = .ok (.aload_n 0, 1) := by decide +kernel
theorem dX11_trim_19 : decode cX11_trim 19 = .ok (.getfield 37, 3) := by decide +kernel
theorem dX11_trim_22 : decode cX11_trim 22 = .ok (.iload_n 1, 1) := by decide +kernel
theorem dX11_trim_23 : decode cX11_trim 23 = .ok (.invokevirtual 172, 3) := by decide +kernel
theorem dX11_trim_26 : decode cX11_trim 26 = .ok (.iload_n 1, 1) := by decide +kernel
theorem dX11_trim_27 : decode cX11_trim 27 = .ok (.ireturn, 1) := by decide +kernel
theorem dX11_read_0 : decode cX11_read 0 = .ok (.aload_n 0, 1) := by decide +kernel
theorem dX11_read_1 : decode cX11_read 1 = .ok (.getfield 44, 3) := by decide +kernel
theorem dX11_read_4 : decode cX11_read 4 = .ok (.invokevirtual 175, 3) := by decide +kernel
theorem dX11_read_7 : decode cX11_read 7 = .ok (.aload_n 0, 1) := by decide +kernel
theorem dX11_read_8 : decode cX11_read 8 = .ok (.getfield 37, 3) := by decide +kernel
theorem dX11_read_11 : decode cX11_read 11 = .ok (.aload_n 0, 1) := by decide +kernel
theorem dX11_read_12 : decode cX11_read 12 = .ok (.getfield 44, 3) := by decide +kernel
theorem dX11_read_15 : decode cX11_read 15 = .ok (.invokevirtual 178, 3) := by decide +kernel
theorem dX11_read_18 : decode cX11_read 18 = .ok (.istore_n 1, 1) := by decide +kernel
theorem dX11_read_19 : decode cX11_read 19 = .ok (.aload_n 0, 1) := by decide +kernel
theorem dX11_read_20 : decode cX11_read 20 = .ok (.getfield 37, 3) := by decide +kernel
theorem dX11_read_23 : decode cX11_read 23 = .ok (.iconst 0, 1) := by decide +kernel
theorem dX11_read_24 : decode cX11_read 24 = .ok (.invokevirtual 172, 3) := by decide +kernel
theorem dX11_read_27 : decode cX11_read 27 = .ok (.iload_n 1, 1) := by decide +kernel
theorem dX11_read_28 : decode cX11_read 28 = .ok (.ifCond .lt 8, 3) := by decide +kernel
theorem dX11_read_31 : decode cX11_read 31 = .ok (.bipush (-20), 2) := by decide +kernel
theorem dX11_read_33 : decode cX11_read 33 = .ok (.iload_n 1, 1) := by decide +kernel
theorem dX11_read_34 : decode cX11_read 34 = .ok (.isub, 1) := by decide +kernel
theorem dX11_read_35 : decode cX11_read 35 = .ok (.ireturn, 1) := by decide +kernel
theorem dX11_read_36 : decode cX11_read 36 = .ok (.aload_n 0, 1) := by decide +kernel
theorem dX11_read_37 : decode cX11_read 37 = .ok (.getfield 44, 3) := by decide +kernel
theorem dX11_read_40 : decode cX11_read 40 = .ok (.invokevirtual 182, 3) := by decide +kernel
theorem dX11_read_43 : decode cX11_read 43 = .ok (.sipush 600, 3) := by decide +kernel
theorem dX11_read_46 : decode cX11_read 46 = .ok (.if_icmp .le 6, 3) := by decide +kernel
theorem dX11_read_49 : decode cX11_read 49 = .ok (.bipush (-4), 2) := by decide +kernel
theorem dX11_read_51 : decode cX11_read 51 = .ok (.ireturn, 1) := by decide +kernel
theorem dX11_read_52 : decode cX11_read 52 = .ok (.aload_n 0, 1) := by decide +kernel
theorem dX11_read_53 : decode cX11_read 53 = .ok (.invokevirtual 185, 3) := by decide +kernel
theorem dX11_read_56 : decode cX11_read 56 = .ok (.ireturn, 1) := by decide +kernel
theorem dX11_sentence_0 : decode cX11_sentence 0 = .ok (.aload_n 0, 1) := by decide +kernel
theorem dX11_sentence_1 : decode cX11_sentence 1 = .ok (.iload_n 1, 1) := by decide +kernel
theorem dX11_sentence_2 : decode cX11_sentence 2 = .ok (.invokevirtual 188, 3) := by decide +kernel
theorem dX11_sentence_5 : decode cX11_sentence 5 = .ok (.astore_n 3, 1) := by decide +kernel
theorem dX11_sentence_6 : decode cX11_sentence 6 = .ok (.aload_n 3, 1) := by decide +kernel
theorem dX11_sentence_7 : decode cX11_sentence 7 = .ok (.ifnonnull 5, 3) := by decide +kernel
theorem dX11_sentence_10 : decode cX11_sentence 10 = .ok (.iconst (-1), 1) := by decide +kernel
theorem dX11_sentence_11 : decode cX11_sentence 11 = .ok (.ireturn, 1) := by decide +kernel
theorem dX11_sentence_12 : decode cX11_sentence 12 = .ok (.iload_n 2, 1) := by decide +kernel
theorem dX11_sentence_13 : decode cX11_sentence 13 = .ok (.ifCond .ne 8, 3) := by decide +kernel
theorem dX11_sentence_16 : decode cX11_sentence 16 = .ok (.aload_n 3, 1) := by decide +kernel
theorem dX11_sentence_17 : decode cX11_sentence 17 = .ok (.invokevirtual 192, 3) := by decide +kernel
theorem dX11_sentence_20 : decode cX11_sentence 20 = .ok (.ireturn, 1) := by decide +kernel
theorem dX11_sentence_21 : decode cX11_sentence 21 = .ok (.iload_n 2, 1) := by decide +kernel
theorem dX11_sentence_22 : decode cX11_sentence 22 = .ok (.iconst 1, 1) := by decide +kernel
theorem dX11_sentence_23 : decode cX11_sentence 23 = .ok (.if_icmp .ne 9, 3) := by decide +kernel
theorem dX11_sentence_26 : decode cX11_sentence 26 = .ok (.aload_n 3, 1) := by decide +kernel
theorem dX11_sentence_27 : decode cX11_sentence 27 = .ok (.invokevirtual 195, 3) := by decide +kernel
theorem dX11_sentence_30 : decode cX11_sentence 30 = .ok (.arraylength, 1) := by decide +kernel
theorem dX11_sentence_31 : decode cX11_sentence 31 = .ok (.ireturn, 1) := by decide +kernel
theorem dX11_sentence_32 : decode cX11_sentence 32 = .ok (.iload_n 2, 1) := by decide +kernel
theorem dX11_sentence_33 : decode cX11_sentence 33 = .ok (.iconst 2, 1) := by decide +kernel
theorem dX11_sentence_34 : decode cX11_sentence 34 = .ok (.if_icmp .ne 11, 3) := by decide +kernel
theorem dX11_sentence_37 : decode cX11_sentence 37 = .ok (.aload_n 3, 1) := by decide +kernel
theorem dX11_sentence_38 : decode cX11_sentence 38 = .ok (.invokevirtual 198, 3) := by decide +kernel
theorem dX11_sentence_41 : decode cX11_sentence 41 = .ok (.arraylength, 1) := by decide +kernel
theorem dX11_sentence_42 : decode cX11_sentence 42 = .ok (.goto 5, 3) := by decide +kernel
theorem dX11_sentence_45 : decode cX11_sentence 45 = .ok (.bipush (-2), 2) := by decide +kernel
theorem dX11_sentence_47 : decode cX11_sentence 47 = .ok (.ireturn, 1) := by decide +kernel
theorem dX11_written_0 : decode cX11_written 0 = .ok (.aload_n 0, 1) := by decide +kernel
theorem dX11_written_1 : decode cX11_written 1 = .ok (.iload_n 1, 1) := by decide +kernel
theorem dX11_written_2 : decode cX11_written 2 = .ok (.invokevirtual 188, 3) := by decide +kernel
theorem dX11_written_5 : decode cX11_written 5 = .ok (.astore_n 3, 1) := by decide +kernel
theorem dX11_written_6 : decode cX11_written 6 = .ok (.aload_n 3, 1) := by decide +kernel
theorem dX11_written_7 : decode cX11_written 7 = .ok (.ifnonnull 5, 3) := by decide +kernel
theorem dX11_written_10 : decode cX11_written 10 = .ok (.iconst (-1), 1) := by decide +kernel
theorem dX11_written_11 : decode cX11_written 11 = .ok (.ireturn, 1) := by decide +kernel
theorem dX11_written_12 : decode cX11_written 12 = .ok (.aload_n 3, 1) := by decide +kernel
theorem dX11_written_13 : decode cX11_written 13 = .ok (.invokevirtual 198, 3) := by decide +kernel
theorem dX11_written_16 : decode cX11_written 16 = .ok (.astore 4, 2) := by decide +kernel
theorem dX11_written_18 : decode cX11_written 18 = .ok (.iload_n 2, 1) := by decide +kernel
theorem dX11_written_19 : decode cX11_written 19 = .ok (.ifCond .lt 17, 3) := by decide +kernel
theorem dX11_written_22 : decode cX11_written 22 = .ok (.iload_n 2, 1) := by decide +kernel
theorem dX11_written_23 : decode cX11_written 23 = .ok (.aload 4, 2) := by decide +kernel
theorem dX11_written_25 : decode cX11_written 25 = .ok (.arraylength, 1) := by decide +kernel
theorem dX11_written_26 : decode cX11_written 26 = .ok (.if_icmp .ge 10, 3) := by decide +kernel
theorem dX11_written_29 : decode cX11_written 29 = .ok (.aload 4, 2) := by decide +kernel
theorem dX11_written_31 : decode cX11_written 31 = .ok (.iload_n 2, 1) := by decide +kernel
theorem dX11_written_32 : decode cX11_written 32 = .ok (.baload, 1) := by decide +kernel
theorem dX11_written_33 : decode cX11_written 33 = .ok (.goto 4, 3) := by decide +kernel
theorem dX11_written_36 : decode cX11_written 36 = .ok (.iconst (-1), 1) := by decide +kernel
theorem dX11_written_37 : decode cX11_written 37 = .ok (.ireturn, 1) := by decide +kernel
theorem dX11_holds_0 : decode cX11_holds 0 = .ok (.aload_n 0, 1) := by decide +kernel
theorem dX11_holds_1 : decode cX11_holds 1 = .ok (.iload_n 1, 1) := by decide +kernel
theorem dX11_holds_2 : decode cX11_holds 2 = .ok (.invokevirtual 188, 3) := by decide +kernel
theorem dX11_holds_5 : decode cX11_holds 5 = .ok (.astore_n 3, 1) := by decide +kernel
theorem dX11_holds_6 : decode cX11_holds 6 = .ok (.aload_n 0, 1) := by decide +kernel
theorem dX11_holds_7 : decode cX11_holds 7 = .ok (.iload_n 2, 1) := by decide +kernel
theorem dX11_holds_8 : decode cX11_holds 8 = .ok (.invokevirtual 94, 3) := by decide +kernel
theorem dX11_holds_11 : decode cX11_holds 11 = .ok (.astore 4, 2) := by decide +kernel
theorem dX11_holds_13 : decode cX11_holds 13 = .ok (.aload_n 3, 1) := by decide +kernel
theorem dX11_holds_14 : decode cX11_holds 14 = .ok (.ifnull 8, 3) := by decide +kernel
theorem dX11_holds_17 : decode cX11_holds 17 = .ok (.aload 4, 2) := by decide +kernel
theorem dX11_holds_19 : decode cX11_holds 19 = .ok (.ifnonnull 5, 3) := by decide +kernel
theorem dX11_holds_22 : decode cX11_holds 22 = .ok (.iconst (-1), 1) := by decide +kernel
theorem dX11_holds_23 : decode cX11_holds 23 = .ok (.ireturn, 1) := by decide +kernel
theorem dX11_holds_24 : decode cX11_holds 24 = .ok (.aload_n 0, 1) := by decide +kernel
theorem dX11_holds_25 : decode cX11_holds 25 = .ok (.getfield 58, 3) := by decide +kernel
theorem dX11_holds_28 : decode cX11_holds 28 = .ok (.aload_n 3, 1) := by decide +kernel
theorem dX11_holds_29 : decode cX11_holds 29 = .ok (.invokevirtual 195, 3) := by decide +kernel
theorem dX11_holds_32 : decode cX11_holds 32 = .ok (.aload 4, 2) := by decide +kernel
theorem dX11_holds_34 : decode cX11_holds 34 = .ok (.invokevirtual 202, 3) := by decide +kernel
theorem dX11_holds_37 : decode cX11_holds 37 = .ok (.ireturn, 1) := by decide +kernel
theorem dX11_asked_0 : decode cX11_asked 0 = .ok (.aload_n 0, 1) := by decide +kernel
theorem dX11_asked_1 : decode cX11_asked 1 = .ok (.getfield 58, 3) := by decide +kernel
theorem dX11_asked_4 : decode cX11_asked 4 = .ok (.invokevirtual 206, 3) := by decide +kernel
theorem dX11_asked_7 : decode cX11_asked 7 = .ok (.ireturn, 1) := by decide +kernel
theorem dX11_same_0 : decode cX11_same 0 = .ok (.aload_n 0, 1) := by decide +kernel
theorem dX11_same_1 : decode cX11_same 1 = .ok (.iload_n 1, 1) := by decide +kernel
theorem dX11_same_2 : decode cX11_same 2 = .ok (.invokevirtual 188, 3) := by decide +kernel
theorem dX11_same_5 : decode cX11_same 5 = .ok (.astore_n 3, 1) := by decide +kernel
theorem dX11_same_6 : decode cX11_same 6 = .ok (.aload_n 0, 1) := by decide +kernel
theorem dX11_same_7 : decode cX11_same 7 = .ok (.iload_n 2, 1) := by decide +kernel
theorem dX11_same_8 : decode cX11_same 8 = .ok (.invokevirtual 188, 3) := by decide +kernel
theorem dX11_same_11 : decode cX11_same 11 = .ok (.astore 4, 2) := by decide +kernel
theorem dX11_same_13 : decode cX11_same 13 = .ok (.aload_n 3, 1) := by decide +kernel
theorem dX11_same_14 : decode cX11_same 14 = .ok (.ifnull 8, 3) := by decide +kernel
theorem dX11_same_17 : decode cX11_same 17 = .ok (.aload 4, 2) := by decide +kernel
theorem dX11_same_19 : decode cX11_same 19 = .ok (.ifnonnull 5, 3) := by decide +kernel
theorem dX11_same_22 : decode cX11_same 22 = .ok (.iconst (-1), 1) := by decide +kernel
theorem dX11_same_23 : decode cX11_same 23 = .ok (.ireturn, 1) := by decide +kernel
theorem dX11_same_24 : decode cX11_same 24 = .ok (.aload_n 3, 1) := by decide +kernel
theorem dX11_same_25 : decode cX11_same 25 = .ok (.aload 4, 2) := by decide +kernel
theorem dX11_same_27 : decode cX11_same 27 = .ok (.invokevirtual 209, 3) := by decide +kernel
theorem dX11_same_30 : decode cX11_same 30 = .ok (.ifCond .eq 7, 3) := by decide +kernel
theorem dX11_same_33 : decode cX11_same 33 = .ok (.iconst 1, 1) := by decide +kernel
theorem dX11_same_34 : decode cX11_same 34 = .ok (.goto 4, 3) := by decide +kernel
theorem dX11_same_37 : decode cX11_same 37 = .ok (.iconst 0, 1) := by decide +kernel
theorem dX11_same_38 : decode cX11_same 38 = .ok (.ireturn, 1) := by decide +kernel
theorem dX11_part_0 : decode cX11_part 0 = .ok (.aload_n 0, 1) := by decide +kernel
theorem dX11_part_1 : decode cX11_part 1 = .ok (.iload_n 1, 1) := by decide +kernel
theorem dX11_part_2 : decode cX11_part 2 = .ok (.invokevirtual 94, 3) := by decide +kernel
theorem dX11_part_5 : decode cX11_part 5 = .ok (.astore_n 3, 1) := by decide +kernel
theorem dX11_part_6 : decode cX11_part 6 = .ok (.aload_n 0, 1) := by decide +kernel
theorem dX11_part_7 : decode cX11_part 7 = .ok (.iload_n 2, 1) := by decide +kernel
theorem dX11_part_8 : decode cX11_part 8 = .ok (.invokevirtual 94, 3) := by decide +kernel
theorem dX11_part_11 : decode cX11_part 11 = .ok (.astore 4, 2) := by decide +kernel
theorem dX11_part_13 : decode cX11_part 13 = .ok (.aload_n 3, 1) := by decide +kernel
theorem dX11_part_14 : decode cX11_part 14 = .ok (.ifnull 8, 3) := by decide +kernel
theorem dX11_part_17 : decode cX11_part 17 = .ok (.aload 4, 2) := by decide +kernel
theorem dX11_part_19 : decode cX11_part 19 = .ok (.ifnonnull 5, 3) := by decide +kernel
theorem dX11_part_22 : decode cX11_part 22 = .ok (.iconst (-1), 1) := by decide +kernel
theorem dX11_part_23 : decode cX11_part 23 = .ok (.ireturn, 1) := by decide +kernel
theorem dX11_part_24 : decode cX11_part 24 = .ok (.aload_n 0, 1) := by decide +kernel
theorem dX11_part_25 : decode cX11_part 25 = .ok (.getfield 23, 3) := by decide +kernel
theorem dX11_part_28 : decode cX11_part 28 = .ok (.aload_n 3, 1) := by decide +kernel
theorem dX11_part_29 : decode cX11_part 29 = .ok (.aload 4, 2) := by decide +kernel
theorem dX11_part_31 : decode cX11_part 31 = .ok (.invokevirtual 137, 3) := by decide +kernel
theorem dX11_part_34 : decode cX11_part 34 = .ok (.aload_n 0, 1) := by decide +kernel
theorem dX11_part_35 : decode cX11_part 35 = .ok (.getfield 23, 3) := by decide +kernel
theorem dX11_part_38 : decode cX11_part 38 = .ok (.iconst 3, 1) := by decide +kernel
theorem dX11_part_39 : decode cX11_part 39 = .ok (.invokevirtual 141, 3) := by decide +kernel
theorem dX11_part_42 : decode cX11_part 42 = .ok (.ifCond .eq 6, 3) := by decide +kernel
theorem dX11_part_45 : decode cX11_part 45 = .ok (.bipush (-9), 2) := by decide +kernel
theorem dX11_part_47 : decode cX11_part 47 = .ok (.ireturn, 1) := by decide +kernel
theorem dX11_part_48 : decode cX11_part 48 = .ok (.aload_n 0, 1) := by decide +kernel
theorem dX11_part_49 : decode cX11_part 49 = .ok (.getfield 68, 3) := by decide +kernel
theorem dX11_part_52 : decode cX11_part 52 = .ok (.bipush 20, 2) := by decide +kernel
theorem dX11_part_54 : decode cX11_part 54 = .ok (.if_icmp .lt 6, 3) := by decide +kernel
theorem dX11_part_57 : decode cX11_part 57 = .ok (.bipush (-4), 2) := by decide +kernel
theorem dX11_part_59 : decode cX11_part 59 = .ok (.ireturn, 1) := by decide +kernel
theorem dX11_part_60 : decode cX11_part 60 = .ok (.aload_n 0, 1) := by decide +kernel
theorem dX11_part_61 : decode cX11_part 61 = .ok (.getfield 44, 3) := by decide +kernel
theorem dX11_part_64 : decode cX11_part 64 = .ok (.invokevirtual 175, 3) := by decide +kernel
theorem dX11_part_67 : decode cX11_part 67 = .ok (.aload_n 0, 1) := by decide +kernel
theorem dX11_part_68 : decode cX11_part 68 = .ok (.getfield 23, 3) := by decide +kernel
theorem dX11_part_71 : decode cX11_part 71 = .ok (.aload_n 0, 1) := by decide +kernel
theorem dX11_part_72 : decode cX11_part 72 = .ok (.getfield 44, 3) := by decide +kernel
theorem dX11_part_75 : decode cX11_part 75 = .ok (.iconst 0, 1) := by decide +kernel
theorem dX11_part_76 : decode cX11_part 76 = .ok (.invokestatic 213, 3) := by decide +kernel
theorem dX11_part_79 : decode cX11_part 79 = .ok (.aload_n 0, 1) := by decide +kernel
theorem dX11_part_80 : decode cX11_part 80 = .ok (.invokevirtual 185, 3) := by decide +kernel
theorem dX11_part_83 : decode cX11_part 83 = .ok (.ireturn, 1) := by decide +kernel
theorem dX11_kinds_0 : decode cX11_kinds 0 = .ok (.aload_n 0, 1) := by decide +kernel
theorem dX11_kinds_1 : decode cX11_kinds 1 = .ok (.iload_n 1, 1) := by decide +kernel
theorem dX11_kinds_2 : decode cX11_kinds 2 = .ok (.invokevirtual 94, 3) := by decide +kernel
theorem dX11_kinds_5 : decode cX11_kinds 5 = .ok (.astore 4, 2) := by decide +kernel
theorem dX11_kinds_7 : decode cX11_kinds 7 = .ok (.aload_n 0, 1) := by decide +kernel
theorem dX11_kinds_8 : decode cX11_kinds 8 = .ok (.iload_n 2, 1) := by decide +kernel
theorem dX11_kinds_9 : decode cX11_kinds 9 = .ok (.invokevirtual 94, 3) := by decide +kernel
theorem dX11_kinds_12 : decode cX11_kinds 12 = .ok (.astore 5, 2) := by decide +kernel
theorem dX11_kinds_14 : decode cX11_kinds 14 = .ok (.aload 4, 2) := by decide +kernel
theorem dX11_kinds_16 : decode cX11_kinds 16 = .ok (.ifnull 8, 3) := by decide +kernel
theorem dX11_kinds_19 : decode cX11_kinds 19 = .ok (.aload 5, 2) := by decide +kernel
theorem dX11_kinds_21 : decode cX11_kinds 21 = .ok (.ifnonnull 5, 3) := by decide +kernel
theorem dX11_kinds_24 : decode cX11_kinds 24 = .ok (.iconst (-1), 1) := by decide +kernel
theorem dX11_kinds_25 : decode cX11_kinds 25 = .ok (.ireturn, 1) := by decide +kernel
theorem dX11_kinds_26 : decode cX11_kinds 26 = .ok (.iload_n 3, 1) := by decide +kernel
theorem dX11_kinds_27 : decode cX11_kinds 27 = .ok (.ifCond .lt 8, 3) := by decide +kernel
theorem dX11_kinds_30 : decode cX11_kinds 30 = .ok (.iload_n 3, 1) := by decide +kernel
theorem dX11_kinds_31 : decode cX11_kinds 31 = .ok (.iconst 2, 1) := by decide +kernel
theorem dX11_kinds_32 : decode cX11_kinds 32 = .ok (.if_icmp .le 6, 3) := by decide +kernel
theorem dX11_kinds_35 : decode cX11_kinds 35 = .ok (.bipush (-2), 2) := by decide +kernel
theorem dX11_kinds_37 : decode cX11_kinds 37 = .ok (.ireturn, 1) := by decide +kernel
theorem dX11_kinds_38 : decode cX11_kinds 38 = .ok (.aload_n 0, 1) := by decide +kernel
theorem dX11_kinds_39 : decode cX11_kinds 39 = .ok (.getfield 75, 3) := by decide +kernel
theorem dX11_kinds_42 : decode cX11_kinds 42 = .ok (.aload 4, 2) := by decide +kernel
theorem dX11_kinds_44 : decode cX11_kinds 44 = .ok (.aload 5, 2) := by decide +kernel
theorem dX11_kinds_46 : decode cX11_kinds 46 = .ok (.iload_n 3, 1) := by decide +kernel
theorem dX11_kinds_47 : decode cX11_kinds 47 = .ok (.aload_n 0, 1) := by decide +kernel
theorem dX11_kinds_48 : decode cX11_kinds 48 = .ok (.getfield 23, 3) := by decide +kernel
theorem dX11_kinds_51 : decode cX11_kinds 51 = .ok (.invokevirtual 219, 3) := by decide +kernel
theorem dX11_kinds_54 : decode cX11_kinds 54 = .ok (.ireturn, 1) := by decide +kernel
theorem dX11_kind_0 : decode cX11_kind 0 = .ok (.aload_n 0, 1) := by decide +kernel
theorem dX11_kind_1 : decode cX11_kind 1 = .ok (.getfield 75, 3) := by decide +kernel
theorem dX11_kind_4 : decode cX11_kind 4 = .ok (.iload_n 1, 1) := by decide +kernel
theorem dX11_kind_5 : decode cX11_kind 5 = .ok (.invokevirtual 223, 3) := by decide +kernel
theorem dX11_kind_8 : decode cX11_kind 8 = .ok (.ireturn, 1) := by decide +kernel
theorem dX11_colour_0 : decode cX11_colour 0 = .ok (.aload_n 0, 1) := by decide +kernel
theorem dX11_colour_1 : decode cX11_colour 1 = .ok (.iload_n 1, 1) := by decide +kernel
theorem dX11_colour_2 : decode cX11_colour 2 = .ok (.invokevirtual 94, 3) := by decide +kernel
theorem dX11_colour_5 : decode cX11_colour 5 = .ok (.astore 4, 2) := by decide +kernel
theorem dX11_colour_7 : decode cX11_colour 7 = .ok (.aload_n 0, 1) := by decide +kernel
theorem dX11_colour_8 : decode cX11_colour 8 = .ok (.iload_n 2, 1) := by decide +kernel
theorem dX11_colour_9 : decode cX11_colour 9 = .ok (.invokevirtual 94, 3) := by decide +kernel
theorem dX11_colour_12 : decode cX11_colour 12 = .ok (.astore 5, 2) := by decide +kernel
theorem dX11_colour_14 : decode cX11_colour 14 = .ok (.aload 4, 2) := by decide +kernel
theorem dX11_colour_16 : decode cX11_colour 16 = .ok (.ifnull 8, 3) := by decide +kernel
theorem dX11_colour_19 : decode cX11_colour 19 = .ok (.aload 5, 2) := by decide +kernel
theorem dX11_colour_21 : decode cX11_colour 21 = .ok (.ifnonnull 5, 3) := by decide +kernel
theorem dX11_colour_24 : decode cX11_colour 24 = .ok (.iconst (-1), 1) := by decide +kernel
theorem dX11_colour_25 : decode cX11_colour 25 = .ok (.ireturn, 1) := by decide +kernel
theorem dX11_colour_26 : decode cX11_colour 26 = .ok (.iload_n 3, 1) := by decide +kernel
theorem dX11_colour_27 : decode cX11_colour 27 = .ok (.ifCond .eq 11, 3) := by decide +kernel
theorem dX11_colour_30 : decode cX11_colour 30 = .ok (.iload_n 3, 1) := by decide +kernel
theorem dX11_colour_31 : decode cX11_colour 31 = .ok (.iconst 1, 1) := by decide +kernel
theorem dX11_colour_32 : decode cX11_colour 32 = .ok (.if_icmp .eq 6, 3) := by decide +kernel
theorem dX11_colour_35 : decode cX11_colour 35 = .ok (.bipush (-2), 2) := by decide +kernel
theorem dX11_colour_37 : decode cX11_colour 37 = .ok (.ireturn, 1) := by decide +kernel
theorem dX11_colour_38 : decode cX11_colour 38 = .ok (.aload_n 0, 1) := by decide +kernel
theorem dX11_colour_39 : decode cX11_colour 39 = .ok (.getfield 82, 3) := by decide +kernel
theorem dX11_colour_42 : decode cX11_colour 42 = .ok (.aload 4, 2) := by decide +kernel
theorem dX11_colour_44 : decode cX11_colour 44 = .ok (.aload 5, 2) := by decide +kernel
theorem dX11_colour_46 : decode cX11_colour 46 = .ok (.iload_n 3, 1) := by decide +kernel
theorem dX11_colour_47 : decode cX11_colour 47 = .ok (.iconst 1, 1) := by decide +kernel
theorem dX11_colour_48 : decode cX11_colour 48 = .ok (.if_icmp .ne 7, 3) := by decide +kernel
theorem dX11_colour_51 : decode cX11_colour 51 = .ok (.iconst 1, 1) := by decide +kernel
theorem dX11_colour_52 : decode cX11_colour 52 = .ok (.goto 4, 3) := by decide +kernel
theorem dX11_colour_55 : decode cX11_colour 55 = .ok (.iconst 0, 1) := by decide +kernel
theorem dX11_colour_56 : decode cX11_colour 56 = .ok (.invokevirtual 226, 3) := by decide +kernel
theorem dX11_colour_59 : decode cX11_colour 59 = .ok (.ireturn, 1) := by decide +kernel
theorem dX11_coloured_0 : decode cX11_coloured 0 = .ok (.aload_n 0, 1) := by decide +kernel
theorem dX11_coloured_1 : decode cX11_coloured 1 = .ok (.getfield 82, 3) := by decide +kernel
theorem dX11_coloured_4 : decode cX11_coloured 4 = .ok (.iload_n 1, 1) := by decide +kernel
theorem dX11_coloured_5 : decode cX11_coloured 5 = .ok (.invokevirtual 230, 3) := by decide +kernel
theorem dX11_coloured_8 : decode cX11_coloured 8 = .ok (.ireturn, 1) := by decide +kernel
theorem dX11_still_0 : decode cX11_still 0 = .ok (.iload_n 1, 1) := by decide +kernel
theorem dX11_still_1 : decode cX11_still 1 = .ok (.ifCond .eq 11, 3) := by decide +kernel
theorem dX11_still_4 : decode cX11_still 4 = .ok (.iload_n 1, 1) := by decide +kernel
theorem dX11_still_5 : decode cX11_still 5 = .ok (.iconst 1, 1) := by decide +kernel
theorem dX11_still_6 : decode cX11_still 6 = .ok (.if_icmp .eq 6, 3) := by decide +kernel
theorem dX11_still_9 : decode cX11_still 9 = .ok (.bipush (-2), 2) := by decide +kernel
theorem dX11_still_11 : decode cX11_still 11 = .ok (.ireturn, 1) := by decide +kernel
theorem dX11_still_12 : decode cX11_still 12 = .ok (.aload_n 0, 1) := by decide +kernel
theorem dX11_still_13 : decode cX11_still 13 = .ok (.getfield 82, 3) := by decide +kernel
theorem dX11_still_16 : decode cX11_still 16 = .ok (.invokevirtual 233, 3) := by decide +kernel
theorem dX11_still_19 : decode cX11_still 19 = .ok (.ifCond .ne 6, 3) := by decide +kernel
theorem dX11_still_22 : decode cX11_still 22 = .ok (.bipush (-3), 2) := by decide +kernel
theorem dX11_still_24 : decode cX11_still 24 = .ok (.ireturn, 1) := by decide +kernel
theorem dX11_still_25 : decode cX11_still 25 = .ok (.iload_n 1, 1) := by decide +kernel
theorem dX11_still_26 : decode cX11_still 26 = .ok (.ifCond .ne 11, 3) := by decide +kernel
theorem dX11_still_29 : decode cX11_still 29 = .ok (.aload_n 0, 1) := by decide +kernel
theorem dX11_still_30 : decode cX11_still 30 = .ok (.getfield 82, 3) := by decide +kernel
theorem dX11_still_33 : decode cX11_still 33 = .ok (.invokevirtual 236, 3) := by decide +kernel
theorem dX11_still_36 : decode cX11_still 36 = .ok (.ireturn, 1) := by decide +kernel
theorem dX11_still_37 : decode cX11_still 37 = .ok (.aload_n 0, 1) := by decide +kernel
theorem dX11_still_38 : decode cX11_still 38 = .ok (.getfield 82, 3) := by decide +kernel
theorem dX11_still_41 : decode cX11_still 41 = .ok (.invokevirtual 239, 3) := by decide +kernel
theorem dX11_still_44 : decode cX11_still 44 = .ok (.ifCond .eq 7, 3) := by decide +kernel
theorem dX11_still_47 : decode cX11_still 47 = .ok (.iconst 1, 1) := by decide +kernel
theorem dX11_still_48 : decode cX11_still 48 = .ok (.goto 4, 3) := by decide +kernel
theorem dX11_still_51 : decode cX11_still 51 = .ok (.iconst 0, 1) := by decide +kernel
theorem dX11_still_52 : decode cX11_still 52 = .ok (.ireturn, 1) := by decide +kernel
theorem dX11_told_0 : decode cX11_told 0 = .ok (.iload_n 1, 1) := by decide +kernel
theorem dX11_told_1 : decode cX11_told 1 = .ok (.ifCond .ne 8, 3) := by decide +kernel
theorem dX11_told_4 : decode cX11_told 4 = .ok (.aload_n 0, 1) := by decide +kernel
theorem dX11_told_5 : decode cX11_told 5 = .ok (.invokevirtual 243, 3) := by decide +kernel
theorem dX11_told_8 : decode cX11_told 8 = .ok (.ireturn, 1) := by decide +kernel
theorem dX11_told_9 : decode cX11_told 9 = .ok (.iload_n 1, 1) := by decide +kernel
theorem dX11_told_10 : decode cX11_told 10 = .ok (.iconst 1, 1) := by decide +kernel
theorem dX11_told_11 : decode cX11_told 11 = .ok (.if_icmp .ne 8, 3) := by decide +kernel
theorem dX11_told_14 : decode cX11_told 14 = .ok (.aload_n 0, 1) := by decide +kernel
theorem dX11_told_15 : decode cX11_told 15 = .ok (.getfield 68, 3) := by decide +kernel
theorem dX11_told_18 : decode cX11_told 18 = .ok (.ireturn, 1) := by decide +kernel
theorem dX11_told_19 : decode cX11_told 19 = .ok (.iload_n 1, 1) := by decide +kernel
theorem dX11_told_20 : decode cX11_told 20 = .ok (.iconst 2, 1) := by decide +kernel
theorem dX11_told_21 : decode cX11_told 21 = .ok (.if_icmp .ne 11, 3) := by decide +kernel
theorem dX11_told_24 : decode cX11_told 24 = .ok (.aload_n 0, 1) := by decide +kernel
theorem dX11_told_25 : decode cX11_told 25 = .ok (.getfield 37, 3) := by decide +kernel
theorem dX11_told_28 : decode cX11_told 28 = .ok (.invokevirtual 166, 3) := by decide +kernel
theorem dX11_told_31 : decode cX11_told 31 = .ok (.ireturn, 1) := by decide +kernel
theorem dX11_told_32 : decode cX11_told 32 = .ok (.iload_n 1, 1) := by decide +kernel
theorem dX11_told_33 : decode cX11_told 33 = .ok (.iconst 3, 1) := by decide +kernel
theorem dX11_told_34 : decode cX11_told 34 = .ok (.if_icmp .ne 11, 3) := by decide +kernel
theorem dX11_told_37 : decode cX11_told 37 = .ok (.aload_n 0, 1) := by decide +kernel
theorem dX11_told_38 : decode cX11_told 38 = .ok (.getfield 75, 3) := by decide +kernel
theorem dX11_told_41 : decode cX11_told 41 = .ok (.invokevirtual 246, 3) := by decide +kernel
theorem dX11_told_44 : decode cX11_told 44 = .ok (.ireturn, 1) := by decide +kernel
theorem dX11_told_45 : decode cX11_told 45 = .ok (.iload_n 1, 1) := by decide +kernel
theorem dX11_told_46 : decode cX11_told 46 = .ok (.iconst 4, 1) := by decide +kernel
theorem dX11_told_47 : decode cX11_told 47 = .ok (.if_icmp .ne 13, 3) := by decide +kernel
theorem dX11_told_50 : decode cX11_told 50 = .ok (.aload_n 0, 1) := by decide +kernel
theorem dX11_told_51 : decode cX11_told 51 = .ok (.getfield 82, 3) := by decide +kernel
theorem dX11_told_54 : decode cX11_told 54 = .ok (.invokevirtual 233, 3) := by decide +kernel
theorem dX11_told_57 : decode cX11_told 57 = .ok (.goto 5, 3) := by decide +kernel
theorem dX11_told_60 : decode cX11_told 60 = .ok (.bipush (-2), 2) := by decide +kernel
theorem dX11_told_62 : decode cX11_told 62 = .ok (.ireturn, 1) := by decide +kernel
theorem dX11_placeOf_0 : decode cX11_placeOf 0 = .ok (.iload_n 1, 1) := by decide +kernel
theorem dX11_placeOf_1 : decode cX11_placeOf 1 = .ok (.ifCond .lt 21, 3) := by decide +kernel
theorem dX11_placeOf_4 : decode cX11_placeOf 4 = .ok (.iload_n 1, 1) := by decide +kernel
theorem dX11_placeOf_5 : decode cX11_placeOf 5 = .ok (.aload_n 0, 1) := by decide +kernel
theorem dX11_placeOf_6 : decode cX11_placeOf 6 = .ok (.getfield 11, 3) := by decide +kernel
theorem dX11_placeOf_9 : decode cX11_placeOf 9 = .ok (.arraylength, 1) := by decide +kernel
theorem dX11_placeOf_10 : decode cX11_placeOf 10 = .ok (.if_icmp .ge 12, 3) := by decide +kernel
theorem dX11_placeOf_13 : decode cX11_placeOf 13 = .ok (.aload_n 0, 1) := by decide +kernel
theorem dX11_placeOf_14 : decode cX11_placeOf 14 = .ok (.getfield 11, 3) := by decide +kernel
theorem dX11_placeOf_17 : decode cX11_placeOf 17 = .ok (.iload_n 1, 1) := by decide +kernel
theorem dX11_placeOf_18 : decode cX11_placeOf 18 = .ok (.aaload, 1) := by decide +kernel
theorem dX11_placeOf_19 : decode cX11_placeOf 19 = .ok (.goto 4, 3) := by decide +kernel
theorem dX11_placeOf_22 : decode cX11_placeOf 22 = .ok (.aconst_null, 1) := by decide +kernel
theorem dX11_placeOf_23 : decode cX11_placeOf 23 = .ok (.areturn, 1) := by decide +kernel
theorem dX11_worldOf_0 : decode cX11_worldOf 0 = .ok (.aload_n 0, 1) := by decide +kernel
theorem dX11_worldOf_1 : decode cX11_worldOf 1 = .ok (.iload_n 1, 1) := by decide +kernel
theorem dX11_worldOf_2 : decode cX11_worldOf 2 = .ok (.invokevirtual 86, 3) := by decide +kernel
theorem dX11_worldOf_5 : decode cX11_worldOf 5 = .ok (.astore_n 2, 1) := by decide +kernel
theorem dX11_worldOf_6 : decode cX11_worldOf 6 = .ok (.aload_n 2, 1) := by decide +kernel
theorem dX11_worldOf_7 : decode cX11_worldOf 7 = .ok (.ifnull 14, 3) := by decide +kernel
theorem dX11_worldOf_10 : decode cX11_worldOf 10 = .ok (.aload_n 2, 1) := by decide +kernel
theorem dX11_worldOf_11 : decode cX11_worldOf 11 = .ok (.invokevirtual 116, 3) := by decide +kernel
theorem dX11_worldOf_14 : decode cX11_worldOf 14 = .ok (.ifCond .le 7, 3) := by decide +kernel
theorem dX11_worldOf_17 : decode cX11_worldOf 17 = .ok (.aload_n 2, 1) := by decide +kernel
theorem dX11_worldOf_18 : decode cX11_worldOf 18 = .ok (.goto 4, 3) := by decide +kernel
theorem dX11_worldOf_21 : decode cX11_worldOf 21 = .ok (.aconst_null, 1) := by decide +kernel
theorem dX11_worldOf_22 : decode cX11_worldOf 22 = .ok (.areturn, 1) := by decide +kernel
theorem dX11_countWorlds_0 : decode cX11_countWorlds 0 = .ok (.iconst 0, 1) := by decide +kernel
theorem dX11_countWorlds_1 : decode cX11_countWorlds 1 = .ok (.istore_n 1, 1) := by decide +kernel
theorem dX11_countWorlds_2 : decode cX11_countWorlds 2 = .ok (.iconst 0, 1) := by decide +kernel
theorem dX11_countWorlds_3 : decode cX11_countWorlds 3 = .ok (.istore_n 2, 1) := by decide +kernel
theorem dX11_countWorlds_4 : decode cX11_countWorlds 4 = .ok (.iload_n 2, 1) := by decide +kernel
theorem dX11_countWorlds_5 : decode cX11_countWorlds 5 = .ok (.bipush 6, 2) := by decide +kernel
theorem dX11_countWorlds_7 : decode cX11_countWorlds 7 = .ok (.if_icmp .ge 20, 3) := by decide +kernel
theorem dX11_countWorlds_10 : decode cX11_countWorlds 10 = .ok (.aload_n 0, 1) := by decide +kernel
theorem dX11_countWorlds_11 : decode cX11_countWorlds 11 = .ok (.iload_n 2, 1) := by decide +kernel
theorem dX11_countWorlds_12 : decode cX11_countWorlds 12 = .ok (.invokevirtual 94, 3) := by decide +kernel
theorem dX11_countWorlds_15 : decode cX11_countWorlds 15 = .ok (.ifnull 6, 3) := by decide +kernel
theorem dX11_countWorlds_18 : decode cX11_countWorlds 18 = .ok (.iinc 1 1, 3) := by decide +kernel
theorem dX11_countWorlds_21 : decode cX11_countWorlds 21 = .ok (.iinc 2 1, 3) := by decide +kernel
theorem dX11_countWorlds_24 : decode cX11_countWorlds 24 = .ok (.goto (-20), 3) := by decide +kernel
theorem dX11_countWorlds_27 : decode cX11_countWorlds 27 = .ok (.iload_n 1, 1) := by decide +kernel
theorem dX11_countWorlds_28 : decode cX11_countWorlds 28 = .ok (.ireturn, 1) := by decide +kernel
theorem dX11_sentenceOf_0 : decode cX11_sentenceOf 0 = .ok (.iload_n 1, 1) := by decide +kernel
theorem dX11_sentenceOf_1 : decode cX11_sentenceOf 1 = .ok (.ifCond .lt 29, 3) := by decide +kernel
theorem dX11_sentenceOf_4 : decode cX11_sentenceOf 4 = .ok (.iload_n 1, 1) := by decide +kernel
theorem dX11_sentenceOf_5 : decode cX11_sentenceOf 5 = .ok (.aload_n 0, 1) := by decide +kernel
theorem dX11_sentenceOf_6 : decode cX11_sentenceOf 6 = .ok (.getfield 68, 3) := by decide +kernel
theorem dX11_sentenceOf_9 : decode cX11_sentenceOf 9 = .ok (.if_icmp .ge 21, 3) := by decide +kernel
theorem dX11_sentenceOf_12 : decode cX11_sentenceOf 12 = .ok (.iload_n 1, 1) := by decide +kernel
theorem dX11_sentenceOf_13 : decode cX11_sentenceOf 13 = .ok (.aload_n 0, 1) := by decide +kernel
theorem dX11_sentenceOf_14 : decode cX11_sentenceOf 14 = .ok (.getfield 64, 3) := by decide +kernel
theorem dX11_sentenceOf_17 : decode cX11_sentenceOf 17 = .ok (.arraylength, 1) := by decide +kernel
theorem dX11_sentenceOf_18 : decode cX11_sentenceOf 18 = .ok (.if_icmp .ge 12, 3) := by decide +kernel
theorem dX11_sentenceOf_21 : decode cX11_sentenceOf 21 = .ok (.aload_n 0, 1) := by decide +kernel
theorem dX11_sentenceOf_22 : decode cX11_sentenceOf 22 = .ok (.getfield 64, 3) := by decide +kernel
theorem dX11_sentenceOf_25 : decode cX11_sentenceOf 25 = .ok (.iload_n 1, 1) := by decide +kernel
theorem dX11_sentenceOf_26 : decode cX11_sentenceOf 26 = .ok (.aaload, 1) := by decide +kernel
theorem dX11_sentenceOf_27 : decode cX11_sentenceOf 27 = .ok (.goto 4, 3) := by decide +kernel
theorem dX11_sentenceOf_30 : decode cX11_sentenceOf 30 = .ok (.aconst_null, 1) := by decide +kernel
theorem dX11_sentenceOf_31 : decode cX11_sentenceOf 31 = .ok (.areturn, 1) := by decide +kernel
theorem dX11_keepSentence_0 : decode cX11_keepSentence 0 = .ok (.aload_n 0, 1) := by decide +kernel
theorem dX11_keepSentence_1 : decode cX11_keepSentence 1 = .ok (.getfield 68, 3) := by decide +kernel
theorem dX11_keepSentence_4 : decode cX11_keepSentence 4 = .ok (.istore_n 1, 1) := by decide +kernel
theorem dX11_keepSentence_5 : decode cX11_keepSentence 5 = .ok (.iload_n 1, 1) := by decide +kernel
theorem dX11_keepSentence_6 : decode cX11_keepSentence 6 = .ok (.ifCond .lt 12, 3) := by decide +kernel
theorem dX11_keepSentence_9 : decode cX11_keepSentence 9 = .ok (.iload_n 1, 1) := by decide +kernel
theorem dX11_keepSentence_10 : decode cX11_keepSentence 10 = .ok (.aload_n 0, 1) := by decide +kernel
theorem dX11_keepSentence_11 : decode cX11_keepSentence 11 = .ok (.getfield 64, 3) := by decide +kernel
theorem dX11_keepSentence_14 : decode cX11_keepSentence 14 = .ok (.arraylength, 1) := by decide +kernel
theorem dX11_keepSentence_15 : decode cX11_keepSentence 15 = .ok (.if_icmp .lt 6, 3) := by decide +kernel
theorem dX11_keepSentence_18 : decode cX11_keepSentence 18 = .ok (.bipush (-4), 2) := by decide +kernel
theorem dX11_keepSentence_20 : decode cX11_keepSentence 20 = .ok (.ireturn, 1) := by decide +kernel
theorem dX11_keepSentence_21 : decode cX11_keepSentence 21 = .ok (.aload_n 0, 1) := by decide +kernel
theorem dX11_keepSentence_22 : decode cX11_keepSentence 22 = .ok (.getfield 44, 3) := by decide +kernel
theorem dX11_keepSentence_25 : decode cX11_keepSentence 25 = .ok (.invokevirtual 247, 3) := by decide +kernel
theorem dX11_keepSentence_28 : decode cX11_keepSentence 28 = .ok (.astore_n 2, 1) := by decide +kernel
theorem dX11_keepSentence_29 : decode cX11_keepSentence 29 = .ok (.aload_n 0, 1) := by decide +kernel
theorem dX11_keepSentence_30 : decode cX11_keepSentence 30 = .ok (.getfield 64, 3) := by decide +kernel
theorem dX11_keepSentence_33 : decode cX11_keepSentence 33 = .ok (.iload_n 1, 1) := by decide +kernel
theorem dX11_keepSentence_34 : decode cX11_keepSentence 34 = .ok (.new 62, 3) := by decide +kernel
theorem dX11_keepSentence_37 : decode cX11_keepSentence 37 = .ok (.dup, 1) := by decide +kernel
theorem dX11_keepSentence_38 : decode cX11_keepSentence 38 = .ok (.aload_n 2, 1) := by decide +kernel
theorem dX11_keepSentence_39 : decode cX11_keepSentence 39 = .ok (.aload_n 0, 1) := by decide +kernel
theorem dX11_keepSentence_40 : decode cX11_keepSentence 40 = .ok (.getfield 51, 3) := by decide +kernel
theorem dX11_keepSentence_43 : decode cX11_keepSentence 43 = .ok (.aload_n 2, 1) := by decide +kernel
theorem dX11_keepSentence_44 : decode cX11_keepSentence 44 = .ok (.invokevirtual 250, 3) := by decide +kernel
theorem dX11_keepSentence_47 : decode cX11_keepSentence 47 = .ok (.aload_n 0, 1) := by decide +kernel
theorem dX11_keepSentence_48 : decode cX11_keepSentence 48 = .ok (.getfield 44, 3) := by decide +kernel
theorem dX11_keepSentence_51 : decode cX11_keepSentence 51 = .ok (.invokevirtual 254, 3) := by decide +kernel
theorem dX11_keepSentence_54 : decode cX11_keepSentence 54 = .ok (.invokespecial 255, 3) := by decide +kernel
theorem dX11_keepSentence_57 : decode cX11_keepSentence 57 = .ok (.aastore, 1) := by decide +kernel
theorem dX11_keepSentence_58 : decode cX11_keepSentence 58 = .ok (.aload_n 0, 1) := by decide +kernel
theorem dX11_keepSentence_59 : decode cX11_keepSentence 59 = .ok (.dup, 1) := by decide +kernel
theorem dX11_keepSentence_60 : decode cX11_keepSentence 60 = .ok (.getfield 68, 3) := by decide +kernel
theorem dX11_keepSentence_63 : decode cX11_keepSentence 63 = .ok (.iconst 1, 1) := by decide +kernel
theorem dX11_keepSentence_64 : decode cX11_keepSentence 64 = .ok (.iadd, 1) := by decide +kernel
theorem dX11_keepSentence_65 : decode cX11_keepSentence 65 = .ok (.putfield 68, 3) := by decide +kernel
theorem dX11_keepSentence_68 : decode cX11_keepSentence 68 = .ok (.iload_n 1, 1) := by decide +kernel
theorem dX11_keepSentence_69 : decode cX11_keepSentence 69 = .ok (.ireturn, 1) := by decide +kernel
theorem dX12_init_0 : decode cX12_init 0 = .ok (.aload_n 0, 1) := by decide +kernel
theorem dX12_init_1 : decode cX12_init 1 = .ok (.invokespecial 1, 3) := by decide +kernel
theorem dX12_init_4 : decode cX12_init 4 = .ok (.aload_n 0, 1) := by decide +kernel
theorem dX12_init_5 : decode cX12_init 5 = .ok (.bipush 8, 2) := by decide +kernel
theorem dX12_init_7 : decode cX12_init 7 = .ok (.newarray .int, 2) := by decide +kernel
theorem dX12_init_9 : decode cX12_init 9 = .ok (.putfield 7, 3) := by decide +kernel
theorem dX12_init_12 : decode cX12_init 12 = .ok (.aload_n 0, 1) := by decide +kernel
theorem dX12_init_13 : decode cX12_init 13 = .ok (.bipush 48, 2) := by decide +kernel
theorem dX12_init_15 : decode cX12_init 15 = .ok (.newarray .int, 2) := by decide +kernel
theorem dX12_init_17 : decode cX12_init 17 = .ok (.putfield 13, 3) := by decide +kernel
theorem dX12_init_20 : decode cX12_init 20 = .ok (.aload_n 0, 1) := by decide +kernel
theorem dX12_init_21 : decode cX12_init 21 = .ok (.bipush 48, 2) := by decide +kernel
theorem dX12_init_23 : decode cX12_init 23 = .ok (.newarray .int, 2) := by decide +kernel
theorem dX12_init_25 : decode cX12_init 25 = .ok (.putfield 16, 3) := by decide +kernel
theorem dX12_init_28 : decode cX12_init 28 = .ok (.aload_n 0, 1) := by decide +kernel
theorem dX12_init_29 : decode cX12_init 29 = .ok (.bipush 6, 2) := by decide +kernel
theorem dX12_init_31 : decode cX12_init 31 = .ok (.newarray .int, 2) := by decide +kernel
theorem dX12_init_33 : decode cX12_init 33 = .ok (.putfield 19, 3) := by decide +kernel
theorem dX12_init_36 : decode cX12_init 36 = .ok (.aload_n 0, 1) := by decide +kernel
theorem dX12_init_37 : decode cX12_init 37 = .ok (.bipush 6, 2) := by decide +kernel
theorem dX12_init_39 : decode cX12_init 39 = .ok (.newarray .int, 2) := by decide +kernel
theorem dX12_init_41 : decode cX12_init 41 = .ok (.putfield 22, 3) := by decide +kernel
theorem dX12_init_44 : decode cX12_init 44 = .ok (.aload_n 0, 1) := by decide +kernel
theorem dX12_init_45 : decode cX12_init 45 = .ok (.iconst 5, 1) := by decide +kernel
theorem dX12_init_46 : decode cX12_init 46 = .ok (.newarray .int, 2) := by decide +kernel
theorem dX12_init_48 : decode cX12_init 48 = .ok (.putfield 25, 3) := by decide +kernel
theorem dX12_init_51 : decode cX12_init 51 = .ok (.aload_n 0, 1) := by decide +kernel
theorem dX12_init_52 : decode cX12_init 52 = .ok (.iconst 5, 1) := by decide +kernel
theorem dX12_init_53 : decode cX12_init 53 = .ok (.newarray .int, 2) := by decide +kernel
theorem dX12_init_55 : decode cX12_init 55 = .ok (.putfield 28, 3) := by decide +kernel
theorem dX12_init_58 : decode cX12_init 58 = .ok (.aload_n 0, 1) := by decide +kernel
theorem dX12_init_59 : decode cX12_init 59 = .ok (.iconst 5, 1) := by decide +kernel
theorem dX12_init_60 : decode cX12_init 60 = .ok (.newarray .int, 2) := by decide +kernel
theorem dX12_init_62 : decode cX12_init 62 = .ok (.putfield 31, 3) := by decide +kernel
theorem dX12_init_65 : decode cX12_init 65 = .ok (.aload_n 0, 1) := by decide +kernel
theorem dX12_init_66 : decode cX12_init 66 = .ok (.iconst 5, 1) := by decide +kernel
theorem dX12_init_67 : decode cX12_init 67 = .ok (.newarray .int, 2) := by decide +kernel
theorem dX12_init_69 : decode cX12_init 69 = .ok (.putfield 34, 3) := by decide +kernel
theorem dX12_init_72 : decode cX12_init 72 = .ok (.aload_n 0, 1) := by decide +kernel
theorem dX12_init_73 : decode cX12_init 73 = .ok (.bipush 20, 2) := by decide +kernel
theorem dX12_init_75 : decode cX12_init 75 = .ok (.newarray .int, 2) := by decide +kernel
theorem dX12_init_77 : decode cX12_init 77 = .ok (.putfield 37, 3) := by decide +kernel
theorem dX12_init_80 : decode cX12_init 80 = .ok (.aload_n 0, 1) := by decide +kernel
theorem dX12_init_81 : decode cX12_init 81 = .ok (.sipush 12000, 3) := by decide +kernel
theorem dX12_init_84 : decode cX12_init 84 = .ok (.newarray .byte, 2) := by decide +kernel
theorem dX12_init_86 : decode cX12_init 86 = .ok (.putfield 40, 3) := by decide +kernel
theorem dX12_init_89 : decode cX12_init 89 = .ok (.aload_n 0, 1) := by decide +kernel
theorem dX12_init_90 : decode cX12_init 90 = .ok (.sipush 12000, 3) := by decide +kernel
theorem dX12_init_93 : decode cX12_init 93 = .ok (.newarray .int, 2) := by decide +kernel
theorem dX12_init_95 : decode cX12_init 95 = .ok (.putfield 44, 3) := by decide +kernel
theorem dX12_init_98 : decode cX12_init 98 = .ok (.aload_n 0, 1) := by decide +kernel
theorem dX12_init_99 : decode cX12_init 99 = .ok (.sipush 12000, 3) := by decide +kernel
theorem dX12_init_102 : decode cX12_init 102 = .ok (.newarray .byte, 2) := by decide +kernel
theorem dX12_init_104 : decode cX12_init 104 = .ok (.putfield 47, 3) := by decide +kernel
theorem dX12_init_107 : decode cX12_init 107 = .ok (.aload_n 0, 1) := by decide +kernel
theorem dX12_init_108 : decode cX12_init 108 = .ok (.sipush 12000, 3) := by decide +kernel
theorem dX12_init_111 : decode cX12_init 111 = .ok (.newarray .int, 2) := by decide +kernel
theorem dX12_init_113 : decode cX12_init 113 = .ok (.putfield 50, 3) := by decide +kernel
theorem dX12_init_116 : decode cX12_init 116 = .ok (.aload_n 0, 1) := by decide +kernel
theorem dX12_init_117 : decode cX12_init 117 = .ok (.sipush 1000, 3) := by decide +kernel
theorem dX12_init_120 : decode cX12_init 120 = .ok (.newarray .byte, 2) := by decide +kernel
theorem dX12_init_122 : decode cX12_init 122 = .ok (.putfield 53, 3) := by decide +kernel
theorem dX12_init_125 : decode cX12_init 125 = .ok (.aload_n 0, 1) := by decide +kernel
theorem dX12_init_126 : decode cX12_init 126 = .ok (.sipush 1000, 3) := by decide +kernel
theorem dX12_init_129 : decode cX12_init 129 = .ok (.newarray .int, 2) := by decide +kernel
theorem dX12_init_131 : decode cX12_init 131 = .ok (.putfield 56, 3) := by decide +kernel
theorem dX12_init_134 : decode cX12_init 134 = .ok (.aload_n 0, 1) := by decide +kernel
theorem dX12_init_135 : decode cX12_init 135 = .ok (.sipush 1000, 3) := by decide +kernel
theorem dX12_init_138 : decode cX12_init 138 = .ok (.newarray .byte, 2) := by decide +kernel
theorem dX12_init_140 : decode cX12_init 140 = .ok (.putfield 59, 3) := by decide +kernel
theorem dX12_init_143 : decode cX12_init 143 = .ok (.aload_n 0, 1) := by decide +kernel
theorem dX12_init_144 : decode cX12_init 144 = .ok (.sipush 800, 3) := by decide +kernel
theorem dX12_init_147 : decode cX12_init 147 = .ok (.newarray .byte, 2) := by decide +kernel
theorem dX12_init_149 : decode cX12_init 149 = .ok (.putfield 62, 3) := by decide +kernel
theorem dX12_init_152 : decode cX12_init 152 = .ok (.aload_n 0, 1) := by decide +kernel
theorem dX12_init_153 : decode cX12_init 153 = .ok (.bipush 32, 2) := by decide +kernel
theorem dX12_init_155 : decode cX12_init 155 = .ok (.newarray .int, 2) := by decide +kernel
theorem dX12_init_157 : decode cX12_init 157 = .ok (.putfield 65, 3) := by decide +kernel
theorem dX12_init_160 : decode cX12_init 160 = .ok (.aload_n 0, 1) := by decide +kernel
theorem dX12_init_161 : decode cX12_init 161 = .ok (.bipush 32, 2) := by decide +kernel
theorem dX12_init_163 : decode cX12_init 163 = .ok (.newarray .int, 2) := by decide +kernel
theorem dX12_init_165 : decode cX12_init 165 = .ok (.putfield 68, 3) := by decide +kernel
theorem dX12_init_168 : decode cX12_init 168 = .ok (.aload_n 0, 1) := by decide +kernel
theorem dX12_init_169 : decode cX12_init 169 = .ok (.bipush 32, 2) := by decide +kernel
theorem dX12_init_171 : decode cX12_init 171 = .ok (.newarray .int, 2) := by decide +kernel
theorem dX12_init_173 : decode cX12_init 173 = .ok (.putfield 71, 3) := by decide +kernel
theorem dX12_init_176 : decode cX12_init 176 = .ok (.aload_n 0, 1) := by decide +kernel
theorem dX12_init_177 : decode cX12_init 177 = .ok (.bipush 10, 2) := by decide +kernel
theorem dX12_init_179 : decode cX12_init 179 = .ok (.newarray .int, 2) := by decide +kernel
theorem dX12_init_181 : decode cX12_init 181 = .ok (.putfield 74, 3) := by decide +kernel
theorem dX12_init_184 : decode cX12_init 184 = .ok (.aload_n 0, 1) := by decide +kernel
theorem dX12_init_185 : decode cX12_init 185 = .ok (.bipush 64, 2) := by decide +kernel
theorem dX12_init_187 : decode cX12_init 187 = .ok (.newarray .int, 2) := by decide +kernel
theorem dX12_init_189 : decode cX12_init 189 = .ok (.putfield 77, 3) := by decide +kernel
theorem dX12_init_192 : decode cX12_init 192 = .ok (.aload_n 0, 1) := by decide +kernel
theorem dX12_init_193 : decode cX12_init 193 = .ok (.bipush 64, 2) := by decide +kernel
theorem dX12_init_195 : decode cX12_init 195 = .ok (.newarray .int, 2) := by decide +kernel
theorem dX12_init_197 : decode cX12_init 197 = .ok (.putfield 80, 3) := by decide +kernel
theorem dX12_init_200 : decode cX12_init 200 = .ok (.aload_n 0, 1) := by decide +kernel
theorem dX12_init_201 : decode cX12_init 201 = .ok (.bipush 64, 2) := by decide +kernel
theorem dX12_init_203 : decode cX12_init 203 = .ok (.newarray .int, 2) := by decide +kernel
theorem dX12_init_205 : decode cX12_init 205 = .ok (.putfield 83, 3) := by decide +kernel
theorem dX12_init_208 : decode cX12_init 208 = .ok (.aload_n 0, 1) := by decide +kernel
theorem dX12_init_209 : decode cX12_init 209 = .ok (.sipush 8000, 3) := by decide +kernel
theorem dX12_init_212 : decode cX12_init 212 = .ok (.newarray .byte, 2) := by decide +kernel
theorem dX12_init_214 : decode cX12_init 214 = .ok (.putfield 86, 3) := by decide +kernel
theorem dX12_init_217 : decode cX12_init 217 = .ok (.aload_n 0, 1) := by decide +kernel
theorem dX12_init_218 : decode cX12_init 218 = .ok (.bipush 10, 2) := by decide +kernel
theorem dX12_init_220 : decode cX12_init 220 = .ok (.newarray .int, 2) := by decide +kernel
theorem dX12_init_222 : decode cX12_init 222 = .ok (.putfield 89, 3) := by decide +kernel
theorem dX12_init_225 : decode cX12_init 225 = .ok (.aload_n 0, 1) := by decide +kernel
theorem dX12_init_226 : decode cX12_init 226 = .ok (.bipush 12, 2) := by decide +kernel
theorem dX12_init_228 : decode cX12_init 228 = .ok (.newarray .int, 2) := by decide +kernel
theorem dX12_init_230 : decode cX12_init 230 = .ok (.putfield 92, 3) := by decide +kernel
theorem dX12_init_233 : decode cX12_init 233 = .ok (.aload_n 0, 1) := by decide +kernel
theorem dX12_init_234 : decode cX12_init 234 = .ok (.bipush 72, 2) := by decide +kernel
theorem dX12_init_236 : decode cX12_init 236 = .ok (.newarray .int, 2) := by decide +kernel
theorem dX12_init_238 : decode cX12_init 238 = .ok (.putfield 95, 3) := by decide +kernel
theorem dX12_init_241 : decode cX12_init 241 = .ok (.aload_n 0, 1) := by decide +kernel
theorem dX12_init_242 : decode cX12_init 242 = .ok (.bipush 72, 2) := by decide +kernel
theorem dX12_init_244 : decode cX12_init 244 = .ok (.newarray .int, 2) := by decide +kernel
theorem dX12_init_246 : decode cX12_init 246 = .ok (.putfield 98, 3) := by decide +kernel
theorem dX12_init_249 : decode cX12_init 249 = .ok (.aload_n 0, 1) := by decide +kernel
theorem dX12_init_250 : decode cX12_init 250 = .ok (.bipush 72, 2) := by decide +kernel
theorem dX12_init_252 : decode cX12_init 252 = .ok (.newarray .int, 2) := by decide +kernel
theorem dX12_init_254 : decode cX12_init 254 = .ok (.putfield 101, 3) := by decide +kernel
theorem dX12_init_257 : decode cX12_init 257 = .ok (.aload_n 0, 1) := by decide +kernel
theorem dX12_init_258 : decode cX12_init 258 = .ok (.bipush 72, 2) := by decide +kernel
theorem dX12_init_260 : decode cX12_init 260 = .ok (.newarray .int, 2) := by decide +kernel
theorem dX12_init_262 : decode cX12_init 262 = .ok (.putfield 104, 3) := by decide +kernel
theorem dX12_init_265 : decode cX12_init 265 = .ok (.aload_n 0, 1) := by decide +kernel
theorem dX12_init_266 : decode cX12_init 266 = .ok (.bipush 72, 2) := by decide +kernel
theorem dX12_init_268 : decode cX12_init 268 = .ok (.newarray .int, 2) := by decide +kernel
theorem dX12_init_270 : decode cX12_init 270 = .ok (.putfield 107, 3) := by decide +kernel
theorem dX12_init_273 : decode cX12_init 273 = .ok (.aload_n 0, 1) := by decide +kernel
theorem dX12_init_274 : decode cX12_init 274 = .ok (.bipush 72, 2) := by decide +kernel
theorem dX12_init_276 : decode cX12_init 276 = .ok (.newarray .int, 2) := by decide +kernel
theorem dX12_init_278 : decode cX12_init 278 = .ok (.putfield 110, 3) := by decide +kernel
theorem dX12_init_281 : decode cX12_init 281 = .ok (.aload_n 0, 1) := by decide +kernel
theorem dX12_init_282 : decode cX12_init 282 = .ok (.bipush 72, 2) := by decide +kernel
theorem dX12_init_284 : decode cX12_init 284 = .ok (.newarray .long, 2) := by decide +kernel
theorem dX12_init_286 : decode cX12_init 286 = .ok (.putfield 113, 3) := by decide +kernel
theorem dX12_init_289 : decode cX12_init 289 = .ok (.aload_n 0, 1) := by decide +kernel
theorem dX12_init_290 : decode cX12_init 290 = .ok (.bipush 72, 2) := by decide +kernel
theorem dX12_init_292 : decode cX12_init 292 = .ok (.newarray .long, 2) := by decide +kernel
theorem dX12_init_294 : decode cX12_init 294 = .ok (.putfield 117, 3) := by decide +kernel
theorem dX12_init_297 : decode cX12_init 297 = .ok (.aload_n 0, 1) := by decide +kernel
theorem dX12_init_298 : decode cX12_init 298 = .ok (.bipush 72, 2) := by decide +kernel
theorem dX12_init_300 : decode cX12_init 300 = .ok (.newarray .long, 2) := by decide +kernel
theorem dX12_init_302 : decode cX12_init 302 = .ok (.putfield 120, 3) := by decide +kernel
theorem dX12_init_305 : decode cX12_init 305 = .ok (.aload_n 0, 1) := by decide +kernel
theorem dX12_init_306 : decode cX12_init 306 = .ok (.bipush 72, 2) := by decide +kernel
theorem dX12_init_308 : decode cX12_init 308 = .ok (.newarray .long, 2) := by decide +kernel
theorem dX12_init_310 : decode cX12_init 310 = .ok (.putfield 123, 3) := by decide +kernel
theorem dX12_init_313 : decode cX12_init 313 = .ok (.aload_n 0, 1) := by decide +kernel
theorem dX12_init_314 : decode cX12_init 314 = .ok (.iconst 0, 1) := by decide +kernel
theorem dX12_init_315 : decode cX12_init 315 = .ok (.putfield 126, 3) := by decide +kernel
theorem dX12_init_318 : decode cX12_init 318 = .ok (.aload_n 0, 1) := by decide +kernel
theorem dX12_init_319 : decode cX12_init 319 = .ok (.iconst (-1), 1) := by decide +kernel
theorem dX12_init_320 : decode cX12_init 320 = .ok (.putfield 130, 3) := by decide +kernel
theorem dX12_init_323 : decode cX12_init 323 = .ok (.return_, 1) := by decide +kernel
theorem dX12_in_0 : decode cX12_in 0 = .ok (.iload_n 0, 1) := by decide +kernel
theorem dX12_in_1 : decode cX12_in 1 = .ok (.iload_n 1, 1) := by decide +kernel
theorem dX12_in_2 : decode cX12_in 2 = .ok (.if_icmp .lt 12, 3) := by decide +kernel
theorem dX12_in_5 : decode cX12_in 5 = .ok (.iload_n 0, 1) := by decide +kernel
theorem dX12_in_6 : decode cX12_in 6 = .ok (.iload_n 2, 1) := by decide +kernel
theorem dX12_in_7 : decode cX12_in 7 = .ok (.if_icmp .gt 7, 3) := by decide +kernel
theorem dX12_in_10 : decode cX12_in 10 = .ok (.iconst 1, 1) := by decide +kernel
theorem dX12_in_11 : decode cX12_in 11 = .ok (.goto 4, 3) := by decide +kernel
theorem dX12_in_14 : decode cX12_in 14 = .ok (.iconst 0, 1) := by decide +kernel
theorem dX12_in_15 : decode cX12_in 15 = .ok (.ireturn, 1) := by decide +kernel
theorem dX12_noPlace_0 : decode cX12_noPlace 0 = .ok (.iload_n 0, 1) := by decide +kernel
theorem dX12_noPlace_1 : decode cX12_noPlace 1 = .ok (.iconst 0, 1) := by decide +kernel
theorem dX12_noPlace_2 : decode cX12_noPlace 2 = .ok (.iconst 5, 1) := by decide +kernel
theorem dX12_noPlace_3 : decode cX12_noPlace 3 = .ok (.invokestatic 133, 3) := by decide +kernel
theorem dX12_noPlace_6 : decode cX12_noPlace 6 = .ok (.ifCond .ne 7, 3) := by decide +kernel
theorem dX12_noPlace_9 : decode cX12_noPlace 9 = .ok (.iconst 1, 1) := by decide +kernel
theorem dX12_noPlace_10 : decode cX12_noPlace 10 = .ok (.goto 4, 3) := by decide +kernel
theorem dX12_noPlace_13 : decode cX12_noPlace 13 = .ok (.iconst 0, 1) := by decide +kernel
theorem dX12_noPlace_14 : decode cX12_noPlace 14 = .ok (.ireturn, 1) := by decide +kernel
theorem dX12_noWorld_0 : decode cX12_noWorld 0 = .ok (.iload_n 1, 1) := by decide +kernel
theorem dX12_noWorld_1 : decode cX12_noWorld 1 = .ok (.invokestatic 137, 3) := by decide +kernel
theorem dX12_noWorld_4 : decode cX12_noWorld 4 = .ok (.ifCond .ne 12, 3) := by decide +kernel
theorem dX12_noWorld_7 : decode cX12_noWorld 7 = .ok (.aload_n 0, 1) := by decide +kernel
theorem dX12_noWorld_8 : decode cX12_noWorld 8 = .ok (.getfield 7, 3) := by decide +kernel
theorem dX12_noWorld_11 : decode cX12_noWorld 11 = .ok (.iload_n 1, 1) := by decide +kernel
theorem dX12_noWorld_12 : decode cX12_noWorld 12 = .ok (.iaload, 1) := by decide +kernel
theorem dX12_noWorld_13 : decode cX12_noWorld 13 = .ok (.ifCond .ne 7, 3) := by decide +kernel
theorem dX12_noWorld_16 : decode cX12_noWorld 16 = .ok (.iconst 1, 1) := by decide +kernel
theorem dX12_noWorld_17 : decode cX12_noWorld 17 = .ok (.goto 4, 3) := by decide +kernel
theorem dX12_noWorld_20 : decode cX12_noWorld 20 = .ok (.iconst 0, 1) := by decide +kernel
theorem dX12_noWorld_21 : decode cX12_noWorld 21 = .ok (.ireturn, 1) := by decide +kernel
theorem dX12_noThing_0 : decode cX12_noThing 0 = .ok (.aload_n 0, 1) := by decide +kernel
theorem dX12_noThing_1 : decode cX12_noThing 1 = .ok (.iload_n 1, 1) := by decide +kernel
theorem dX12_noThing_2 : decode cX12_noThing 2 = .ok (.invokevirtual 141, 3) := by decide +kernel
theorem dX12_noThing_5 : decode cX12_noThing 5 = .ok (.ifCond .ne 19, 3) := by decide +kernel
theorem dX12_noThing_8 : decode cX12_noThing 8 = .ok (.iload_n 2, 1) := by decide +kernel
theorem dX12_noThing_9 : decode cX12_noThing 9 = .ok (.iconst 0, 1) := by decide +kernel
theorem dX12_noThing_10 : decode cX12_noThing 10 = .ok (.aload_n 0, 1) := by decide +kernel
theorem dX12_noThing_11 : decode cX12_noThing 11 = .ok (.getfield 7, 3) := by decide +kernel
theorem dX12_noThing_14 : decode cX12_noThing 14 = .ok (.iload_n 1, 1) := by decide +kernel
theorem dX12_noThing_15 : decode cX12_noThing 15 = .ok (.iaload, 1) := by decide +kernel
theorem dX12_noThing_16 : decode cX12_noThing 16 = .ok (.iconst 1, 1) := by decide +kernel
theorem dX12_noThing_17 : decode cX12_noThing 17 = .ok (.isub, 1) := by decide +kernel
theorem dX12_noThing_18 : decode cX12_noThing 18 = .ok (.invokestatic 133, 3) := by decide +kernel
theorem dX12_noThing_21 : decode cX12_noThing 21 = .ok (.ifCond .ne 7, 3) := by decide +kernel
theorem dX12_noThing_24 : decode cX12_noThing 24 = .ok (.iconst 1, 1) := by decide +kernel
theorem dX12_noThing_25 : decode cX12_noThing 25 = .ok (.goto 4, 3) := by decide +kernel
theorem dX12_noThing_28 : decode cX12_noThing 28 = .ok (.iconst 0, 1) := by decide +kernel
theorem dX12_noThing_29 : decode cX12_noThing 29 = .ok (.ireturn, 1) := by decide +kernel
theorem dX12_world_0 : decode cX12_world 0 = .ok (.iload_n 1, 1) := by decide +kernel
theorem dX12_world_1 : decode cX12_world 1 = .ok (.invokestatic 137, 3) := by decide +kernel
theorem dX12_world_4 : decode cX12_world 4 = .ok (.ifCond .eq 5, 3) := by decide +kernel
theorem dX12_world_7 : decode cX12_world 7 = .ok (.iconst (-1), 1) := by decide +kernel
theorem dX12_world_8 : decode cX12_world 8 = .ok (.ireturn, 1) := by decide +kernel
theorem dX12_world_9 : decode cX12_world 9 = .ok (.iload_n 2, 1) := by decide +kernel
theorem dX12_world_10 : decode cX12_world 10 = .ok (.iconst 1, 1) := by decide +kernel
theorem dX12_world_11 : decode cX12_world 11 = .ok (.bipush 6, 2) := by decide +kernel
theorem dX12_world_13 : decode cX12_world 13 = .ok (.invokestatic 133, 3) := by decide +kernel
theorem dX12_world_16 : decode cX12_world 16 = .ok (.ifCond .ne 6, 3) := by decide +kernel
theorem dX12_world_19 : decode cX12_world 19 = .ok (.bipush (-2), 2) := by decide +kernel
theorem dX12_world_21 : decode cX12_world 21 = .ok (.ireturn, 1) := by decide +kernel
theorem dX12_world_22 : decode cX12_world 22 = .ok (.aload_n 0, 1) := by decide +kernel
theorem dX12_world_23 : decode cX12_world 23 = .ok (.getfield 7, 3) := by decide +kernel
theorem dX12_world_26 : decode cX12_world 26 = .ok (.iload_n 1, 1) := by decide +kernel
theorem dX12_world_27 : decode cX12_world 27 = .ok (.iload_n 2, 1) := by decide +kernel
theorem dX12_world_28 : decode cX12_world 28 = .ok (.iastore, 1) := by decide +kernel
theorem dX12_world_29 : decode cX12_world 29 = .ok (.iconst 0, 1) := by decide +kernel
theorem dX12_world_30 : decode cX12_world 30 = .ok (.istore_n 3, 1) := by decide +kernel
theorem dX12_world_31 : decode cX12_world 31 = .ok (.iload_n 3, 1) := by decide +kernel
theorem dX12_world_32 : decode cX12_world 32 = .ok (.bipush 6, 2) := by decide +kernel
theorem dX12_world_34 : decode cX12_world 34 = .ok (.if_icmp .ge 33, 3) := by decide +kernel
theorem dX12_world_37 : decode cX12_world 37 = .ok (.aload_n 0, 1) := by decide +kernel
theorem dX12_world_38 : decode cX12_world 38 = .ok (.getfield 13, 3) := by decide +kernel
theorem dX12_world_41 : decode cX12_world 41 = .ok (.bipush 6, 2) := by decide +kernel
theorem dX12_world_43 : decode cX12_world 43 = .ok (.iload_n 1, 1) := by decide +kernel
theorem dX12_world_44 : decode cX12_world 44 = .ok (.imul, 1) := by decide +kernel
theorem dX12_world_45 : decode cX12_world 45 = .ok (.iload_n 3, 1) := by decide +kernel
theorem dX12_world_46 : decode cX12_world 46 = .ok (.iadd, 1) := by decide +kernel
theorem dX12_world_47 : decode cX12_world 47 = .ok (.iconst 0, 1) := by decide +kernel
theorem dX12_world_48 : decode cX12_world 48 = .ok (.iastore, 1) := by decide +kernel
theorem dX12_world_49 : decode cX12_world 49 = .ok (.aload_n 0, 1) := by decide +kernel
theorem dX12_world_50 : decode cX12_world 50 = .ok (.getfield 16, 3) := by decide +kernel
theorem dX12_world_53 : decode cX12_world 53 = .ok (.bipush 6, 2) := by decide +kernel
theorem dX12_world_55 : decode cX12_world 55 = .ok (.iload_n 1, 1) := by decide +kernel
theorem dX12_world_56 : decode cX12_world 56 = .ok (.imul, 1) := by decide +kernel
theorem dX12_world_57 : decode cX12_world 57 = .ok (.iload_n 3, 1) := by decide +kernel
theorem dX12_world_58 : decode cX12_world 58 = .ok (.iadd, 1) := by decide +kernel
theorem dX12_world_59 : decode cX12_world 59 = .ok (.iconst 0, 1) := by decide +kernel
theorem dX12_world_60 : decode cX12_world 60 = .ok (.iastore, 1) := by decide +kernel
theorem dX12_world_61 : decode cX12_world 61 = .ok (.iinc 3 1, 3) := by decide +kernel
theorem dX12_world_64 : decode cX12_world 64 = .ok (.goto (-33), 3) := by decide +kernel
theorem dX12_world_67 : decode cX12_world 67 = .ok (.iload_n 2, 1) := by decide +kernel
theorem dX12_world_68 : decode cX12_world 68 = .ok (.ireturn, 1) := by decide +kernel
theorem dX12_mark_0 : decode cX12_mark 0 = .ok (.aload_n 0, 1) := by decide +kernel
theorem dX12_mark_1 : decode cX12_mark 1 = .ok (.iload_n 1, 1) := by decide +kernel
theorem dX12_mark_2 : decode cX12_mark 2 = .ok (.iload_n 2, 1) := by decide +kernel
theorem dX12_mark_3 : decode cX12_mark 3 = .ok (.invokevirtual 144, 3) := by decide +kernel
theorem dX12_mark_6 : decode cX12_mark 6 = .ok (.ifCond .eq 5, 3) := by decide +kernel
theorem dX12_mark_9 : decode cX12_mark 9 = .ok (.iconst (-1), 1) := by decide +kernel
theorem dX12_mark_10 : decode cX12_mark 10 = .ok (.ireturn, 1) := by decide +kernel
theorem dX12_mark_11 : decode cX12_mark 11 = .ok (.iload_n 3, 1) := by decide +kernel
theorem dX12_mark_12 : decode cX12_mark 12 = .ok (.iconst 0, 1) := by decide +kernel
theorem dX12_mark_13 : decode cX12_mark 13 = .ok (.iconst 1, 1) := by decide +kernel
theorem dX12_mark_14 : decode cX12_mark 14 = .ok (.invokestatic 133, 3) := by decide +kernel
theorem dX12_mark_17 : decode cX12_mark 17 = .ok (.ifCond .ne 6, 3) := by decide +kernel
theorem dX12_mark_20 : decode cX12_mark 20 = .ok (.bipush (-2), 2) := by decide +kernel
theorem dX12_mark_22 : decode cX12_mark 22 = .ok (.ireturn, 1) := by decide +kernel
theorem dX12_mark_23 : decode cX12_mark 23 = .ok (.aload_n 0, 1) := by decide +kernel
theorem dX12_mark_24 : decode cX12_mark 24 = .ok (.getfield 13, 3) := by decide +kernel
theorem dX12_mark_27 : decode cX12_mark 27 = .ok (.bipush 6, 2) := by decide +kernel
theorem dX12_mark_29 : decode cX12_mark 29 = .ok (.iload_n 1, 1) := by decide +kernel
theorem dX12_mark_30 : decode cX12_mark 30 = .ok (.imul, 1) := by decide +kernel
theorem dX12_mark_31 : decode cX12_mark 31 = .ok (.iload_n 2, 1) := by decide +kernel
theorem dX12_mark_32 : decode cX12_mark 32 = .ok (.iadd, 1) := by decide +kernel
theorem dX12_mark_33 : decode cX12_mark 33 = .ok (.iaload, 1) := by decide +kernel
theorem dX12_mark_34 : decode cX12_mark 34 = .ok (.istore 5, 2) := by decide +kernel
theorem dX12_mark_36 : decode cX12_mark 36 = .ok (.aload_n 0, 1) := by decide +kernel
theorem dX12_mark_37 : decode cX12_mark 37 = .ok (.getfield 13, 3) := by decide +kernel
theorem dX12_mark_40 : decode cX12_mark 40 = .ok (.bipush 6, 2) := by decide +kernel
theorem dX12_mark_42 : decode cX12_mark 42 = .ok (.iload_n 1, 1) := by decide +kernel
theorem dX12_mark_43 : decode cX12_mark 43 = .ok (.imul, 1) := by decide +kernel
theorem dX12_mark_44 : decode cX12_mark 44 = .ok (.iload_n 2, 1) := by decide +kernel
theorem dX12_mark_45 : decode cX12_mark 45 = .ok (.iadd, 1) := by decide +kernel
theorem dX12_mark_46 : decode cX12_mark 46 = .ok (.iload 4, 2) := by decide +kernel
theorem dX12_mark_48 : decode cX12_mark 48 = .ok (.ifCond .eq 12, 3) := by decide +kernel
theorem dX12_mark_51 : decode cX12_mark 51 = .ok (.iload 5, 2) := by decide +kernel
theorem dX12_mark_53 : decode cX12_mark 53 = .ok (.iconst 1, 1) := by decide +kernel
theorem dX12_mark_54 : decode cX12_mark 54 = .ok (.iload_n 3, 1) := by decide +kernel
theorem dX12_mark_55 : decode cX12_mark 55 = .ok (.ishl, 1) := by decide +kernel
theorem dX12_mark_56 : decode cX12_mark 56 = .ok (.ior, 1) := by decide +kernel
theorem dX12_mark_57 : decode cX12_mark 57 = .ok (.goto 11, 3) := by decide +kernel
theorem dX12_mark_60 : decode cX12_mark 60 = .ok (.iload 5, 2) := by decide +kernel
theorem dX12_mark_62 : decode cX12_mark 62 = .ok (.iconst 1, 1) := by decide +kernel
theorem dX12_mark_63 : decode cX12_mark 63 = .ok (.iload_n 3, 1) := by decide +kernel
theorem dX12_mark_64 : decode cX12_mark 64 = .ok (.ishl, 1) := by decide +kernel
theorem dX12_mark_65 : decode cX12_mark 65 = .ok (.iconst (-1), 1) := by decide +kernel
theorem dX12_mark_66 : decode cX12_mark 66 = .ok (.ixor, 1) := by decide +kernel
theorem dX12_mark_67 : decode cX12_mark 67 = .ok (.iand, 1) := by decide +kernel
theorem dX12_mark_68 : decode cX12_mark 68 = .ok (.iastore, 1) := by decide +kernel
theorem dX12_mark_69 : decode cX12_mark 69 = .ok (.aload_n 0, 1) := by decide +kernel
theorem dX12_mark_70 : decode cX12_mark 70 = .ok (.getfield 13, 3) := by decide +kernel
theorem dX12_mark_73 : decode cX12_mark 73 = .ok (.bipush 6, 2) := by decide +kernel
theorem dX12_mark_75 : decode cX12_mark 75 = .ok (.iload_n 1, 1) := by decide +kernel
theorem dX12_mark_76 : decode cX12_mark 76 = .ok (.imul, 1) := by decide +kernel
theorem dX12_mark_77 : decode cX12_mark 77 = .ok (.iload_n 2, 1) := by decide +kernel
theorem dX12_mark_78 : decode cX12_mark 78 = .ok (.iadd, 1) := by decide +kernel
theorem dX12_mark_79 : decode cX12_mark 79 = .ok (.iaload, 1) := by decide +kernel
theorem dX12_mark_80 : decode cX12_mark 80 = .ok (.iload 5, 2) := by decide +kernel
theorem dX12_mark_82 : decode cX12_mark 82 = .ok (.if_icmp .ne 7, 3) := by decide +kernel
theorem dX12_mark_85 : decode cX12_mark 85 = .ok (.iconst 0, 1) := by decide +kernel
theorem dX12_mark_86 : decode cX12_mark 86 = .ok (.goto 4, 3) := by decide +kernel
theorem dX12_mark_89 : decode cX12_mark 89 = .ok (.iconst 1, 1) := by decide +kernel
theorem dX12_mark_90 : decode cX12_mark 90 = .ok (.ireturn, 1) := by decide +kernel
theorem dX12_tie_0 : decode cX12_tie 0 = .ok (.aload_n 0, 1) := by decide +kernel
theorem dX12_tie_1 : decode cX12_tie 1 = .ok (.iload_n 1, 1) := by decide +kernel
theorem dX12_tie_2 : decode cX12_tie 2 = .ok (.iload_n 2, 1) := by decide +kernel
theorem dX12_tie_3 : decode cX12_tie 3 = .ok (.invokevirtual 144, 3) := by decide +kernel
theorem dX12_tie_6 : decode cX12_tie 6 = .ok (.ifCond .ne 12, 3) := by decide +kernel
theorem dX12_tie_9 : decode cX12_tie 9 = .ok (.aload_n 0, 1) := by decide +kernel
theorem dX12_tie_10 : decode cX12_tie 10 = .ok (.iload_n 1, 1) := by decide +kernel
theorem dX12_tie_11 : decode cX12_tie 11 = .ok (.iload_n 3, 1) := by decide +kernel
theorem dX12_tie_12 : decode cX12_tie 12 = .ok (.invokevirtual 144, 3) := by decide +kernel
theorem dX12_tie_15 : decode cX12_tie 15 = .ok (.ifCond .eq 5, 3) := by decide +kernel
theorem dX12_tie_18 : decode cX12_tie 18 = .ok (.iconst (-1), 1) := by decide +kernel
theorem dX12_tie_19 : decode cX12_tie 19 = .ok (.ireturn, 1) := by decide +kernel
theorem dX12_tie_20 : decode cX12_tie 20 = .ok (.aload_n 0, 1) := by decide +kernel
theorem dX12_tie_21 : decode cX12_tie 21 = .ok (.getfield 16, 3) := by decide +kernel
theorem dX12_tie_24 : decode cX12_tie 24 = .ok (.bipush 6, 2) := by decide +kernel
theorem dX12_tie_26 : decode cX12_tie 26 = .ok (.iload_n 1, 1) := by decide +kernel
theorem dX12_tie_27 : decode cX12_tie 27 = .ok (.imul, 1) := by decide +kernel
theorem dX12_tie_28 : decode cX12_tie 28 = .ok (.iload_n 2, 1) := by decide +kernel
theorem dX12_tie_29 : decode cX12_tie 29 = .ok (.iadd, 1) := by decide +kernel
theorem dX12_tie_30 : decode cX12_tie 30 = .ok (.iaload, 1) := by decide +kernel
theorem dX12_tie_31 : decode cX12_tie 31 = .ok (.istore 5, 2) := by decide +kernel
theorem dX12_tie_33 : decode cX12_tie 33 = .ok (.aload_n 0, 1) := by decide +kernel
theorem dX12_tie_34 : decode cX12_tie 34 = .ok (.getfield 16, 3) := by decide +kernel
theorem dX12_tie_37 : decode cX12_tie 37 = .ok (.bipush 6, 2) := by decide +kernel
theorem dX12_tie_39 : decode cX12_tie 39 = .ok (.iload_n 1, 1) := by decide +kernel
theorem dX12_tie_40 : decode cX12_tie 40 = .ok (.imul, 1) := by decide +kernel
theorem dX12_tie_41 : decode cX12_tie 41 = .ok (.iload_n 2, 1) := by decide +kernel
theorem dX12_tie_42 : decode cX12_tie 42 = .ok (.iadd, 1) := by decide +kernel
theorem dX12_tie_43 : decode cX12_tie 43 = .ok (.iload 4, 2) := by decide +kernel
theorem dX12_tie_45 : decode cX12_tie 45 = .ok (.ifCond .eq 12, 3) := by decide +kernel
theorem dX12_tie_48 : decode cX12_tie 48 = .ok (.iload 5, 2) := by decide +kernel
theorem dX12_tie_50 : decode cX12_tie 50 = .ok (.iconst 1, 1) := by decide +kernel
theorem dX12_tie_51 : decode cX12_tie 51 = .ok (.iload_n 3, 1) := by decide +kernel
theorem dX12_tie_52 : decode cX12_tie 52 = .ok (.ishl, 1) := by decide +kernel
theorem dX12_tie_53 : decode cX12_tie 53 = .ok (.ior, 1) := by decide +kernel
theorem dX12_tie_54 : decode cX12_tie 54 = .ok (.goto 11, 3) := by decide +kernel
theorem dX12_tie_57 : decode cX12_tie 57 = .ok (.iload 5, 2) := by decide +kernel
theorem dX12_tie_59 : decode cX12_tie 59 = .ok (.iconst 1, 1) := by decide +kernel
theorem dX12_tie_60 : decode cX12_tie 60 = .ok (.iload_n 3, 1) := by decide +kernel
theorem dX12_tie_61 : decode cX12_tie 61 = .ok (.ishl, 1) := by decide +kernel
theorem dX12_tie_62 : decode cX12_tie 62 = .ok (.iconst (-1), 1) := by decide +kernel
theorem dX12_tie_63 : decode cX12_tie 63 = .ok (.ixor, 1) := by decide +kernel
theorem dX12_tie_64 : decode cX12_tie 64 = .ok (.iand, 1) := by decide +kernel
theorem dX12_tie_65 : decode cX12_tie 65 = .ok (.iastore, 1) := by decide +kernel
theorem dX12_tie_66 : decode cX12_tie 66 = .ok (.aload_n 0, 1) := by decide +kernel
theorem dX12_tie_67 : decode cX12_tie 67 = .ok (.getfield 16, 3) := by decide +kernel
theorem dX12_tie_70 : decode cX12_tie 70 = .ok (.bipush 6, 2) := by decide +kernel
theorem dX12_tie_72 : decode cX12_tie 72 = .ok (.iload_n 1, 1) := by decide +kernel
theorem dX12_tie_73 : decode cX12_tie 73 = .ok (.imul, 1) := by decide +kernel
theorem dX12_tie_74 : decode cX12_tie 74 = .ok (.iload_n 2, 1) := by decide +kernel
theorem dX12_tie_75 : decode cX12_tie 75 = .ok (.iadd, 1) := by decide +kernel
theorem dX12_tie_76 : decode cX12_tie 76 = .ok (.iaload, 1) := by decide +kernel
theorem dX12_tie_77 : decode cX12_tie 77 = .ok (.iload 5, 2) := by decide +kernel
theorem dX12_tie_79 : decode cX12_tie 79 = .ok (.if_icmp .ne 7, 3) := by decide +kernel
theorem dX12_tie_82 : decode cX12_tie 82 = .ok (.iconst 0, 1) := by decide +kernel
theorem dX12_tie_83 : decode cX12_tie 83 = .ok (.goto 4, 3) := by decide +kernel
theorem dX12_tie_86 : decode cX12_tie 86 = .ok (.iconst 1, 1) := by decide +kernel
theorem dX12_tie_87 : decode cX12_tie 87 = .ok (.ireturn, 1) := by decide +kernel
theorem dX12_isTied_0 : decode cX12_isTied 0 = .ok (.aload_n 0, 1) := by decide +kernel
theorem dX12_isTied_1 : decode cX12_isTied 1 = .ok (.getfield 16, 3) := by decide +kernel
theorem dX12_isTied_4 : decode cX12_isTied 4 = .ok (.bipush 6, 2) := by decide +kernel
theorem dX12_isTied_6 : decode cX12_isTied 6 = .ok (.iload_n 1, 1) := by decide +kernel
theorem dX12_isTied_7 : decode cX12_isTied 7 = .ok (.imul, 1) := by decide +kernel
theorem dX12_isTied_8 : decode cX12_isTied 8 = .ok (.iload_n 2, 1) := by decide +kernel
theorem dX12_isTied_9 : decode cX12_isTied 9 = .ok (.iadd, 1) := by decide +kernel
theorem dX12_isTied_10 : decode cX12_isTied 10 = .ok (.iaload, 1) := by decide +kernel
theorem dX12_isTied_11 : decode cX12_isTied 11 = .ok (.iload_n 3, 1) := by decide +kernel
theorem dX12_isTied_12 : decode cX12_isTied 12 = .ok (.ishr, 1) := by decide +kernel
theorem dX12_isTied_13 : decode cX12_isTied 13 = .ok (.iconst 1, 1) := by decide +kernel
theorem dX12_isTied_14 : decode cX12_isTied 14 = .ok (.iand, 1) := by decide +kernel
theorem dX12_isTied_15 : decode cX12_isTied 15 = .ok (.iconst 1, 1) := by decide +kernel
theorem dX12_isTied_16 : decode cX12_isTied 16 = .ok (.if_icmp .ne 7, 3) := by decide +kernel
theorem dX12_isTied_19 : decode cX12_isTied 19 = .ok (.iconst 1, 1) := by decide +kernel
theorem dX12_isTied_20 : decode cX12_isTied 20 = .ok (.goto 4, 3) := by decide +kernel
theorem dX12_isTied_23 : decode cX12_isTied 23 = .ok (.iconst 0, 1) := by decide +kernel
theorem dX12_isTied_24 : decode cX12_isTied 24 = .ok (.ireturn, 1) := by decide +kernel
theorem dX12_lay_0 : decode cX12_lay 0 = .ok (.aload_n 0, 1) := by decide +kernel
theorem dX12_lay_1 : decode cX12_lay 1 = .ok (.getfield 7, 3) := by decide +kernel
theorem dX12_lay_4 : decode cX12_lay 4 = .ok (.iload_n 1, 1) := by decide +kernel
theorem dX12_lay_5 : decode cX12_lay 5 = .ok (.iload_n 2, 1) := by decide +kernel
theorem dX12_lay_6 : decode cX12_lay 6 = .ok (.iastore, 1) := by decide +kernel
theorem dX12_lay_7 : decode cX12_lay 7 = .ok (.iconst 0, 1) := by decide +kernel
theorem dX12_lay_8 : decode cX12_lay 8 = .ok (.istore_n 3, 1) := by decide +kernel
theorem dX12_lay_9 : decode cX12_lay 9 = .ok (.iload_n 3, 1) := by decide +kernel
theorem dX12_lay_10 : decode cX12_lay 10 = .ok (.bipush 6, 2) := by decide +kernel
theorem dX12_lay_12 : decode cX12_lay 12 = .ok (.if_icmp .ge 61, 3) := by decide +kernel
theorem dX12_lay_15 : decode cX12_lay 15 = .ok (.aload_n 0, 1) := by decide +kernel
theorem dX12_lay_16 : decode cX12_lay 16 = .ok (.getfield 13, 3) := by decide +kernel
theorem dX12_lay_19 : decode cX12_lay 19 = .ok (.bipush 6, 2) := by decide +kernel
theorem dX12_lay_21 : decode cX12_lay 21 = .ok (.iload_n 1, 1) := by decide +kernel
theorem dX12_lay_22 : decode cX12_lay 22 = .ok (.imul, 1) := by decide +kernel
theorem dX12_lay_23 : decode cX12_lay 23 = .ok (.iload_n 3, 1) := by decide +kernel
theorem dX12_lay_24 : decode cX12_lay 24 = .ok (.iadd, 1) := by decide +kernel
theorem dX12_lay_25 : decode cX12_lay 25 = .ok (.iload_n 3, 1) := by decide +kernel
theorem dX12_lay_26 : decode cX12_lay 26 = .ok (.iload_n 2, 1) := by decide +kernel
theorem dX12_lay_27 : decode cX12_lay 27 = .ok (.if_icmp .ge 12, 3) := by decide +kernel
theorem dX12_lay_30 : decode cX12_lay 30 = .ok (.aload_n 0, 1) := by decide +kernel
theorem dX12_lay_31 : decode cX12_lay 31 = .ok (.getfield 19, 3) := by decide +kernel
theorem dX12_lay_34 : decode cX12_lay 34 = .ok (.iload_n 3, 1) := by decide +kernel
theorem dX12_lay_35 : decode cX12_lay 35 = .ok (.iaload, 1) := by decide +kernel
theorem dX12_lay_36 : decode cX12_lay 36 = .ok (.goto 4, 3) := by decide +kernel
theorem dX12_lay_39 : decode cX12_lay 39 = .ok (.iconst 0, 1) := by decide +kernel
theorem dX12_lay_40 : decode cX12_lay 40 = .ok (.iastore, 1) := by decide +kernel
theorem dX12_lay_41 : decode cX12_lay 41 = .ok (.aload_n 0, 1) := by decide +kernel
theorem dX12_lay_42 : decode cX12_lay 42 = .ok (.getfield 16, 3) := by decide +kernel
theorem dX12_lay_45 : decode cX12_lay 45 = .ok (.bipush 6, 2) := by decide +kernel
theorem dX12_lay_47 : decode cX12_lay 47 = .ok (.iload_n 1, 1) := by decide +kernel
theorem dX12_lay_48 : decode cX12_lay 48 = .ok (.imul, 1) := by decide +kernel
theorem dX12_lay_49 : decode cX12_lay 49 = .ok (.iload_n 3, 1) := by decide +kernel
theorem dX12_lay_50 : decode cX12_lay 50 = .ok (.iadd, 1) := by decide +kernel
theorem dX12_lay_51 : decode cX12_lay 51 = .ok (.iload_n 3, 1) := by decide +kernel
theorem dX12_lay_52 : decode cX12_lay 52 = .ok (.iload_n 2, 1) := by decide +kernel
theorem dX12_lay_53 : decode cX12_lay 53 = .ok (.if_icmp .ge 12, 3) := by decide +kernel
theorem dX12_lay_56 : decode cX12_lay 56 = .ok (.aload_n 0, 1) := by decide +kernel
theorem dX12_lay_57 : decode cX12_lay 57 = .ok (.getfield 22, 3) := by decide +kernel
theorem dX12_lay_60 : decode cX12_lay 60 = .ok (.iload_n 3, 1) := by decide +kernel
theorem dX12_lay_61 : decode cX12_lay 61 = .ok (.iaload, 1) := by decide +kernel
theorem dX12_lay_62 : decode cX12_lay 62 = .ok (.goto 4, 3) := by decide +kernel
theorem dX12_lay_65 : decode cX12_lay 65 = .ok (.iconst 0, 1) := by decide +kernel
theorem dX12_lay_66 : decode cX12_lay 66 = .ok (.iastore, 1) := by decide +kernel
theorem dX12_lay_67 : decode cX12_lay 67 = .ok (.iinc 3 1, 3) := by decide +kernel
theorem dX12_lay_70 : decode cX12_lay 70 = .ok (.goto (-61), 3) := by decide +kernel
theorem dX12_lay_73 : decode cX12_lay 73 = .ok (.return_, 1) := by decide +kernel
theorem dX12_turned_0 : decode cX12_turned 0 = .ok (.iload_n 0, 1) := by decide +kernel
theorem dX12_turned_1 : decode cX12_turned 1 = .ok (.iload_n 1, 1) := by decide +kernel
theorem dX12_turned_2 : decode cX12_turned 2 = .ok (.if_icmp .ne 7, 3) := by decide +kernel
theorem dX12_turned_5 : decode cX12_turned 5 = .ok (.iload_n 2, 1) := by decide +kernel
theorem dX12_turned_6 : decode cX12_turned 6 = .ok (.goto 13, 3) := by decide +kernel
theorem dX12_turned_9 : decode cX12_turned 9 = .ok (.iload_n 0, 1) := by decide +kernel
theorem dX12_turned_10 : decode cX12_turned 10 = .ok (.iload_n 2, 1) := by decide +kernel
theorem dX12_turned_11 : decode cX12_turned 11 = .ok (.if_icmp .ne 7, 3) := by decide +kernel
theorem dX12_turned_14 : decode cX12_turned 14 = .ok (.iload_n 1, 1) := by decide +kernel
theorem dX12_turned_15 : decode cX12_turned 15 = .ok (.goto 4, 3) := by decide +kernel
theorem dX12_turned_18 : decode cX12_turned 18 = .ok (.iload_n 0, 1) := by decide +kernel
theorem dX12_turned_19 : decode cX12_turned 19 = .ok (.ireturn, 1) := by decide +kernel
theorem dX12_turn_0 : decode cX12_turn 0 = .ok (.aload_n 0, 1) := by decide +kernel
theorem dX12_turn_1 : decode cX12_turn 1 = .ok (.iload_n 1, 1) := by decide +kernel
theorem dX12_turn_2 : decode cX12_turn 2 = .ok (.iload_n 2, 1) := by decide +kernel
theorem dX12_turn_3 : decode cX12_turn 3 = .ok (.invokevirtual 144, 3) := by decide +kernel
theorem dX12_turn_6 : decode cX12_turn 6 = .ok (.ifCond .ne 20, 3) := by decide +kernel
theorem dX12_turn_9 : decode cX12_turn 9 = .ok (.aload_n 0, 1) := by decide +kernel
theorem dX12_turn_10 : decode cX12_turn 10 = .ok (.iload_n 1, 1) := by decide +kernel
theorem dX12_turn_11 : decode cX12_turn 11 = .ok (.iload_n 3, 1) := by decide +kernel
theorem dX12_turn_12 : decode cX12_turn 12 = .ok (.invokevirtual 144, 3) := by decide +kernel
theorem dX12_turn_15 : decode cX12_turn 15 = .ok (.ifCond .ne 11, 3) := by decide +kernel
theorem dX12_turn_18 : decode cX12_turn 18 = .ok (.iload 4, 2) := by decide +kernel
theorem dX12_turn_20 : decode cX12_turn 20 = .ok (.invokestatic 137, 3) := by decide +kernel
theorem dX12_turn_23 : decode cX12_turn 23 = .ok (.ifCond .eq 5, 3) := by decide +kernel
theorem dX12_turn_26 : decode cX12_turn 26 = .ok (.iconst (-1), 1) := by decide +kernel
theorem dX12_turn_27 : decode cX12_turn 27 = .ok (.ireturn, 1) := by decide +kernel
theorem dX12_turn_28 : decode cX12_turn 28 = .ok (.iconst 0, 1) := by decide +kernel
theorem dX12_turn_29 : decode cX12_turn 29 = .ok (.istore 5, 2) := by decide +kernel
theorem dX12_turn_31 : decode cX12_turn 31 = .ok (.iload 5, 2) := by decide +kernel
theorem dX12_turn_33 : decode cX12_turn 33 = .ok (.aload_n 0, 1) := by decide +kernel
theorem dX12_turn_34 : decode cX12_turn 34 = .ok (.getfield 7, 3) := by decide +kernel
theorem dX12_turn_37 : decode cX12_turn 37 = .ok (.iload_n 1, 1) := by decide +kernel
theorem dX12_turn_38 : decode cX12_turn 38 = .ok (.iaload, 1) := by decide +kernel
theorem dX12_turn_39 : decode cX12_turn 39 = .ok (.if_icmp .ge 100, 3) := by decide +kernel
theorem dX12_turn_42 : decode cX12_turn 42 = .ok (.iload 5, 2) := by decide +kernel
theorem dX12_turn_44 : decode cX12_turn 44 = .ok (.iload_n 2, 1) := by decide +kernel
theorem dX12_turn_45 : decode cX12_turn 45 = .ok (.iload_n 3, 1) := by decide +kernel
theorem dX12_turn_46 : decode cX12_turn 46 = .ok (.invokestatic 148, 3) := by decide +kernel
theorem dX12_turn_49 : decode cX12_turn 49 = .ok (.istore 6, 2) := by decide +kernel
theorem dX12_turn_51 : decode cX12_turn 51 = .ok (.aload_n 0, 1) := by decide +kernel
theorem dX12_turn_52 : decode cX12_turn 52 = .ok (.getfield 19, 3) := by decide +kernel
theorem dX12_turn_55 : decode cX12_turn 55 = .ok (.iload 5, 2) := by decide +kernel
theorem dX12_turn_57 : decode cX12_turn 57 = .ok (.aload_n 0, 1) := by decide +kernel
theorem dX12_turn_58 : decode cX12_turn 58 = .ok (.getfield 13, 3) := by decide +kernel
theorem dX12_turn_61 : decode cX12_turn 61 = .ok (.bipush 6, 2) := by decide +kernel
theorem dX12_turn_63 : decode cX12_turn 63 = .ok (.iload_n 1, 1) := by decide +kernel
theorem dX12_turn_64 : decode cX12_turn 64 = .ok (.imul, 1) := by decide +kernel
theorem dX12_turn_65 : decode cX12_turn 65 = .ok (.iload 6, 2) := by decide +kernel
theorem dX12_turn_67 : decode cX12_turn 67 = .ok (.iadd, 1) := by decide +kernel
theorem dX12_turn_68 : decode cX12_turn 68 = .ok (.iaload, 1) := by decide +kernel
theorem dX12_turn_69 : decode cX12_turn 69 = .ok (.iastore, 1) := by decide +kernel
theorem dX12_turn_70 : decode cX12_turn 70 = .ok (.aload_n 0, 1) := by decide +kernel
theorem dX12_turn_71 : decode cX12_turn 71 = .ok (.getfield 22, 3) := by decide +kernel
theorem dX12_turn_74 : decode cX12_turn 74 = .ok (.iload 5, 2) := by decide +kernel
theorem dX12_turn_76 : decode cX12_turn 76 = .ok (.iconst 0, 1) := by decide +kernel
theorem dX12_turn_77 : decode cX12_turn 77 = .ok (.iastore, 1) := by decide +kernel
theorem dX12_turn_78 : decode cX12_turn 78 = .ok (.iconst 0, 1) := by decide +kernel
theorem dX12_turn_79 : decode cX12_turn 79 = .ok (.istore 7, 2) := by decide +kernel
theorem dX12_turn_81 : decode cX12_turn 81 = .ok (.iload 7, 2) := by decide +kernel
theorem dX12_turn_83 : decode cX12_turn 83 = .ok (.aload_n 0, 1) := by decide +kernel
theorem dX12_turn_84 : decode cX12_turn 84 = .ok (.getfield 7, 3) := by decide +kernel
theorem dX12_turn_87 : decode cX12_turn 87 = .ok (.iload_n 1, 1) := by decide +kernel
theorem dX12_turn_88 : decode cX12_turn 88 = .ok (.iaload, 1) := by decide +kernel
theorem dX12_turn_89 : decode cX12_turn 89 = .ok (.if_icmp .ge 44, 3) := by decide +kernel
theorem dX12_turn_92 : decode cX12_turn 92 = .ok (.aload_n 0, 1) := by decide +kernel
theorem dX12_turn_93 : decode cX12_turn 93 = .ok (.getfield 22, 3) := by decide +kernel
theorem dX12_turn_96 : decode cX12_turn 96 = .ok (.iload 5, 2) := by decide +kernel
theorem dX12_turn_98 : decode cX12_turn 98 = .ok (.dup2, 1) := by decide +kernel
theorem dX12_turn_99 : decode cX12_turn 99 = .ok (.iaload, 1) := by decide +kernel
theorem dX12_turn_100 : decode cX12_turn 100 = .ok (.aload_n 0, 1) := by decide +kernel
theorem dX12_turn_101 : decode cX12_turn 101 = .ok (.iload_n 1, 1) := by decide +kernel
theorem dX12_turn_102 : decode cX12_turn 102 = .ok (.iload 6, 2) := by decide +kernel
theorem dX12_turn_104 : decode cX12_turn 104 = .ok (.iload 7, 2) := by decide +kernel
theorem dX12_turn_106 : decode cX12_turn 106 = .ok (.iload_n 2, 1) := by decide +kernel
theorem dX12_turn_107 : decode cX12_turn 107 = .ok (.iload_n 3, 1) := by decide +kernel
theorem dX12_turn_108 : decode cX12_turn 108 = .ok (.invokestatic 148, 3) := by decide +kernel
theorem dX12_turn_111 : decode cX12_turn 111 = .ok (.invokevirtual 152, 3) := by decide +kernel
theorem dX12_turn_114 : decode cX12_turn 114 = .ok (.ifCond .eq 10, 3) := by decide +kernel
theorem dX12_turn_117 : decode cX12_turn 117 = .ok (.iconst 1, 1) := by decide +kernel
theorem dX12_turn_118 : decode cX12_turn 118 = .ok (.iload 7, 2) := by decide +kernel
theorem dX12_turn_120 : decode cX12_turn 120 = .ok (.ishl, 1) := by decide +kernel
theorem dX12_turn_121 : decode cX12_turn 121 = .ok (.goto 4, 3) := by decide +kernel
theorem dX12_turn_124 : decode cX12_turn 124 = .ok (.iconst 0, 1) := by decide +kernel
theorem dX12_turn_125 : decode cX12_turn 125 = .ok (.ior, 1) := by decide +kernel
theorem dX12_turn_126 : decode cX12_turn 126 = .ok (.iastore, 1) := by decide +kernel
theorem dX12_turn_127 : decode cX12_turn 127 = .ok (.iinc 7 1, 3) := by decide +kernel
theorem dX12_turn_130 : decode cX12_turn 130 = .ok (.goto (-49), 3) := by decide +kernel
theorem dX12_turn_133 : decode cX12_turn 133 = .ok (.iinc 5 1, 3) := by decide +kernel
theorem dX12_turn_136 : decode cX12_turn 136 = .ok (.goto (-105), 3) := by decide +kernel
theorem dX12_turn_139 : decode cX12_turn 139 = .ok (.aload_n 0, 1) := by decide +kernel
theorem dX12_turn_140 : decode cX12_turn 140 = .ok (.iload 4, 2) := by decide +kernel
theorem dX12_turn_142 : decode cX12_turn 142 = .ok (.aload_n 0, 1) := by decide +kernel
theorem dX12_turn_143 : decode cX12_turn 143 = .ok (.getfield 7, 3) := by decide +kernel
theorem dX12_turn_146 : decode cX12_turn 146 = .ok (.iload_n 1, 1) := by decide +kernel
theorem dX12_turn_147 : decode cX12_turn 147 = .ok (.iaload, 1) := by decide +kernel
theorem dX12_turn_148 : decode cX12_turn 148 = .ok (.invokevirtual 155, 3) := by decide +kernel
theorem dX12_turn_151 : decode cX12_turn 151 = .ok (.iconst 1, 1) := by decide +kernel
theorem dX12_turn_152 : decode cX12_turn 152 = .ok (.ireturn, 1) := by decide +kernel
theorem dX12_join_0 : decode cX12_join 0 = .ok (.aload_n 0, 1) := by decide +kernel
theorem dX12_join_1 : decode cX12_join 1 = .ok (.iload_n 1, 1) := by decide +kernel
theorem dX12_join_2 : decode cX12_join 2 = .ok (.invokevirtual 141, 3) := by decide +kernel
theorem dX12_join_5 : decode cX12_join 5 = .ok (.ifCond .ne 18, 3) := by decide +kernel
theorem dX12_join_8 : decode cX12_join 8 = .ok (.aload_n 0, 1) := by decide +kernel
theorem dX12_join_9 : decode cX12_join 9 = .ok (.iload_n 2, 1) := by decide +kernel
theorem dX12_join_10 : decode cX12_join 10 = .ok (.invokevirtual 141, 3) := by decide +kernel
theorem dX12_join_13 : decode cX12_join 13 = .ok (.ifCond .ne 10, 3) := by decide +kernel
theorem dX12_join_16 : decode cX12_join 16 = .ok (.iload_n 3, 1) := by decide +kernel
theorem dX12_join_17 : decode cX12_join 17 = .ok (.invokestatic 137, 3) := by decide +kernel
theorem dX12_join_20 : decode cX12_join 20 = .ok (.ifCond .eq 5, 3) := by decide +kernel
theorem dX12_join_23 : decode cX12_join 23 = .ok (.iconst (-1), 1) := by decide +kernel
theorem dX12_join_24 : decode cX12_join 24 = .ok (.ireturn, 1) := by decide +kernel
theorem dX12_join_25 : decode cX12_join 25 = .ok (.aload_n 0, 1) := by decide +kernel
theorem dX12_join_26 : decode cX12_join 26 = .ok (.getfield 7, 3) := by decide +kernel
theorem dX12_join_29 : decode cX12_join 29 = .ok (.iload_n 1, 1) := by decide +kernel
theorem dX12_join_30 : decode cX12_join 30 = .ok (.iaload, 1) := by decide +kernel
theorem dX12_join_31 : decode cX12_join 31 = .ok (.istore 4, 2) := by decide +kernel
theorem dX12_join_33 : decode cX12_join 33 = .ok (.iload 4, 2) := by decide +kernel
theorem dX12_join_35 : decode cX12_join 35 = .ok (.aload_n 0, 1) := by decide +kernel
theorem dX12_join_36 : decode cX12_join 36 = .ok (.getfield 7, 3) := by decide +kernel
theorem dX12_join_39 : decode cX12_join 39 = .ok (.iload_n 2, 1) := by decide +kernel
theorem dX12_join_40 : decode cX12_join 40 = .ok (.iaload, 1) := by decide +kernel
theorem dX12_join_41 : decode cX12_join 41 = .ok (.iadd, 1) := by decide +kernel
theorem dX12_join_42 : decode cX12_join 42 = .ok (.istore 5, 2) := by decide +kernel
theorem dX12_join_44 : decode cX12_join 44 = .ok (.iload 5, 2) := by decide +kernel
theorem dX12_join_46 : decode cX12_join 46 = .ok (.bipush 6, 2) := by decide +kernel
theorem dX12_join_48 : decode cX12_join 48 = .ok (.if_icmp .le 6, 3) := by decide +kernel
theorem dX12_join_51 : decode cX12_join 51 = .ok (.bipush (-2), 2) := by decide +kernel
theorem dX12_join_53 : decode cX12_join 53 = .ok (.ireturn, 1) := by decide +kernel
theorem dX12_join_54 : decode cX12_join 54 = .ok (.iconst 0, 1) := by decide +kernel
theorem dX12_join_55 : decode cX12_join 55 = .ok (.istore 6, 2) := by decide +kernel
theorem dX12_join_57 : decode cX12_join 57 = .ok (.iload 6, 2) := by decide +kernel
theorem dX12_join_59 : decode cX12_join 59 = .ok (.iload 5, 2) := by decide +kernel
theorem dX12_join_61 : decode cX12_join 61 = .ok (.if_icmp .ge 100, 3) := by decide +kernel
theorem dX12_join_64 : decode cX12_join 64 = .ok (.aload_n 0, 1) := by decide +kernel
theorem dX12_join_65 : decode cX12_join 65 = .ok (.getfield 19, 3) := by decide +kernel
theorem dX12_join_68 : decode cX12_join 68 = .ok (.iload 6, 2) := by decide +kernel
theorem dX12_join_70 : decode cX12_join 70 = .ok (.iload 6, 2) := by decide +kernel
theorem dX12_join_72 : decode cX12_join 72 = .ok (.iload 4, 2) := by decide +kernel
theorem dX12_join_74 : decode cX12_join 74 = .ok (.if_icmp .ge 18, 3) := by decide +kernel
theorem dX12_join_77 : decode cX12_join 77 = .ok (.aload_n 0, 1) := by decide +kernel
theorem dX12_join_78 : decode cX12_join 78 = .ok (.getfield 13, 3) := by decide +kernel
theorem dX12_join_81 : decode cX12_join 81 = .ok (.bipush 6, 2) := by decide +kernel
theorem dX12_join_83 : decode cX12_join 83 = .ok (.iload_n 1, 1) := by decide +kernel
theorem dX12_join_84 : decode cX12_join 84 = .ok (.imul, 1) := by decide +kernel
theorem dX12_join_85 : decode cX12_join 85 = .ok (.iload 6, 2) := by decide +kernel
theorem dX12_join_87 : decode cX12_join 87 = .ok (.iadd, 1) := by decide +kernel
theorem dX12_join_88 : decode cX12_join 88 = .ok (.iaload, 1) := by decide +kernel
theorem dX12_join_89 : decode cX12_join 89 = .ok (.goto 18, 3) := by decide +kernel
theorem dX12_join_92 : decode cX12_join 92 = .ok (.aload_n 0, 1) := by decide +kernel
theorem dX12_join_93 : decode cX12_join 93 = .ok (.getfield 13, 3) := by decide +kernel
theorem dX12_join_96 : decode cX12_join 96 = .ok (.bipush 6, 2) := by decide +kernel
theorem dX12_join_98 : decode cX12_join 98 = .ok (.iload_n 2, 1) := by decide +kernel
theorem dX12_join_99 : decode cX12_join 99 = .ok (.imul, 1) := by decide +kernel
theorem dX12_join_100 : decode cX12_join 100 = .ok (.iload 6, 2) := by decide +kernel
theorem dX12_join_102 : decode cX12_join 102 = .ok (.iadd, 1) := by decide +kernel
theorem dX12_join_103 : decode cX12_join 103 = .ok (.iload 4, 2) := by decide +kernel
theorem dX12_join_105 : decode cX12_join 105 = .ok (.isub, 1) := by decide +kernel
theorem dX12_join_106 : decode cX12_join 106 = .ok (.iaload, 1) := by decide +kernel
theorem dX12_join_107 : decode cX12_join 107 = .ok (.iastore, 1) := by decide +kernel
theorem dX12_join_108 : decode cX12_join 108 = .ok (.aload_n 0, 1) := by decide +kernel
theorem dX12_join_109 : decode cX12_join 109 = .ok (.getfield 22, 3) := by decide +kernel
theorem dX12_join_112 : decode cX12_join 112 = .ok (.iload 6, 2) := by decide +kernel
theorem dX12_join_114 : decode cX12_join 114 = .ok (.iload 6, 2) := by decide +kernel
theorem dX12_join_116 : decode cX12_join 116 = .ok (.iload 4, 2) := by decide +kernel
theorem dX12_join_118 : decode cX12_join 118 = .ok (.if_icmp .ge 18, 3) := by decide +kernel
theorem dX12_join_121 : decode cX12_join 121 = .ok (.aload_n 0, 1) := by decide +kernel
theorem dX12_join_122 : decode cX12_join 122 = .ok (.getfield 16, 3) := by decide +kernel
theorem dX12_join_125 : decode cX12_join 125 = .ok (.bipush 6, 2) := by decide +kernel
theorem dX12_join_127 : decode cX12_join 127 = .ok (.iload_n 1, 1) := by decide +kernel
theorem dX12_join_128 : decode cX12_join 128 = .ok (.imul, 1) := by decide +kernel
theorem dX12_join_129 : decode cX12_join 129 = .ok (.iload 6, 2) := by decide +kernel
theorem dX12_join_131 : decode cX12_join 131 = .ok (.iadd, 1) := by decide +kernel
theorem dX12_join_132 : decode cX12_join 132 = .ok (.iaload, 1) := by decide +kernel
theorem dX12_join_133 : decode cX12_join 133 = .ok (.goto 21, 3) := by decide +kernel
theorem dX12_join_136 : decode cX12_join 136 = .ok (.aload_n 0, 1) := by decide +kernel
theorem dX12_join_137 : decode cX12_join 137 = .ok (.getfield 16, 3) := by decide +kernel
theorem dX12_join_140 : decode cX12_join 140 = .ok (.bipush 6, 2) := by decide +kernel
theorem dX12_join_142 : decode cX12_join 142 = .ok (.iload_n 2, 1) := by decide +kernel
theorem dX12_join_143 : decode cX12_join 143 = .ok (.imul, 1) := by decide +kernel
theorem dX12_join_144 : decode cX12_join 144 = .ok (.iload 6, 2) := by decide +kernel
theorem dX12_join_146 : decode cX12_join 146 = .ok (.iadd, 1) := by decide +kernel
theorem dX12_join_147 : decode cX12_join 147 = .ok (.iload 4, 2) := by decide +kernel
theorem dX12_join_149 : decode cX12_join 149 = .ok (.isub, 1) := by decide +kernel
theorem dX12_join_150 : decode cX12_join 150 = .ok (.iaload, 1) := by decide +kernel
theorem dX12_join_151 : decode cX12_join 151 = .ok (.iload 4, 2) := by decide +kernel
theorem dX12_join_153 : decode cX12_join 153 = .ok (.ishl, 1) := by decide +kernel
theorem dX12_join_154 : decode cX12_join 154 = .ok (.iastore, 1) := by decide +kernel
theorem dX12_join_155 : decode cX12_join 155 = .ok (.iinc 6 1, 3) := by decide +kernel
theorem dX12_join_158 : decode cX12_join 158 = .ok (.goto (-101), 3) := by decide +kernel
theorem dX12_join_161 : decode cX12_join 161 = .ok (.aload_n 0, 1) := by decide +kernel
theorem dX12_join_162 : decode cX12_join 162 = .ok (.iload_n 3, 1) := by decide +kernel
theorem dX12_join_163 : decode cX12_join 163 = .ok (.iload 5, 2) := by decide +kernel
theorem dX12_join_165 : decode cX12_join 165 = .ok (.invokevirtual 155, 3) := by decide +kernel
theorem dX12_join_168 : decode cX12_join 168 = .ok (.iload 5, 2) := by decide +kernel
theorem dX12_join_170 : decode cX12_join 170 = .ok (.ireturn, 1) := by decide +kernel
theorem dX12_bits_0 : decode cX12_bits 0 = .ok (.iconst 0, 1) := by decide +kernel
theorem dX12_bits_1 : decode cX12_bits 1 = .ok (.istore_n 1, 1) := by decide +kernel
theorem dX12_bits_2 : decode cX12_bits 2 = .ok (.iconst 0, 1) := by decide +kernel
theorem dX12_bits_3 : decode cX12_bits 3 = .ok (.istore_n 2, 1) := by decide +kernel
theorem dX12_bits_4 : decode cX12_bits 4 = .ok (.iload_n 2, 1) := by decide +kernel
theorem dX12_bits_5 : decode cX12_bits 5 = .ok (.bipush 6, 2) := by decide +kernel
theorem dX12_bits_7 : decode cX12_bits 7 = .ok (.if_icmp .ge 17, 3) := by decide +kernel
theorem dX12_bits_10 : decode cX12_bits 10 = .ok (.iload_n 1, 1) := by decide +kernel
theorem dX12_bits_11 : decode cX12_bits 11 = .ok (.iload_n 0, 1) := by decide +kernel
theorem dX12_bits_12 : decode cX12_bits 12 = .ok (.iload_n 2, 1) := by decide +kernel
theorem dX12_bits_13 : decode cX12_bits 13 = .ok (.ishr, 1) := by decide +kernel
theorem dX12_bits_14 : decode cX12_bits 14 = .ok (.iconst 1, 1) := by decide +kernel
theorem dX12_bits_15 : decode cX12_bits 15 = .ok (.iand, 1) := by decide +kernel
theorem dX12_bits_16 : decode cX12_bits 16 = .ok (.iadd, 1) := by decide +kernel
theorem dX12_bits_17 : decode cX12_bits 17 = .ok (.istore_n 1, 1) := by decide +kernel
theorem dX12_bits_18 : decode cX12_bits 18 = .ok (.iinc 2 1, 3) := by decide +kernel
theorem dX12_bits_21 : decode cX12_bits 21 = .ok (.goto (-17), 3) := by decide +kernel
theorem dX12_bits_24 : decode cX12_bits 24 = .ok (.iload_n 1, 1) := by decide +kernel
theorem dX12_bits_25 : decode cX12_bits 25 = .ok (.ireturn, 1) := by decide +kernel
theorem dX12_about_0 : decode cX12_about 0 = .ok (.aload_n 0, 1) := by decide +kernel
theorem dX12_about_1 : decode cX12_about 1 = .ok (.iload_n 1, 1) := by decide +kernel
theorem dX12_about_2 : decode cX12_about 2 = .ok (.invokevirtual 141, 3) := by decide +kernel
theorem dX12_about_5 : decode cX12_about 5 = .ok (.ifCond .eq 5, 3) := by decide +kernel
theorem dX12_about_8 : decode cX12_about 8 = .ok (.iconst (-1), 1) := by decide +kernel
theorem dX12_about_9 : decode cX12_about 9 = .ok (.ireturn, 1) := by decide +kernel
theorem dX12_about_10 : decode cX12_about 10 = .ok (.iload_n 2, 1) := by decide +kernel
theorem dX12_about_11 : decode cX12_about 11 = .ok (.bipush 10, 2) := by decide +kernel
theorem dX12_about_13 : decode cX12_about 13 = .ok (.bipush 9, 2) := by decide +kernel
theorem dX12_about_15 : decode cX12_about 15 = .ok (.aload_n 0, 1) := by decide +kernel
theorem dX12_about_16 : decode cX12_about 16 = .ok (.getfield 7, 3) := by decide +kernel
theorem dX12_about_19 : decode cX12_about 19 = .ok (.iload_n 1, 1) := by decide +kernel
theorem dX12_about_20 : decode cX12_about 20 = .ok (.iaload, 1) := by decide +kernel
theorem dX12_about_21 : decode cX12_about 21 = .ok (.iadd, 1) := by decide +kernel
theorem dX12_about_22 : decode cX12_about 22 = .ok (.invokestatic 133, 3) := by decide +kernel
theorem dX12_about_25 : decode cX12_about 25 = .ok (.ifCond .eq 18, 3) := by decide +kernel
theorem dX12_about_28 : decode cX12_about 28 = .ok (.aload_n 0, 1) := by decide +kernel
theorem dX12_about_29 : decode cX12_about 29 = .ok (.getfield 13, 3) := by decide +kernel
theorem dX12_about_32 : decode cX12_about 32 = .ok (.bipush 6, 2) := by decide +kernel
theorem dX12_about_34 : decode cX12_about 34 = .ok (.iload_n 1, 1) := by decide +kernel
theorem dX12_about_35 : decode cX12_about 35 = .ok (.imul, 1) := by decide +kernel
theorem dX12_about_36 : decode cX12_about 36 = .ok (.iload_n 2, 1) := by decide +kernel
theorem dX12_about_37 : decode cX12_about 37 = .ok (.iadd, 1) := by decide +kernel
theorem dX12_about_38 : decode cX12_about 38 = .ok (.bipush 10, 2) := by decide +kernel
theorem dX12_about_40 : decode cX12_about 40 = .ok (.isub, 1) := by decide +kernel
theorem dX12_about_41 : decode cX12_about 41 = .ok (.iaload, 1) := by decide +kernel
theorem dX12_about_42 : decode cX12_about 42 = .ok (.ireturn, 1) := by decide +kernel
theorem dX12_about_43 : decode cX12_about 43 = .ok (.iload_n 2, 1) := by decide +kernel
theorem dX12_about_44 : decode cX12_about 44 = .ok (.iconst 0, 1) := by decide +kernel
theorem dX12_about_45 : decode cX12_about 45 = .ok (.iconst 3, 1) := by decide +kernel
theorem dX12_about_46 : decode cX12_about 46 = .ok (.invokestatic 133, 3) := by decide +kernel
theorem dX12_about_49 : decode cX12_about 49 = .ok (.ifCond .ne 6, 3) := by decide +kernel
theorem dX12_about_52 : decode cX12_about 52 = .ok (.bipush (-2), 2) := by decide +kernel
theorem dX12_about_54 : decode cX12_about 54 = .ok (.ireturn, 1) := by decide +kernel
theorem dX12_about_55 : decode cX12_about 55 = .ok (.iconst 0, 1) := by decide +kernel
theorem dX12_about_56 : decode cX12_about 56 = .ok (.istore_n 3, 1) := by decide +kernel
theorem dX12_about_57 : decode cX12_about 57 = .ok (.iconst 0, 1) := by decide +kernel
theorem dX12_about_58 : decode cX12_about 58 = .ok (.istore 4, 2) := by decide +kernel
theorem dX12_about_60 : decode cX12_about 60 = .ok (.iload 4, 2) := by decide +kernel
theorem dX12_about_62 : decode cX12_about 62 = .ok (.aload_n 0, 1) := by decide +kernel
theorem dX12_about_63 : decode cX12_about 63 = .ok (.getfield 7, 3) := by decide +kernel
theorem dX12_about_66 : decode cX12_about 66 = .ok (.iload_n 1, 1) := by decide +kernel
theorem dX12_about_67 : decode cX12_about 67 = .ok (.iaload, 1) := by decide +kernel
theorem dX12_about_68 : decode cX12_about 68 = .ok (.if_icmp .ge 61, 3) := by decide +kernel
theorem dX12_about_71 : decode cX12_about 71 = .ok (.iload_n 3, 1) := by decide +kernel
theorem dX12_about_72 : decode cX12_about 72 = .ok (.iload_n 2, 1) := by decide +kernel
theorem dX12_about_73 : decode cX12_about 73 = .ok (.ifCond .ne 7, 3) := by decide +kernel
theorem dX12_about_76 : decode cX12_about 76 = .ok (.iconst 1, 1) := by decide +kernel
theorem dX12_about_77 : decode cX12_about 77 = .ok (.goto 44, 3) := by decide +kernel
theorem dX12_about_80 : decode cX12_about 80 = .ok (.iload_n 2, 1) := by decide +kernel
theorem dX12_about_81 : decode cX12_about 81 = .ok (.iconst 3, 1) := by decide +kernel
theorem dX12_about_82 : decode cX12_about 82 = .ok (.if_icmp .ne 21, 3) := by decide +kernel
theorem dX12_about_85 : decode cX12_about 85 = .ok (.aload_n 0, 1) := by decide +kernel
theorem dX12_about_86 : decode cX12_about 86 = .ok (.getfield 16, 3) := by decide +kernel
theorem dX12_about_89 : decode cX12_about 89 = .ok (.bipush 6, 2) := by decide +kernel
theorem dX12_about_91 : decode cX12_about 91 = .ok (.iload_n 1, 1) := by decide +kernel
theorem dX12_about_92 : decode cX12_about 92 = .ok (.imul, 1) := by decide +kernel
theorem dX12_about_93 : decode cX12_about 93 = .ok (.iload 4, 2) := by decide +kernel
theorem dX12_about_95 : decode cX12_about 95 = .ok (.iadd, 1) := by decide +kernel
theorem dX12_about_96 : decode cX12_about 96 = .ok (.iaload, 1) := by decide +kernel
theorem dX12_about_97 : decode cX12_about 97 = .ok (.invokestatic 159, 3) := by decide +kernel
theorem dX12_about_100 : decode cX12_about 100 = .ok (.goto 21, 3) := by decide +kernel
theorem dX12_about_103 : decode cX12_about 103 = .ok (.aload_n 0, 1) := by decide +kernel
theorem dX12_about_104 : decode cX12_about 104 = .ok (.getfield 13, 3) := by decide +kernel
theorem dX12_about_107 : decode cX12_about 107 = .ok (.bipush 6, 2) := by decide +kernel
theorem dX12_about_109 : decode cX12_about 109 = .ok (.iload_n 1, 1) := by decide +kernel
theorem dX12_about_110 : decode cX12_about 110 = .ok (.imul, 1) := by decide +kernel
theorem dX12_about_111 : decode cX12_about 111 = .ok (.iload 4, 2) := by decide +kernel
theorem dX12_about_113 : decode cX12_about 113 = .ok (.iadd, 1) := by decide +kernel
theorem dX12_about_114 : decode cX12_about 114 = .ok (.iaload, 1) := by decide +kernel
theorem dX12_about_115 : decode cX12_about 115 = .ok (.iload_n 2, 1) := by decide +kernel
theorem dX12_about_116 : decode cX12_about 116 = .ok (.iconst 1, 1) := by decide +kernel
theorem dX12_about_117 : decode cX12_about 117 = .ok (.isub, 1) := by decide +kernel
theorem dX12_about_118 : decode cX12_about 118 = .ok (.ishr, 1) := by decide +kernel
theorem dX12_about_119 : decode cX12_about 119 = .ok (.iconst 1, 1) := by decide +kernel
theorem dX12_about_120 : decode cX12_about 120 = .ok (.iand, 1) := by decide +kernel
theorem dX12_about_121 : decode cX12_about 121 = .ok (.iadd, 1) := by decide +kernel
theorem dX12_about_122 : decode cX12_about 122 = .ok (.istore_n 3, 1) := by decide +kernel
theorem dX12_about_123 : decode cX12_about 123 = .ok (.iinc 4 1, 3) := by decide +kernel
theorem dX12_about_126 : decode cX12_about 126 = .ok (.goto (-66), 3) := by decide +kernel
theorem dX12_about_129 : decode cX12_about 129 = .ok (.iload_n 3, 1) := by decide +kernel
theorem dX12_about_130 : decode cX12_about 130 = .ok (.ireturn, 1) := by decide +kernel
theorem dX12_tied_0 : decode cX12_tied 0 = .ok (.aload_n 0, 1) := by decide +kernel
theorem dX12_tied_1 : decode cX12_tied 1 = .ok (.iload_n 1, 1) := by decide +kernel
theorem dX12_tied_2 : decode cX12_tied 2 = .ok (.iload_n 2, 1) := by decide +kernel
theorem dX12_tied_3 : decode cX12_tied 3 = .ok (.invokevirtual 144, 3) := by decide +kernel
theorem dX12_tied_6 : decode cX12_tied 6 = .ok (.ifCond .ne 12, 3) := by decide +kernel
theorem dX12_tied_9 : decode cX12_tied 9 = .ok (.aload_n 0, 1) := by decide +kernel
theorem dX12_tied_10 : decode cX12_tied 10 = .ok (.iload_n 1, 1) := by decide +kernel
theorem dX12_tied_11 : decode cX12_tied 11 = .ok (.iload_n 3, 1) := by decide +kernel
theorem dX12_tied_12 : decode cX12_tied 12 = .ok (.invokevirtual 144, 3) := by decide +kernel
theorem dX12_tied_15 : decode cX12_tied 15 = .ok (.ifCond .eq 7, 3) := by decide +kernel
theorem dX12_tied_18 : decode cX12_tied 18 = .ok (.iconst (-1), 1) := by decide +kernel
theorem dX12_tied_19 : decode cX12_tied 19 = .ok (.goto 18, 3) := by decide +kernel
theorem dX12_tied_22 : decode cX12_tied 22 = .ok (.aload_n 0, 1) := by decide +kernel
theorem dX12_tied_23 : decode cX12_tied 23 = .ok (.iload_n 1, 1) := by decide +kernel
theorem dX12_tied_24 : decode cX12_tied 24 = .ok (.iload_n 2, 1) := by decide +kernel
theorem dX12_tied_25 : decode cX12_tied 25 = .ok (.iload_n 3, 1) := by decide +kernel
theorem dX12_tied_26 : decode cX12_tied 26 = .ok (.invokevirtual 152, 3) := by decide +kernel
theorem dX12_tied_29 : decode cX12_tied 29 = .ok (.ifCond .eq 7, 3) := by decide +kernel
theorem dX12_tied_32 : decode cX12_tied 32 = .ok (.iconst 1, 1) := by decide +kernel
theorem dX12_tied_33 : decode cX12_tied 33 = .ok (.goto 4, 3) := by decide +kernel
theorem dX12_tied_36 : decode cX12_tied 36 = .ok (.iconst 0, 1) := by decide +kernel
theorem dX12_tied_37 : decode cX12_tied 37 = .ok (.ireturn, 1) := by decide +kernel
theorem dX12_begin_0 : decode cX12_begin 0 = .ok (.aload_n 0, 1) := by decide +kernel
theorem dX12_begin_1 : decode cX12_begin 1 = .ok (.iload_n 1, 1) := by decide +kernel
theorem dX12_begin_2 : decode cX12_begin 2 = .ok (.putfield 163, 3) := by decide +kernel
theorem dX12_begin_5 : decode cX12_begin 5 = .ok (.aload_n 0, 1) := by decide +kernel
theorem dX12_begin_6 : decode cX12_begin 6 = .ok (.iload_n 2, 1) := by decide +kernel
theorem dX12_begin_7 : decode cX12_begin 7 = .ok (.putfield 166, 3) := by decide +kernel
theorem dX12_begin_10 : decode cX12_begin 10 = .ok (.aload_n 0, 1) := by decide +kernel
theorem dX12_begin_11 : decode cX12_begin 11 = .ok (.iconst 0, 1) := by decide +kernel
theorem dX12_begin_12 : decode cX12_begin 12 = .ok (.putfield 169, 3) := by decide +kernel
theorem dX12_begin_15 : decode cX12_begin 15 = .ok (.return_, 1) := by decide +kernel
theorem dX12_add_0 : decode cX12_add 0 = .ok (.aload_n 0, 1) := by decide +kernel
theorem dX12_add_1 : decode cX12_add 1 = .ok (.getfield 25, 3) := by decide +kernel
theorem dX12_add_4 : decode cX12_add 4 = .ok (.aload_n 0, 1) := by decide +kernel
theorem dX12_add_5 : decode cX12_add 5 = .ok (.getfield 169, 3) := by decide +kernel
theorem dX12_add_8 : decode cX12_add 8 = .ok (.iload_n 1, 1) := by decide +kernel
theorem dX12_add_9 : decode cX12_add 9 = .ok (.iastore, 1) := by decide +kernel
theorem dX12_add_10 : decode cX12_add 10 = .ok (.aload_n 0, 1) := by decide +kernel
theorem dX12_add_11 : decode cX12_add 11 = .ok (.getfield 28, 3) := by decide +kernel
theorem dX12_add_14 : decode cX12_add 14 = .ok (.aload_n 0, 1) := by decide +kernel
theorem dX12_add_15 : decode cX12_add 15 = .ok (.getfield 169, 3) := by decide +kernel
theorem dX12_add_18 : decode cX12_add 18 = .ok (.iload_n 2, 1) := by decide +kernel
theorem dX12_add_19 : decode cX12_add 19 = .ok (.iastore, 1) := by decide +kernel
theorem dX12_add_20 : decode cX12_add 20 = .ok (.aload_n 0, 1) := by decide +kernel
theorem dX12_add_21 : decode cX12_add 21 = .ok (.dup, 1) := by decide +kernel
theorem dX12_add_22 : decode cX12_add 22 = .ok (.getfield 169, 3) := by decide +kernel
theorem dX12_add_25 : decode cX12_add 25 = .ok (.iconst 1, 1) := by decide +kernel
theorem dX12_add_26 : decode cX12_add 26 = .ok (.iadd, 1) := by decide +kernel
theorem dX12_add_27 : decode cX12_add 27 = .ok (.putfield 169, 3) := by decide +kernel
theorem dX12_add_30 : decode cX12_add 30 = .ok (.return_, 1) := by decide +kernel
theorem dX12_isPlaceAlike_0 : decode cX12_isPlaceAlike 0 = .ok (.aload_n 0, 1) := by decide +kernel
theorem dX12_isPlaceAlike_1 : decode cX12_isPlaceAlike 1 = .ok (.getfield 13, 3) := by decide +kernel
theorem dX12_isPlaceAlike_4 : decode cX12_isPlaceAlike 4 = .ok (.bipush 6, 2) := by decide +kernel
theorem dX12_isPlaceAlike_6 : decode cX12_isPlaceAlike 6 = .ok (.aload_n 0, 1) := by decide +kernel
theorem dX12_isPlaceAlike_7 : decode cX12_isPlaceAlike 7 = .ok (.getfield 163, 3) := by decide +kernel
theorem dX12_isPlaceAlike_10 : decode cX12_isPlaceAlike 10 = .ok (.imul, 1) := by decide +kernel
theorem dX12_isPlaceAlike_11 : decode cX12_isPlaceAlike 11 = .ok (.aload_n 0, 1) := by decide +kernel
theorem dX12_isPlaceAlike_12 : decode cX12_isPlaceAlike 12 = .ok (.getfield 25, 3) := by decide +kernel
theorem dX12_isPlaceAlike_15 : decode cX12_isPlaceAlike 15 = .ok (.iload_n 1, 1) := by decide +kernel
theorem dX12_isPlaceAlike_16 : decode cX12_isPlaceAlike 16 = .ok (.iaload, 1) := by decide +kernel
theorem dX12_isPlaceAlike_17 : decode cX12_isPlaceAlike 17 = .ok (.iadd, 1) := by decide +kernel
theorem dX12_isPlaceAlike_18 : decode cX12_isPlaceAlike 18 = .ok (.iaload, 1) := by decide +kernel
theorem dX12_isPlaceAlike_19 : decode cX12_isPlaceAlike 19 = .ok (.aload_n 0, 1) := by decide +kernel
theorem dX12_isPlaceAlike_20 : decode cX12_isPlaceAlike 20 = .ok (.getfield 13, 3) := by decide +kernel
theorem dX12_isPlaceAlike_23 : decode cX12_isPlaceAlike 23 = .ok (.bipush 6, 2) := by decide +kernel
theorem dX12_isPlaceAlike_25 : decode cX12_isPlaceAlike 25 = .ok (.aload_n 0, 1) := by decide +kernel
theorem dX12_isPlaceAlike_26 : decode cX12_isPlaceAlike 26 = .ok (.getfield 166, 3) := by decide +kernel
theorem dX12_isPlaceAlike_29 : decode cX12_isPlaceAlike 29 = .ok (.imul, 1) := by decide +kernel
theorem dX12_isPlaceAlike_30 : decode cX12_isPlaceAlike 30 = .ok (.aload_n 0, 1) := by decide +kernel
theorem dX12_isPlaceAlike_31 : decode cX12_isPlaceAlike 31 = .ok (.getfield 28, 3) := by decide +kernel
theorem dX12_isPlaceAlike_34 : decode cX12_isPlaceAlike 34 = .ok (.iload_n 1, 1) := by decide +kernel
theorem dX12_isPlaceAlike_35 : decode cX12_isPlaceAlike 35 = .ok (.iaload, 1) := by decide +kernel
theorem dX12_isPlaceAlike_36 : decode cX12_isPlaceAlike 36 = .ok (.iadd, 1) := by decide +kernel
theorem dX12_isPlaceAlike_37 : decode cX12_isPlaceAlike 37 = .ok (.iaload, 1) := by decide +kernel
theorem dX12_isPlaceAlike_38 : decode cX12_isPlaceAlike 38 = .ok (.if_icmp .ne 7, 3) := by decide +kernel
theorem dX12_isPlaceAlike_41 : decode cX12_isPlaceAlike 41 = .ok (.iconst 1, 1) := by decide +kernel
theorem dX12_isPlaceAlike_42 : decode cX12_isPlaceAlike 42 = .ok (.goto 4, 3) := by decide +kernel
theorem dX12_isPlaceAlike_45 : decode cX12_isPlaceAlike 45 = .ok (.iconst 0, 1) := by decide +kernel
theorem dX12_isPlaceAlike_46 : decode cX12_isPlaceAlike 46 = .ok (.istore_n 2, 1) := by decide +kernel
theorem dX12_isPlaceAlike_47 : decode cX12_isPlaceAlike 47 = .ok (.iconst 0, 1) := by decide +kernel
theorem dX12_isPlaceAlike_48 : decode cX12_isPlaceAlike 48 = .ok (.istore_n 3, 1) := by decide +kernel
theorem dX12_isPlaceAlike_49 : decode cX12_isPlaceAlike 49 = .ok (.iload_n 3, 1) := by decide +kernel
theorem dX12_isPlaceAlike_50 : decode cX12_isPlaceAlike 50 = .ok (.iload_n 1, 1) := by decide +kernel
theorem dX12_isPlaceAlike_51 : decode cX12_isPlaceAlike 51 = .ok (.if_icmp .gt 148, 3) := by decide +kernel
