theorem dX12_longest_0 : decode cX12_longest 0 = .ok (.aload_n 0, 1) := by decide +kernel
theorem dX12_longest_1 : decode cX12_longest 1 = .ok (.iconst 0, 1) := by decide +kernel
theorem dX12_longest_2 : decode cX12_longest 2 = .ok (.putfield 190, 3) := by decide +kernel
theorem dX12_longest_5 : decode cX12_longest 5 = .ok (.aload_n 0, 1) := by decide +kernel
theorem dX12_longest_6 : decode cX12_longest 6 = .ok (.iload_n 1, 1) := by decide +kernel
theorem dX12_longest_7 : decode cX12_longest 7 = .ok (.invokevirtual 561, 3) := by decide +kernel
theorem dX12_longest_10 : decode cX12_longest 10 = .ok (.ifCond .ne 9, 3) := by decide +kernel
theorem dX12_longest_13 : decode cX12_longest 13 = .ok (.aload_n 0, 1) := by decide +kernel
theorem dX12_longest_14 : decode cX12_longest 14 = .ok (.iconst 1, 1) := by decide +kernel
theorem dX12_longest_15 : decode cX12_longest 15 = .ok (.invokevirtual 426, 3) := by decide +kernel
theorem dX12_longest_18 : decode cX12_longest 18 = .ok (.ireturn, 1) := by decide +kernel
theorem dX12_longest_19 : decode cX12_longest 19 = .ok (.aload_n 0, 1) := by decide +kernel
theorem dX12_longest_20 : decode cX12_longest 20 = .ok (.iload_n 1, 1) := by decide +kernel
theorem dX12_longest_21 : decode cX12_longest 21 = .ok (.iconst 0, 1) := by decide +kernel
theorem dX12_longest_22 : decode cX12_longest 22 = .ok (.invokevirtual 521, 3) := by decide +kernel
theorem dX12_longest_25 : decode cX12_longest 25 = .ok (.pop, 1) := by decide +kernel
theorem dX12_longest_26 : decode cX12_longest 26 = .ok (.aload_n 0, 1) := by decide +kernel
theorem dX12_longest_27 : decode cX12_longest 27 = .ok (.getfield 133, 3) := by decide +kernel
theorem dX12_longest_30 : decode cX12_longest 30 = .ok (.iconst 0, 1) := by decide +kernel
theorem dX12_longest_31 : decode cX12_longest 31 = .ok (.iaload, 1) := by decide +kernel
theorem dX12_longest_32 : decode cX12_longest 32 = .ok (.istore_n 2, 1) := by decide +kernel
theorem dX12_longest_33 : decode cX12_longest 33 = .ok (.lconst 1, 1) := by decide +kernel
theorem dX12_longest_34 : decode cX12_longest 34 = .ok (.lstore_n 3, 1) := by decide +kernel
theorem dX12_longest_35 : decode cX12_longest 35 = .ok (.bipush (-2), 2) := by decide +kernel
theorem dX12_longest_37 : decode cX12_longest 37 = .ok (.istore 5, 2) := by decide +kernel
theorem dX12_longest_39 : decode cX12_longest 39 = .ok (.iconst 0, 1) := by decide +kernel
theorem dX12_longest_40 : decode cX12_longest 40 = .ok (.istore 6, 2) := by decide +kernel
theorem dX12_longest_42 : decode cX12_longest 42 = .ok (.iload 6, 2) := by decide +kernel
theorem dX12_longest_44 : decode cX12_longest 44 = .ok (.iconst 2, 1) := by decide +kernel
theorem dX12_longest_45 : decode cX12_longest 45 = .ok (.iload_n 2, 1) := by decide +kernel
theorem dX12_longest_46 : decode cX12_longest 46 = .ok (.imul, 1) := by decide +kernel
theorem dX12_longest_47 : decode cX12_longest 47 = .ok (.if_icmp .ge 118, 3) := by decide +kernel
theorem dX12_longest_50 : decode cX12_longest 50 = .ok (.lconst 0, 1) := by decide +kernel
theorem dX12_longest_51 : decode cX12_longest 51 = .ok (.lstore 7, 2) := by decide +kernel
theorem dX12_longest_53 : decode cX12_longest 53 = .ok (.iconst 0, 1) := by decide +kernel
theorem dX12_longest_54 : decode cX12_longest 54 = .ok (.istore 9, 2) := by decide +kernel
theorem dX12_longest_56 : decode cX12_longest 56 = .ok (.iload 9, 2) := by decide +kernel
theorem dX12_longest_58 : decode cX12_longest 58 = .ok (.iload_n 2, 1) := by decide +kernel
theorem dX12_longest_59 : decode cX12_longest 59 = .ok (.if_icmp .ge 83, 3) := by decide +kernel
theorem dX12_longest_62 : decode cX12_longest 62 = .ok (.lload_n 3, 1) := by decide +kernel
theorem dX12_longest_63 : decode cX12_longest 63 = .ok (.iload 9, 2) := by decide +kernel
theorem dX12_longest_65 : decode cX12_longest 65 = .ok (.invokestatic 366, 3) := by decide +kernel
theorem dX12_longest_68 : decode cX12_longest 68 = .ok (.ifCond .ne 6, 3) := by decide +kernel
theorem dX12_longest_71 : decode cX12_longest 71 = .ok (.goto 65, 3) := by decide +kernel
theorem dX12_longest_74 : decode cX12_longest 74 = .ok (.aload_n 0, 1) := by decide +kernel
theorem dX12_longest_75 : decode cX12_longest 75 = .ok (.iload_n 1, 1) := by decide +kernel
theorem dX12_longest_76 : decode cX12_longest 76 = .ok (.iconst 0, 1) := by decide +kernel
theorem dX12_longest_77 : decode cX12_longest 77 = .ok (.iload 9, 2) := by decide +kernel
theorem dX12_longest_79 : decode cX12_longest 79 = .ok (.invokevirtual 542, 3) := by decide +kernel
theorem dX12_longest_82 : decode cX12_longest 82 = .ok (.ifCond .eq 18, 3) := by decide +kernel
theorem dX12_longest_85 : decode cX12_longest 85 = .ok (.iload 6, 2) := by decide +kernel
theorem dX12_longest_87 : decode cX12_longest 87 = .ok (.iload_n 2, 1) := by decide +kernel
theorem dX12_longest_88 : decode cX12_longest 88 = .ok (.if_icmp .ge 8, 3) := by decide +kernel
theorem dX12_longest_91 : decode cX12_longest 91 = .ok (.iload 6, 2) := by decide +kernel
theorem dX12_longest_93 : decode cX12_longest 93 = .ok (.goto 5, 3) := by decide +kernel
theorem dX12_longest_96 : decode cX12_longest 96 = .ok (.bipush (-3), 2) := by decide +kernel
theorem dX12_longest_98 : decode cX12_longest 98 = .ok (.istore 5, 2) := by decide +kernel
theorem dX12_longest_100 : decode cX12_longest 100 = .ok (.iconst 0, 1) := by decide +kernel
theorem dX12_longest_101 : decode cX12_longest 101 = .ok (.istore 10, 2) := by decide +kernel
theorem dX12_longest_103 : decode cX12_longest 103 = .ok (.iload 10, 2) := by decide +kernel
theorem dX12_longest_105 : decode cX12_longest 105 = .ok (.aload_n 0, 1) := by decide +kernel
theorem dX12_longest_106 : decode cX12_longest 106 = .ok (.getfield 103, 3) := by decide +kernel
theorem dX12_longest_109 : decode cX12_longest 109 = .ok (.iload_n 1, 1) := by decide +kernel
theorem dX12_longest_110 : decode cX12_longest 110 = .ok (.iaload, 1) := by decide +kernel
theorem dX12_longest_111 : decode cX12_longest 111 = .ok (.if_icmp .ge 25, 3) := by decide +kernel
theorem dX12_longest_114 : decode cX12_longest 114 = .ok (.lload 7, 2) := by decide +kernel
theorem dX12_longest_116 : decode cX12_longest 116 = .ok (.lconst 1, 1) := by decide +kernel
theorem dX12_longest_117 : decode cX12_longest 117 = .ok (.aload_n 0, 1) := by decide +kernel
theorem dX12_longest_118 : decode cX12_longest 118 = .ok (.iconst 0, 1) := by decide +kernel
theorem dX12_longest_119 : decode cX12_longest 119 = .ok (.iload 9, 2) := by decide +kernel
theorem dX12_longest_121 : decode cX12_longest 121 = .ok (.iload 10, 2) := by decide +kernel
theorem dX12_longest_123 : decode cX12_longest 123 = .ok (.invokevirtual 555, 3) := by decide +kernel
theorem dX12_longest_126 : decode cX12_longest 126 = .ok (.lshl, 1) := by decide +kernel
theorem dX12_longest_127 : decode cX12_longest 127 = .ok (.lor, 1) := by decide +kernel
theorem dX12_longest_128 : decode cX12_longest 128 = .ok (.lstore 7, 2) := by decide +kernel
theorem dX12_longest_130 : decode cX12_longest 130 = .ok (.iinc 10 1, 3) := by decide +kernel
theorem dX12_longest_133 : decode cX12_longest 133 = .ok (.goto (-30), 3) := by decide +kernel
theorem dX12_longest_136 : decode cX12_longest 136 = .ok (.iinc 9 1, 3) := by decide +kernel
theorem dX12_longest_139 : decode cX12_longest 139 = .ok (.goto (-83), 3) := by decide +kernel
theorem dX12_longest_142 : decode cX12_longest 142 = .ok (.iload 5, 2) := by decide +kernel
theorem dX12_longest_144 : decode cX12_longest 144 = .ok (.bipush (-3), 2) := by decide +kernel
theorem dX12_longest_146 : decode cX12_longest 146 = .ok (.if_icmp .ne 10, 3) := by decide +kernel
theorem dX12_longest_149 : decode cX12_longest 149 = .ok (.aload_n 0, 1) := by decide +kernel
theorem dX12_longest_150 : decode cX12_longest 150 = .ok (.bipush (-3), 2) := by decide +kernel
theorem dX12_longest_152 : decode cX12_longest 152 = .ok (.invokevirtual 196, 3) := by decide +kernel
theorem dX12_longest_155 : decode cX12_longest 155 = .ok (.ireturn, 1) := by decide +kernel
theorem dX12_longest_156 : decode cX12_longest 156 = .ok (.lload 7, 2) := by decide +kernel
theorem dX12_longest_158 : decode cX12_longest 158 = .ok (.lstore_n 3, 1) := by decide +kernel
theorem dX12_longest_159 : decode cX12_longest 159 = .ok (.iinc 6 1, 3) := by decide +kernel
theorem dX12_longest_162 : decode cX12_longest 162 = .ok (.goto (-120), 3) := by decide +kernel
theorem dX12_longest_165 : decode cX12_longest 165 = .ok (.aload_n 0, 1) := by decide +kernel
theorem dX12_longest_166 : decode cX12_longest 166 = .ok (.iload 5, 2) := by decide +kernel
theorem dX12_longest_168 : decode cX12_longest 168 = .ok (.invokevirtual 196, 3) := by decide +kernel
theorem dX12_longest_171 : decode cX12_longest 171 = .ok (.ireturn, 1) := by decide +kernel
theorem dX12_cutsBoth_0 : decode cX12_cutsBoth 0 = .ok (.aload_n 0, 1) := by decide +kernel
theorem dX12_cutsBoth_1 : decode cX12_cutsBoth 1 = .ok (.iconst 0, 1) := by decide +kernel
theorem dX12_cutsBoth_2 : decode cX12_cutsBoth 2 = .ok (.putfield 647, 3) := by decide +kernel
theorem dX12_cutsBoth_5 : decode cX12_cutsBoth 5 = .ok (.iconst 0, 1) := by decide +kernel
theorem dX12_cutsBoth_6 : decode cX12_cutsBoth 6 = .ok (.istore_n 3, 1) := by decide +kernel
theorem dX12_cutsBoth_7 : decode cX12_cutsBoth 7 = .ok (.iconst 0, 1) := by decide +kernel
theorem dX12_cutsBoth_8 : decode cX12_cutsBoth 8 = .ok (.istore 4, 2) := by decide +kernel
theorem dX12_cutsBoth_10 : decode cX12_cutsBoth 10 = .ok (.iload_n 3, 1) := by decide +kernel
theorem dX12_cutsBoth_11 : decode cX12_cutsBoth 11 = .ok (.aload_n 0, 1) := by decide +kernel
theorem dX12_cutsBoth_12 : decode cX12_cutsBoth 12 = .ok (.getfield 103, 3) := by decide +kernel
theorem dX12_cutsBoth_15 : decode cX12_cutsBoth 15 = .ok (.iload_n 1, 1) := by decide +kernel
theorem dX12_cutsBoth_16 : decode cX12_cutsBoth 16 = .ok (.iaload, 1) := by decide +kernel
theorem dX12_cutsBoth_17 : decode cX12_cutsBoth 17 = .ok (.if_icmp .ge 137, 3) := by decide +kernel
theorem dX12_cutsBoth_20 : decode cX12_cutsBoth 20 = .ok (.iload 4, 2) := by decide +kernel
theorem dX12_cutsBoth_22 : decode cX12_cutsBoth 22 = .ok (.aload_n 0, 1) := by decide +kernel
theorem dX12_cutsBoth_23 : decode cX12_cutsBoth 23 = .ok (.getfield 103, 3) := by decide +kernel
theorem dX12_cutsBoth_26 : decode cX12_cutsBoth 26 = .ok (.iload_n 2, 1) := by decide +kernel
theorem dX12_cutsBoth_27 : decode cX12_cutsBoth 27 = .ok (.iaload, 1) := by decide +kernel
theorem dX12_cutsBoth_28 : decode cX12_cutsBoth 28 = .ok (.if_icmp .ge 126, 3) := by decide +kernel
theorem dX12_cutsBoth_31 : decode cX12_cutsBoth 31 = .ok (.aload_n 0, 1) := by decide +kernel
theorem dX12_cutsBoth_32 : decode cX12_cutsBoth 32 = .ok (.getfield 106, 3) := by decide +kernel
theorem dX12_cutsBoth_35 : decode cX12_cutsBoth 35 = .ok (.iload_n 1, 1) := by decide +kernel
theorem dX12_cutsBoth_36 : decode cX12_cutsBoth 36 = .ok (.sipush 128, 3) := by decide +kernel
theorem dX12_cutsBoth_39 : decode cX12_cutsBoth 39 = .ok (.imul, 1) := by decide +kernel
theorem dX12_cutsBoth_40 : decode cX12_cutsBoth 40 = .ok (.iload_n 3, 1) := by decide +kernel
theorem dX12_cutsBoth_41 : decode cX12_cutsBoth 41 = .ok (.iadd, 1) := by decide +kernel
theorem dX12_cutsBoth_42 : decode cX12_cutsBoth 42 = .ok (.iaload, 1) := by decide +kernel
theorem dX12_cutsBoth_43 : decode cX12_cutsBoth 43 = .ok (.istore 5, 2) := by decide +kernel
theorem dX12_cutsBoth_45 : decode cX12_cutsBoth 45 = .ok (.aload_n 0, 1) := by decide +kernel
theorem dX12_cutsBoth_46 : decode cX12_cutsBoth 46 = .ok (.getfield 106, 3) := by decide +kernel
theorem dX12_cutsBoth_49 : decode cX12_cutsBoth 49 = .ok (.iload_n 2, 1) := by decide +kernel
theorem dX12_cutsBoth_50 : decode cX12_cutsBoth 50 = .ok (.sipush 128, 3) := by decide +kernel
theorem dX12_cutsBoth_53 : decode cX12_cutsBoth 53 = .ok (.imul, 1) := by decide +kernel
theorem dX12_cutsBoth_54 : decode cX12_cutsBoth 54 = .ok (.iload 4, 2) := by decide +kernel
theorem dX12_cutsBoth_56 : decode cX12_cutsBoth 56 = .ok (.iadd, 1) := by decide +kernel
theorem dX12_cutsBoth_57 : decode cX12_cutsBoth 57 = .ok (.iaload, 1) := by decide +kernel
theorem dX12_cutsBoth_58 : decode cX12_cutsBoth 58 = .ok (.istore 6, 2) := by decide +kernel
theorem dX12_cutsBoth_60 : decode cX12_cutsBoth 60 = .ok (.aload_n 0, 1) := by decide +kernel
theorem dX12_cutsBoth_61 : decode cX12_cutsBoth 61 = .ok (.getfield 163, 3) := by decide +kernel
theorem dX12_cutsBoth_64 : decode cX12_cutsBoth 64 = .ok (.aload_n 0, 1) := by decide +kernel
theorem dX12_cutsBoth_65 : decode cX12_cutsBoth 65 = .ok (.getfield 647, 3) := by decide +kernel
theorem dX12_cutsBoth_68 : decode cX12_cutsBoth 68 = .ok (.iload 5, 2) := by decide +kernel
theorem dX12_cutsBoth_70 : decode cX12_cutsBoth 70 = .ok (.iload 6, 2) := by decide +kernel
theorem dX12_cutsBoth_72 : decode cX12_cutsBoth 72 = .ok (.if_icmp .le 8, 3) := by decide +kernel
theorem dX12_cutsBoth_75 : decode cX12_cutsBoth 75 = .ok (.iload 5, 2) := by decide +kernel
theorem dX12_cutsBoth_77 : decode cX12_cutsBoth 77 = .ok (.goto 5, 3) := by decide +kernel
theorem dX12_cutsBoth_80 : decode cX12_cutsBoth 80 = .ok (.iload 6, 2) := by decide +kernel
theorem dX12_cutsBoth_82 : decode cX12_cutsBoth 82 = .ok (.iastore, 1) := by decide +kernel
theorem dX12_cutsBoth_83 : decode cX12_cutsBoth 83 = .ok (.aload_n 0, 1) := by decide +kernel
theorem dX12_cutsBoth_84 : decode cX12_cutsBoth 84 = .ok (.getfield 166, 3) := by decide +kernel
theorem dX12_cutsBoth_87 : decode cX12_cutsBoth 87 = .ok (.aload_n 0, 1) := by decide +kernel
theorem dX12_cutsBoth_88 : decode cX12_cutsBoth 88 = .ok (.getfield 647, 3) := by decide +kernel
theorem dX12_cutsBoth_91 : decode cX12_cutsBoth 91 = .ok (.iload_n 3, 1) := by decide +kernel
theorem dX12_cutsBoth_92 : decode cX12_cutsBoth 92 = .ok (.iastore, 1) := by decide +kernel
theorem dX12_cutsBoth_93 : decode cX12_cutsBoth 93 = .ok (.aload_n 0, 1) := by decide +kernel
theorem dX12_cutsBoth_94 : decode cX12_cutsBoth 94 = .ok (.getfield 169, 3) := by decide +kernel
theorem dX12_cutsBoth_97 : decode cX12_cutsBoth 97 = .ok (.aload_n 0, 1) := by decide +kernel
theorem dX12_cutsBoth_98 : decode cX12_cutsBoth 98 = .ok (.getfield 647, 3) := by decide +kernel
theorem dX12_cutsBoth_101 : decode cX12_cutsBoth 101 = .ok (.iload 4, 2) := by decide +kernel
theorem dX12_cutsBoth_103 : decode cX12_cutsBoth 103 = .ok (.iastore, 1) := by decide +kernel
theorem dX12_cutsBoth_104 : decode cX12_cutsBoth 104 = .ok (.aload_n 0, 1) := by decide +kernel
theorem dX12_cutsBoth_105 : decode cX12_cutsBoth 105 = .ok (.dup, 1) := by decide +kernel
theorem dX12_cutsBoth_106 : decode cX12_cutsBoth 106 = .ok (.getfield 647, 3) := by decide +kernel
theorem dX12_cutsBoth_109 : decode cX12_cutsBoth 109 = .ok (.iconst 1, 1) := by decide +kernel
theorem dX12_cutsBoth_110 : decode cX12_cutsBoth 110 = .ok (.iadd, 1) := by decide +kernel
theorem dX12_cutsBoth_111 : decode cX12_cutsBoth 111 = .ok (.putfield 647, 3) := by decide +kernel
theorem dX12_cutsBoth_114 : decode cX12_cutsBoth 114 = .ok (.aload_n 0, 1) := by decide +kernel
theorem dX12_cutsBoth_115 : decode cX12_cutsBoth 115 = .ok (.iload_n 1, 1) := by decide +kernel
theorem dX12_cutsBoth_116 : decode cX12_cutsBoth 116 = .ok (.iload_n 3, 1) := by decide +kernel
theorem dX12_cutsBoth_117 : decode cX12_cutsBoth 117 = .ok (.invokevirtual 571, 3) := by decide +kernel
theorem dX12_cutsBoth_120 : decode cX12_cutsBoth 120 = .ok (.istore 7, 2) := by decide +kernel
theorem dX12_cutsBoth_122 : decode cX12_cutsBoth 122 = .ok (.aload_n 0, 1) := by decide +kernel
theorem dX12_cutsBoth_123 : decode cX12_cutsBoth 123 = .ok (.iload_n 2, 1) := by decide +kernel
theorem dX12_cutsBoth_124 : decode cX12_cutsBoth 124 = .ok (.iload 4, 2) := by decide +kernel
theorem dX12_cutsBoth_126 : decode cX12_cutsBoth 126 = .ok (.invokevirtual 571, 3) := by decide +kernel
theorem dX12_cutsBoth_129 : decode cX12_cutsBoth 129 = .ok (.istore 8, 2) := by decide +kernel
theorem dX12_cutsBoth_131 : decode cX12_cutsBoth 131 = .ok (.iload 7, 2) := by decide +kernel
theorem dX12_cutsBoth_133 : decode cX12_cutsBoth 133 = .ok (.iload 8, 2) := by decide +kernel
theorem dX12_cutsBoth_135 : decode cX12_cutsBoth 135 = .ok (.if_icmp .gt 6, 3) := by decide +kernel
theorem dX12_cutsBoth_138 : decode cX12_cutsBoth 138 = .ok (.iinc 3 1, 3) := by decide +kernel
theorem dX12_cutsBoth_141 : decode cX12_cutsBoth 141 = .ok (.iload 8, 2) := by decide +kernel
theorem dX12_cutsBoth_143 : decode cX12_cutsBoth 143 = .ok (.iload 7, 2) := by decide +kernel
theorem dX12_cutsBoth_145 : decode cX12_cutsBoth 145 = .ok (.if_icmp .gt 6, 3) := by decide +kernel
theorem dX12_cutsBoth_148 : decode cX12_cutsBoth 148 = .ok (.iinc 4 1, 3) := by decide +kernel
theorem dX12_cutsBoth_151 : decode cX12_cutsBoth 151 = .ok (.goto (-141), 3) := by decide +kernel
theorem dX12_cutsBoth_154 : decode cX12_cutsBoth 154 = .ok (.return_, 1) := by decide +kernel
theorem dX12_pairsBegin_0 : decode cX12_pairsBegin 0 = .ok (.iconst 0, 1) := by decide +kernel
theorem dX12_pairsBegin_1 : decode cX12_pairsBegin 1 = .ok (.istore_n 1, 1) := by decide +kernel
theorem dX12_pairsBegin_2 : decode cX12_pairsBegin 2 = .ok (.iload_n 1, 1) := by decide +kernel
theorem dX12_pairsBegin_3 : decode cX12_pairsBegin 3 = .ok (.sipush 1600, 3) := by decide +kernel
theorem dX12_pairsBegin_6 : decode cX12_pairsBegin 6 = .ok (.if_icmp .ge 16, 3) := by decide +kernel
theorem dX12_pairsBegin_9 : decode cX12_pairsBegin 9 = .ok (.aload_n 0, 1) := by decide +kernel
theorem dX12_pairsBegin_10 : decode cX12_pairsBegin 10 = .ok (.getfield 175, 3) := by decide +kernel
theorem dX12_pairsBegin_13 : decode cX12_pairsBegin 13 = .ok (.iload_n 1, 1) := by decide +kernel
theorem dX12_pairsBegin_14 : decode cX12_pairsBegin 14 = .ok (.iconst (-1), 1) := by decide +kernel
theorem dX12_pairsBegin_15 : decode cX12_pairsBegin 15 = .ok (.iastore, 1) := by decide +kernel
theorem dX12_pairsBegin_16 : decode cX12_pairsBegin 16 = .ok (.iinc 1 1, 3) := by decide +kernel
theorem dX12_pairsBegin_19 : decode cX12_pairsBegin 19 = .ok (.goto (-17), 3) := by decide +kernel
theorem dX12_pairsBegin_22 : decode cX12_pairsBegin 22 = .ok (.aload_n 0, 1) := by decide +kernel
theorem dX12_pairsBegin_23 : decode cX12_pairsBegin 23 = .ok (.iconst 0, 1) := by decide +kernel
theorem dX12_pairsBegin_24 : decode cX12_pairsBegin 24 = .ok (.putfield 650, 3) := by decide +kernel
theorem dX12_pairsBegin_27 : decode cX12_pairsBegin 27 = .ok (.return_, 1) := by decide +kernel
theorem dX12_pairOf_0 : decode cX12_pairOf 0 = .ok (.iload_n 1, 1) := by decide +kernel
theorem dX12_pairOf_1 : decode cX12_pairOf 1 = .ok (.bipush 40, 2) := by decide +kernel
theorem dX12_pairOf_3 : decode cX12_pairOf 3 = .ok (.imul, 1) := by decide +kernel
theorem dX12_pairOf_4 : decode cX12_pairOf 4 = .ok (.iload_n 2, 1) := by decide +kernel
theorem dX12_pairOf_5 : decode cX12_pairOf 5 = .ok (.iadd, 1) := by decide +kernel
theorem dX12_pairOf_6 : decode cX12_pairOf 6 = .ok (.istore 5, 2) := by decide +kernel
theorem dX12_pairOf_8 : decode cX12_pairOf 8 = .ok (.aload_n 0, 1) := by decide +kernel
theorem dX12_pairOf_9 : decode cX12_pairOf 9 = .ok (.getfield 175, 3) := by decide +kernel
theorem dX12_pairOf_12 : decode cX12_pairOf 12 = .ok (.iload 5, 2) := by decide +kernel
theorem dX12_pairOf_14 : decode cX12_pairOf 14 = .ok (.iaload, 1) := by decide +kernel
theorem dX12_pairOf_15 : decode cX12_pairOf 15 = .ok (.iconst (-1), 1) := by decide +kernel
theorem dX12_pairOf_16 : decode cX12_pairOf 16 = .ok (.if_icmp .eq 11, 3) := by decide +kernel
theorem dX12_pairOf_19 : decode cX12_pairOf 19 = .ok (.aload_n 0, 1) := by decide +kernel
theorem dX12_pairOf_20 : decode cX12_pairOf 20 = .ok (.getfield 175, 3) := by decide +kernel
theorem dX12_pairOf_23 : decode cX12_pairOf 23 = .ok (.iload 5, 2) := by decide +kernel
theorem dX12_pairOf_25 : decode cX12_pairOf 25 = .ok (.iaload, 1) := by decide +kernel
theorem dX12_pairOf_26 : decode cX12_pairOf 26 = .ok (.ireturn, 1) := by decide +kernel
theorem dX12_pairOf_27 : decode cX12_pairOf 27 = .ok (.aload_n 0, 1) := by decide +kernel
theorem dX12_pairOf_28 : decode cX12_pairOf 28 = .ok (.getfield 175, 3) := by decide +kernel
theorem dX12_pairOf_31 : decode cX12_pairOf 31 = .ok (.iload 5, 2) := by decide +kernel
theorem dX12_pairOf_33 : decode cX12_pairOf 33 = .ok (.aload_n 0, 1) := by decide +kernel
theorem dX12_pairOf_34 : decode cX12_pairOf 34 = .ok (.getfield 650, 3) := by decide +kernel
theorem dX12_pairOf_37 : decode cX12_pairOf 37 = .ok (.iastore, 1) := by decide +kernel
theorem dX12_pairOf_38 : decode cX12_pairOf 38 = .ok (.aload_n 0, 1) := by decide +kernel
theorem dX12_pairOf_39 : decode cX12_pairOf 39 = .ok (.getfield 172, 3) := by decide +kernel
theorem dX12_pairOf_42 : decode cX12_pairOf 42 = .ok (.aload_n 0, 1) := by decide +kernel
theorem dX12_pairOf_43 : decode cX12_pairOf 43 = .ok (.getfield 650, 3) := by decide +kernel
theorem dX12_pairOf_46 : decode cX12_pairOf 46 = .ok (.iload 5, 2) := by decide +kernel
theorem dX12_pairOf_48 : decode cX12_pairOf 48 = .ok (.iastore, 1) := by decide +kernel
theorem dX12_pairOf_49 : decode cX12_pairOf 49 = .ok (.aload_n 0, 1) := by decide +kernel
theorem dX12_pairOf_50 : decode cX12_pairOf 50 = .ok (.getfield 178, 3) := by decide +kernel
theorem dX12_pairOf_53 : decode cX12_pairOf 53 = .ok (.aload_n 0, 1) := by decide +kernel
theorem dX12_pairOf_54 : decode cX12_pairOf 54 = .ok (.getfield 650, 3) := by decide +kernel
theorem dX12_pairOf_57 : decode cX12_pairOf 57 = .ok (.iload_n 3, 1) := by decide +kernel
theorem dX12_pairOf_58 : decode cX12_pairOf 58 = .ok (.iastore, 1) := by decide +kernel
theorem dX12_pairOf_59 : decode cX12_pairOf 59 = .ok (.aload_n 0, 1) := by decide +kernel
theorem dX12_pairOf_60 : decode cX12_pairOf 60 = .ok (.getfield 181, 3) := by decide +kernel
theorem dX12_pairOf_63 : decode cX12_pairOf 63 = .ok (.aload_n 0, 1) := by decide +kernel
theorem dX12_pairOf_64 : decode cX12_pairOf 64 = .ok (.getfield 650, 3) := by decide +kernel
theorem dX12_pairOf_67 : decode cX12_pairOf 67 = .ok (.iload 4, 2) := by decide +kernel
theorem dX12_pairOf_69 : decode cX12_pairOf 69 = .ok (.iastore, 1) := by decide +kernel
theorem dX12_pairOf_70 : decode cX12_pairOf 70 = .ok (.aload_n 0, 1) := by decide +kernel
theorem dX12_pairOf_71 : decode cX12_pairOf 71 = .ok (.dup, 1) := by decide +kernel
theorem dX12_pairOf_72 : decode cX12_pairOf 72 = .ok (.getfield 650, 3) := by decide +kernel
theorem dX12_pairOf_75 : decode cX12_pairOf 75 = .ok (.iconst 1, 1) := by decide +kernel
theorem dX12_pairOf_76 : decode cX12_pairOf 76 = .ok (.iadd, 1) := by decide +kernel
theorem dX12_pairOf_77 : decode cX12_pairOf 77 = .ok (.putfield 650, 3) := by decide +kernel
theorem dX12_pairOf_80 : decode cX12_pairOf 80 = .ok (.aload_n 0, 1) := by decide +kernel
theorem dX12_pairOf_81 : decode cX12_pairOf 81 = .ok (.getfield 650, 3) := by decide +kernel
theorem dX12_pairOf_84 : decode cX12_pairOf 84 = .ok (.iconst 1, 1) := by decide +kernel
theorem dX12_pairOf_85 : decode cX12_pairOf 85 = .ok (.isub, 1) := by decide +kernel
theorem dX12_pairOf_86 : decode cX12_pairOf 86 = .ok (.ireturn, 1) := by decide +kernel
theorem dX12_finds_0 : decode cX12_finds 0 = .ok (.aload_n 0, 1) := by decide +kernel
theorem dX12_finds_1 : decode cX12_finds 1 = .ok (.iload_n 1, 1) := by decide +kernel
theorem dX12_finds_2 : decode cX12_finds 2 = .ok (.iconst 0, 1) := by decide +kernel
theorem dX12_finds_3 : decode cX12_finds 3 = .ok (.invokevirtual 521, 3) := by decide +kernel
theorem dX12_finds_6 : decode cX12_finds 6 = .ok (.pop, 1) := by decide +kernel
theorem dX12_finds_7 : decode cX12_finds 7 = .ok (.aload_n 0, 1) := by decide +kernel
theorem dX12_finds_8 : decode cX12_finds 8 = .ok (.iload_n 2, 1) := by decide +kernel
theorem dX12_finds_9 : decode cX12_finds 9 = .ok (.iconst 1, 1) := by decide +kernel
theorem dX12_finds_10 : decode cX12_finds 10 = .ok (.invokevirtual 521, 3) := by decide +kernel
theorem dX12_finds_13 : decode cX12_finds 13 = .ok (.pop, 1) := by decide +kernel
theorem dX12_finds_14 : decode cX12_finds 14 = .ok (.aload_n 0, 1) := by decide +kernel
theorem dX12_finds_15 : decode cX12_finds 15 = .ok (.iload_n 1, 1) := by decide +kernel
theorem dX12_finds_16 : decode cX12_finds 16 = .ok (.iload_n 2, 1) := by decide +kernel
theorem dX12_finds_17 : decode cX12_finds 17 = .ok (.invokevirtual 653, 3) := by decide +kernel
theorem dX12_finds_20 : decode cX12_finds 20 = .ok (.aload_n 0, 1) := by decide +kernel
theorem dX12_finds_21 : decode cX12_finds 21 = .ok (.invokevirtual 656, 3) := by decide +kernel
theorem dX12_finds_24 : decode cX12_finds 24 = .ok (.aload_n 0, 1) := by decide +kernel
theorem dX12_finds_25 : decode cX12_finds 25 = .ok (.iconst 0, 1) := by decide +kernel
theorem dX12_finds_26 : decode cX12_finds 26 = .ok (.iconst 0, 1) := by decide +kernel
theorem dX12_finds_27 : decode cX12_finds 27 = .ok (.iconst (-1), 1) := by decide +kernel
theorem dX12_finds_28 : decode cX12_finds 28 = .ok (.iconst 0, 1) := by decide +kernel
theorem dX12_finds_29 : decode cX12_finds 29 = .ok (.invokevirtual 659, 3) := by decide +kernel
theorem dX12_finds_32 : decode cX12_finds 32 = .ok (.pop, 1) := by decide +kernel
theorem dX12_finds_33 : decode cX12_finds 33 = .ok (.iconst 0, 1) := by decide +kernel
theorem dX12_finds_34 : decode cX12_finds 34 = .ok (.istore 4, 2) := by decide +kernel
theorem dX12_finds_36 : decode cX12_finds 36 = .ok (.iload 4, 2) := by decide +kernel
theorem dX12_finds_38 : decode cX12_finds 38 = .ok (.aload_n 0, 1) := by decide +kernel
theorem dX12_finds_39 : decode cX12_finds 39 = .ok (.getfield 650, 3) := by decide +kernel
theorem dX12_finds_42 : decode cX12_finds 42 = .ok (.if_icmp .ge 119, 3) := by decide +kernel
theorem dX12_finds_45 : decode cX12_finds 45 = .ok (.aload_n 0, 1) := by decide +kernel
theorem dX12_finds_46 : decode cX12_finds 46 = .ok (.getfield 172, 3) := by decide +kernel
theorem dX12_finds_49 : decode cX12_finds 49 = .ok (.iload 4, 2) := by decide +kernel
theorem dX12_finds_51 : decode cX12_finds 51 = .ok (.iaload, 1) := by decide +kernel
theorem dX12_finds_52 : decode cX12_finds 52 = .ok (.bipush 40, 2) := by decide +kernel
theorem dX12_finds_54 : decode cX12_finds 54 = .ok (.idiv, 1) := by decide +kernel
theorem dX12_finds_55 : decode cX12_finds 55 = .ok (.istore 5, 2) := by decide +kernel
theorem dX12_finds_57 : decode cX12_finds 57 = .ok (.aload_n 0, 1) := by decide +kernel
theorem dX12_finds_58 : decode cX12_finds 58 = .ok (.getfield 172, 3) := by decide +kernel
theorem dX12_finds_61 : decode cX12_finds 61 = .ok (.iload 4, 2) := by decide +kernel
theorem dX12_finds_63 : decode cX12_finds 63 = .ok (.iaload, 1) := by decide +kernel
theorem dX12_finds_64 : decode cX12_finds 64 = .ok (.bipush 40, 2) := by decide +kernel
theorem dX12_finds_66 : decode cX12_finds 66 = .ok (.irem, 1) := by decide +kernel
theorem dX12_finds_67 : decode cX12_finds 67 = .ok (.istore 6, 2) := by decide +kernel
theorem dX12_finds_69 : decode cX12_finds 69 = .ok (.iload_n 3, 1) := by decide +kernel
theorem dX12_finds_70 : decode cX12_finds 70 = .ok (.aload_n 0, 1) := by decide +kernel
theorem dX12_finds_71 : decode cX12_finds 71 = .ok (.iload_n 1, 1) := by decide +kernel
theorem dX12_finds_72 : decode cX12_finds 72 = .ok (.iconst 0, 1) := by decide +kernel
theorem dX12_finds_73 : decode cX12_finds 73 = .ok (.iload 5, 2) := by decide +kernel
theorem dX12_finds_75 : decode cX12_finds 75 = .ok (.invokevirtual 542, 3) := by decide +kernel
theorem dX12_finds_78 : decode cX12_finds 78 = .ok (.aload_n 0, 1) := by decide +kernel
theorem dX12_finds_79 : decode cX12_finds 79 = .ok (.iload_n 2, 1) := by decide +kernel
theorem dX12_finds_80 : decode cX12_finds 80 = .ok (.iconst 1, 1) := by decide +kernel
theorem dX12_finds_81 : decode cX12_finds 81 = .ok (.iload 6, 2) := by decide +kernel
theorem dX12_finds_83 : decode cX12_finds 83 = .ok (.invokevirtual 542, 3) := by decide +kernel
theorem dX12_finds_86 : decode cX12_finds 86 = .ok (.invokestatic 466, 3) := by decide +kernel
theorem dX12_finds_89 : decode cX12_finds 89 = .ok (.ifCond .eq 6, 3) := by decide +kernel
theorem dX12_finds_92 : decode cX12_finds 92 = .ok (.iload 4, 2) := by decide +kernel
theorem dX12_finds_94 : decode cX12_finds 94 = .ok (.ireturn, 1) := by decide +kernel
theorem dX12_finds_95 : decode cX12_finds 95 = .ok (.iconst 0, 1) := by decide +kernel
theorem dX12_finds_96 : decode cX12_finds 96 = .ok (.istore 7, 2) := by decide +kernel
theorem dX12_finds_98 : decode cX12_finds 98 = .ok (.iload 7, 2) := by decide +kernel
theorem dX12_finds_100 : decode cX12_finds 100 = .ok (.aload_n 0, 1) := by decide +kernel
theorem dX12_finds_101 : decode cX12_finds 101 = .ok (.getfield 647, 3) := by decide +kernel
theorem dX12_finds_104 : decode cX12_finds 104 = .ok (.if_icmp .ge 51, 3) := by decide +kernel
theorem dX12_finds_107 : decode cX12_finds 107 = .ok (.aload_n 0, 1) := by decide +kernel
theorem dX12_finds_108 : decode cX12_finds 108 = .ok (.aload_n 0, 1) := by decide +kernel
theorem dX12_finds_109 : decode cX12_finds 109 = .ok (.iconst 0, 1) := by decide +kernel
theorem dX12_finds_110 : decode cX12_finds 110 = .ok (.iload 5, 2) := by decide +kernel
theorem dX12_finds_112 : decode cX12_finds 112 = .ok (.aload_n 0, 1) := by decide +kernel
theorem dX12_finds_113 : decode cX12_finds 113 = .ok (.getfield 166, 3) := by decide +kernel
theorem dX12_finds_116 : decode cX12_finds 116 = .ok (.iload 7, 2) := by decide +kernel
theorem dX12_finds_118 : decode cX12_finds 118 = .ok (.iaload, 1) := by decide +kernel
theorem dX12_finds_119 : decode cX12_finds 119 = .ok (.invokevirtual 555, 3) := by decide +kernel
theorem dX12_finds_122 : decode cX12_finds 122 = .ok (.aload_n 0, 1) := by decide +kernel
theorem dX12_finds_123 : decode cX12_finds 123 = .ok (.iconst 1, 1) := by decide +kernel
theorem dX12_finds_124 : decode cX12_finds 124 = .ok (.iload 6, 2) := by decide +kernel
theorem dX12_finds_126 : decode cX12_finds 126 = .ok (.aload_n 0, 1) := by decide +kernel
theorem dX12_finds_127 : decode cX12_finds 127 = .ok (.getfield 169, 3) := by decide +kernel
theorem dX12_finds_130 : decode cX12_finds 130 = .ok (.iload 7, 2) := by decide +kernel
theorem dX12_finds_132 : decode cX12_finds 132 = .ok (.iaload, 1) := by decide +kernel
theorem dX12_finds_133 : decode cX12_finds 133 = .ok (.invokevirtual 555, 3) := by decide +kernel
theorem dX12_finds_136 : decode cX12_finds 136 = .ok (.iload 4, 2) := by decide +kernel
theorem dX12_finds_138 : decode cX12_finds 138 = .ok (.aload_n 0, 1) := by decide +kernel
theorem dX12_finds_139 : decode cX12_finds 139 = .ok (.getfield 163, 3) := by decide +kernel
theorem dX12_finds_142 : decode cX12_finds 142 = .ok (.iload 7, 2) := by decide +kernel
theorem dX12_finds_144 : decode cX12_finds 144 = .ok (.iaload, 1) := by decide +kernel
theorem dX12_finds_145 : decode cX12_finds 145 = .ok (.invokevirtual 659, 3) := by decide +kernel
theorem dX12_finds_148 : decode cX12_finds 148 = .ok (.pop, 1) := by decide +kernel
theorem dX12_finds_149 : decode cX12_finds 149 = .ok (.iinc 7 1, 3) := by decide +kernel
theorem dX12_finds_152 : decode cX12_finds 152 = .ok (.goto (-54), 3) := by decide +kernel
theorem dX12_finds_155 : decode cX12_finds 155 = .ok (.iinc 4 1, 3) := by decide +kernel
theorem dX12_finds_158 : decode cX12_finds 158 = .ok (.goto (-122), 3) := by decide +kernel
theorem dX12_finds_161 : decode cX12_finds 161 = .ok (.iconst (-1), 1) := by decide +kernel
theorem dX12_finds_162 : decode cX12_finds 162 = .ok (.ireturn, 1) := by decide +kernel
theorem dX12_pairLength_0 : decode cX12_pairLength 0 = .ok (.iconst 0, 1) := by decide +kernel
theorem dX12_pairLength_1 : decode cX12_pairLength 1 = .ok (.istore_n 2, 1) := by decide +kernel
theorem dX12_pairLength_2 : decode cX12_pairLength 2 = .ok (.iload_n 1, 1) := by decide +kernel
theorem dX12_pairLength_3 : decode cX12_pairLength 3 = .ok (.istore_n 3, 1) := by decide +kernel
theorem dX12_pairLength_4 : decode cX12_pairLength 4 = .ok (.aload_n 0, 1) := by decide +kernel
theorem dX12_pairLength_5 : decode cX12_pairLength 5 = .ok (.getfield 178, 3) := by decide +kernel
theorem dX12_pairLength_8 : decode cX12_pairLength 8 = .ok (.iload_n 3, 1) := by decide +kernel
theorem dX12_pairLength_9 : decode cX12_pairLength 9 = .ok (.iaload, 1) := by decide +kernel
theorem dX12_pairLength_10 : decode cX12_pairLength 10 = .ok (.iconst (-1), 1) := by decide +kernel
theorem dX12_pairLength_11 : decode cX12_pairLength 11 = .ok (.if_icmp .eq 16, 3) := by decide +kernel
theorem dX12_pairLength_14 : decode cX12_pairLength 14 = .ok (.iinc 2 1, 3) := by decide +kernel
theorem dX12_pairLength_17 : decode cX12_pairLength 17 = .ok (.aload_n 0, 1) := by decide +kernel
theorem dX12_pairLength_18 : decode cX12_pairLength 18 = .ok (.getfield 178, 3) := by decide +kernel
theorem dX12_pairLength_21 : decode cX12_pairLength 21 = .ok (.iload_n 3, 1) := by decide +kernel
theorem dX12_pairLength_22 : decode cX12_pairLength 22 = .ok (.iaload, 1) := by decide +kernel
theorem dX12_pairLength_23 : decode cX12_pairLength 23 = .ok (.istore_n 3, 1) := by decide +kernel
theorem dX12_pairLength_24 : decode cX12_pairLength 24 = .ok (.goto (-20), 3) := by decide +kernel
theorem dX12_pairLength_27 : decode cX12_pairLength 27 = .ok (.iload_n 2, 1) := by decide +kernel
theorem dX12_pairLength_28 : decode cX12_pairLength 28 = .ok (.ireturn, 1) := by decide +kernel
theorem dX12_refusesTwo_0 : decode cX12_refusesTwo 0 = .ok (.aload_n 0, 1) := by decide +kernel
theorem dX12_refusesTwo_1 : decode cX12_refusesTwo 1 = .ok (.iload_n 1, 1) := by decide +kernel
theorem dX12_refusesTwo_2 : decode cX12_refusesTwo 2 = .ok (.invokevirtual 561, 3) := by decide +kernel
theorem dX12_refusesTwo_5 : decode cX12_refusesTwo 5 = .ok (.ifCond .eq 11, 3) := by decide +kernel
theorem dX12_refusesTwo_8 : decode cX12_refusesTwo 8 = .ok (.aload_n 0, 1) := by decide +kernel
theorem dX12_refusesTwo_9 : decode cX12_refusesTwo 9 = .ok (.iload_n 2, 1) := by decide +kernel
theorem dX12_refusesTwo_10 : decode cX12_refusesTwo 10 = .ok (.invokevirtual 561, 3) := by decide +kernel
theorem dX12_refusesTwo_13 : decode cX12_refusesTwo 13 = .ok (.ifCond .ne 5, 3) := by decide +kernel
theorem dX12_refusesTwo_16 : decode cX12_refusesTwo 16 = .ok (.iconst 1, 1) := by decide +kernel
theorem dX12_refusesTwo_17 : decode cX12_refusesTwo 17 = .ok (.ireturn, 1) := by decide +kernel
theorem dX12_refusesTwo_18 : decode cX12_refusesTwo 18 = .ok (.iload_n 3, 1) := by decide +kernel
theorem dX12_refusesTwo_19 : decode cX12_refusesTwo 19 = .ok (.iconst 0, 1) := by decide +kernel
theorem dX12_refusesTwo_20 : decode cX12_refusesTwo 20 = .ok (.bipush 15, 2) := by decide +kernel
theorem dX12_refusesTwo_22 : decode cX12_refusesTwo 22 = .ok (.invokestatic 201, 3) := by decide +kernel
theorem dX12_refusesTwo_25 : decode cX12_refusesTwo 25 = .ok (.ifCond .eq 7, 3) := by decide +kernel
theorem dX12_refusesTwo_28 : decode cX12_refusesTwo 28 = .ok (.iconst 0, 1) := by decide +kernel
theorem dX12_refusesTwo_29 : decode cX12_refusesTwo 29 = .ok (.goto 4, 3) := by decide +kernel
theorem dX12_refusesTwo_32 : decode cX12_refusesTwo 32 = .ok (.iconst 2, 1) := by decide +kernel
theorem dX12_refusesTwo_33 : decode cX12_refusesTwo 33 = .ok (.ireturn, 1) := by decide +kernel
theorem dX12_found_0 : decode cX12_found 0 = .ok (.aload_n 0, 1) := by decide +kernel
theorem dX12_found_1 : decode cX12_found 1 = .ok (.iconst 0, 1) := by decide +kernel
theorem dX12_found_2 : decode cX12_found 2 = .ok (.putfield 190, 3) := by decide +kernel
theorem dX12_found_5 : decode cX12_found 5 = .ok (.aload_n 0, 1) := by decide +kernel
theorem dX12_found_6 : decode cX12_found 6 = .ok (.iload_n 1, 1) := by decide +kernel
theorem dX12_found_7 : decode cX12_found 7 = .ok (.iload_n 2, 1) := by decide +kernel
theorem dX12_found_8 : decode cX12_found 8 = .ok (.iload_n 3, 1) := by decide +kernel
theorem dX12_found_9 : decode cX12_found 9 = .ok (.invokevirtual 663, 3) := by decide +kernel
theorem dX12_found_12 : decode cX12_found 12 = .ok (.istore 4, 2) := by decide +kernel
theorem dX12_found_14 : decode cX12_found 14 = .ok (.iload 4, 2) := by decide +kernel
theorem dX12_found_16 : decode cX12_found 16 = .ok (.ifCond .le 10, 3) := by decide +kernel
theorem dX12_found_19 : decode cX12_found 19 = .ok (.aload_n 0, 1) := by decide +kernel
theorem dX12_found_20 : decode cX12_found 20 = .ok (.iload 4, 2) := by decide +kernel
theorem dX12_found_22 : decode cX12_found 22 = .ok (.invokevirtual 426, 3) := by decide +kernel
theorem dX12_found_25 : decode cX12_found 25 = .ok (.ireturn, 1) := by decide +kernel
theorem dX12_found_26 : decode cX12_found 26 = .ok (.aload_n 0, 1) := by decide +kernel
theorem dX12_found_27 : decode cX12_found 27 = .ok (.iload_n 1, 1) := by decide +kernel
theorem dX12_found_28 : decode cX12_found 28 = .ok (.iload_n 2, 1) := by decide +kernel
theorem dX12_found_29 : decode cX12_found 29 = .ok (.iload_n 3, 1) := by decide +kernel
theorem dX12_found_30 : decode cX12_found 30 = .ok (.invokevirtual 666, 3) := by decide +kernel
theorem dX12_found_33 : decode cX12_found 33 = .ok (.istore 5, 2) := by decide +kernel
theorem dX12_found_35 : decode cX12_found 35 = .ok (.aload_n 0, 1) := by decide +kernel
theorem dX12_found_36 : decode cX12_found 36 = .ok (.iload 5, 2) := by decide +kernel
theorem dX12_found_38 : decode cX12_found 38 = .ok (.iconst (-1), 1) := by decide +kernel
theorem dX12_found_39 : decode cX12_found 39 = .ok (.if_icmp .ne 8, 3) := by decide +kernel
theorem dX12_found_42 : decode cX12_found 42 = .ok (.bipush (-2), 2) := by decide +kernel
theorem dX12_found_44 : decode cX12_found 44 = .ok (.goto 9, 3) := by decide +kernel
theorem dX12_found_47 : decode cX12_found 47 = .ok (.aload_n 0, 1) := by decide +kernel
theorem dX12_found_48 : decode cX12_found 48 = .ok (.iload 5, 2) := by decide +kernel
theorem dX12_found_50 : decode cX12_found 50 = .ok (.invokevirtual 669, 3) := by decide +kernel
theorem dX12_found_53 : decode cX12_found 53 = .ok (.invokevirtual 196, 3) := by decide +kernel
theorem dX12_found_56 : decode cX12_found 56 = .ok (.ireturn, 1) := by decide +kernel
theorem dX12_foundLetter_0 : decode cX12_foundLetter 0 = .ok (.aload_n 0, 1) := by decide +kernel
theorem dX12_foundLetter_1 : decode cX12_foundLetter 1 = .ok (.iconst 0, 1) := by decide +kernel
theorem dX12_foundLetter_2 : decode cX12_foundLetter 2 = .ok (.putfield 190, 3) := by decide +kernel
theorem dX12_foundLetter_5 : decode cX12_foundLetter 5 = .ok (.aload_n 0, 1) := by decide +kernel
theorem dX12_foundLetter_6 : decode cX12_foundLetter 6 = .ok (.iload_n 1, 1) := by decide +kernel
theorem dX12_foundLetter_7 : decode cX12_foundLetter 7 = .ok (.iload_n 2, 1) := by decide +kernel
theorem dX12_foundLetter_8 : decode cX12_foundLetter 8 = .ok (.iload_n 3, 1) := by decide +kernel
theorem dX12_foundLetter_9 : decode cX12_foundLetter 9 = .ok (.invokevirtual 663, 3) := by decide +kernel
theorem dX12_foundLetter_12 : decode cX12_foundLetter 12 = .ok (.istore 5, 2) := by decide +kernel
theorem dX12_foundLetter_14 : decode cX12_foundLetter 14 = .ok (.iload 5, 2) := by decide +kernel
theorem dX12_foundLetter_16 : decode cX12_foundLetter 16 = .ok (.ifCond .le 10, 3) := by decide +kernel
theorem dX12_foundLetter_19 : decode cX12_foundLetter 19 = .ok (.aload_n 0, 1) := by decide +kernel
theorem dX12_foundLetter_20 : decode cX12_foundLetter 20 = .ok (.iload 5, 2) := by decide +kernel
theorem dX12_foundLetter_22 : decode cX12_foundLetter 22 = .ok (.invokevirtual 426, 3) := by decide +kernel
theorem dX12_foundLetter_25 : decode cX12_foundLetter 25 = .ok (.ireturn, 1) := by decide +kernel
theorem dX12_foundLetter_26 : decode cX12_foundLetter 26 = .ok (.aload_n 0, 1) := by decide +kernel
theorem dX12_foundLetter_27 : decode cX12_foundLetter 27 = .ok (.iload_n 1, 1) := by decide +kernel
theorem dX12_foundLetter_28 : decode cX12_foundLetter 28 = .ok (.iload_n 2, 1) := by decide +kernel
theorem dX12_foundLetter_29 : decode cX12_foundLetter 29 = .ok (.iload_n 3, 1) := by decide +kernel
theorem dX12_foundLetter_30 : decode cX12_foundLetter 30 = .ok (.invokevirtual 666, 3) := by decide +kernel
theorem dX12_foundLetter_33 : decode cX12_foundLetter 33 = .ok (.istore 6, 2) := by decide +kernel
theorem dX12_foundLetter_35 : decode cX12_foundLetter 35 = .ok (.iload 6, 2) := by decide +kernel
theorem dX12_foundLetter_37 : decode cX12_foundLetter 37 = .ok (.iconst (-1), 1) := by decide +kernel
theorem dX12_foundLetter_38 : decode cX12_foundLetter 38 = .ok (.if_icmp .eq 8, 3) := by decide +kernel
theorem dX12_foundLetter_41 : decode cX12_foundLetter 41 = .ok (.iload 4, 2) := by decide +kernel
theorem dX12_foundLetter_43 : decode cX12_foundLetter 43 = .ok (.ifCond .ge 9, 3) := by decide +kernel
theorem dX12_foundLetter_46 : decode cX12_foundLetter 46 = .ok (.aload_n 0, 1) := by decide +kernel
theorem dX12_foundLetter_47 : decode cX12_foundLetter 47 = .ok (.iconst 1, 1) := by decide +kernel
theorem dX12_foundLetter_48 : decode cX12_foundLetter 48 = .ok (.invokevirtual 426, 3) := by decide +kernel
theorem dX12_foundLetter_51 : decode cX12_foundLetter 51 = .ok (.ireturn, 1) := by decide +kernel
theorem dX12_foundLetter_52 : decode cX12_foundLetter 52 = .ok (.aload_n 0, 1) := by decide +kernel
theorem dX12_foundLetter_53 : decode cX12_foundLetter 53 = .ok (.iload 6, 2) := by decide +kernel
theorem dX12_foundLetter_55 : decode cX12_foundLetter 55 = .ok (.invokevirtual 669, 3) := by decide +kernel
theorem dX12_foundLetter_58 : decode cX12_foundLetter 58 = .ok (.istore 7, 2) := by decide +kernel
theorem dX12_foundLetter_60 : decode cX12_foundLetter 60 = .ok (.iload 4, 2) := by decide +kernel
theorem dX12_foundLetter_62 : decode cX12_foundLetter 62 = .ok (.iload 7, 2) := by decide +kernel
theorem dX12_foundLetter_64 : decode cX12_foundLetter 64 = .ok (.if_icmp .lt 9, 3) := by decide +kernel
theorem dX12_foundLetter_67 : decode cX12_foundLetter 67 = .ok (.aload_n 0, 1) := by decide +kernel
theorem dX12_foundLetter_68 : decode cX12_foundLetter 68 = .ok (.iconst 1, 1) := by decide +kernel
theorem dX12_foundLetter_69 : decode cX12_foundLetter 69 = .ok (.invokevirtual 426, 3) := by decide +kernel
theorem dX12_foundLetter_72 : decode cX12_foundLetter 72 = .ok (.ireturn, 1) := by decide +kernel
theorem dX12_foundLetter_73 : decode cX12_foundLetter 73 = .ok (.iload 7, 2) := by decide +kernel
theorem dX12_foundLetter_75 : decode cX12_foundLetter 75 = .ok (.iconst 1, 1) := by decide +kernel
theorem dX12_foundLetter_76 : decode cX12_foundLetter 76 = .ok (.isub, 1) := by decide +kernel
theorem dX12_foundLetter_77 : decode cX12_foundLetter 77 = .ok (.istore 8, 2) := by decide +kernel
theorem dX12_foundLetter_79 : decode cX12_foundLetter 79 = .ok (.iload 8, 2) := by decide +kernel
theorem dX12_foundLetter_81 : decode cX12_foundLetter 81 = .ok (.iload 4, 2) := by decide +kernel
theorem dX12_foundLetter_83 : decode cX12_foundLetter 83 = .ok (.if_icmp .le 18, 3) := by decide +kernel
theorem dX12_foundLetter_86 : decode cX12_foundLetter 86 = .ok (.aload_n 0, 1) := by decide +kernel
theorem dX12_foundLetter_87 : decode cX12_foundLetter 87 = .ok (.getfield 178, 3) := by decide +kernel
theorem dX12_foundLetter_90 : decode cX12_foundLetter 90 = .ok (.iload 6, 2) := by decide +kernel
theorem dX12_foundLetter_92 : decode cX12_foundLetter 92 = .ok (.iaload, 1) := by decide +kernel
theorem dX12_foundLetter_93 : decode cX12_foundLetter 93 = .ok (.istore 6, 2) := by decide +kernel
theorem dX12_foundLetter_95 : decode cX12_foundLetter 95 = .ok (.iinc 8 (-1), 3) := by decide +kernel
theorem dX12_foundLetter_98 : decode cX12_foundLetter 98 = .ok (.goto (-19), 3) := by decide +kernel
theorem dX12_foundLetter_101 : decode cX12_foundLetter 101 = .ok (.aload_n 0, 1) := by decide +kernel
theorem dX12_foundLetter_102 : decode cX12_foundLetter 102 = .ok (.aload_n 0, 1) := by decide +kernel
theorem dX12_foundLetter_103 : decode cX12_foundLetter 103 = .ok (.getfield 181, 3) := by decide +kernel
theorem dX12_foundLetter_106 : decode cX12_foundLetter 106 = .ok (.iload 6, 2) := by decide +kernel
theorem dX12_foundLetter_108 : decode cX12_foundLetter 108 = .ok (.iaload, 1) := by decide +kernel
theorem dX12_foundLetter_109 : decode cX12_foundLetter 109 = .ok (.invokevirtual 196, 3) := by decide +kernel
theorem dX12_foundLetter_112 : decode cX12_foundLetter 112 = .ok (.ireturn, 1) := by decide +kernel
theorem dX12_same_0 : decode cX12_same 0 = .ok (.aload_n 0, 1) := by decide +kernel
theorem dX12_same_1 : decode cX12_same 1 = .ok (.iconst 0, 1) := by decide +kernel
theorem dX12_same_2 : decode cX12_same 2 = .ok (.putfield 190, 3) := by decide +kernel
theorem dX12_same_5 : decode cX12_same 5 = .ok (.aload_n 0, 1) := by decide +kernel
theorem dX12_same_6 : decode cX12_same 6 = .ok (.iload_n 1, 1) := by decide +kernel
theorem dX12_same_7 : decode cX12_same 7 = .ok (.invokevirtual 561, 3) := by decide +kernel
theorem dX12_same_10 : decode cX12_same 10 = .ok (.ifCond .eq 11, 3) := by decide +kernel
theorem dX12_same_13 : decode cX12_same 13 = .ok (.aload_n 0, 1) := by decide +kernel
theorem dX12_same_14 : decode cX12_same 14 = .ok (.iload_n 2, 1) := by decide +kernel
theorem dX12_same_15 : decode cX12_same 15 = .ok (.invokevirtual 561, 3) := by decide +kernel
theorem dX12_same_18 : decode cX12_same 18 = .ok (.ifCond .ne 9, 3) := by decide +kernel
theorem dX12_same_21 : decode cX12_same 21 = .ok (.aload_n 0, 1) := by decide +kernel
theorem dX12_same_22 : decode cX12_same 22 = .ok (.iconst 1, 1) := by decide +kernel
theorem dX12_same_23 : decode cX12_same 23 = .ok (.invokevirtual 426, 3) := by decide +kernel
theorem dX12_same_26 : decode cX12_same 26 = .ok (.ireturn, 1) := by decide +kernel
theorem dX12_same_27 : decode cX12_same 27 = .ok (.aload_n 0, 1) := by decide +kernel
theorem dX12_same_28 : decode cX12_same 28 = .ok (.aload_n 0, 1) := by decide +kernel
theorem dX12_same_29 : decode cX12_same 29 = .ok (.iload_n 1, 1) := by decide +kernel
theorem dX12_same_30 : decode cX12_same 30 = .ok (.iload_n 2, 1) := by decide +kernel
theorem dX12_same_31 : decode cX12_same 31 = .ok (.bipush 6, 2) := by decide +kernel
theorem dX12_same_33 : decode cX12_same 33 = .ok (.invokevirtual 666, 3) := by decide +kernel
theorem dX12_same_36 : decode cX12_same 36 = .ok (.iconst (-1), 1) := by decide +kernel
theorem dX12_same_37 : decode cX12_same 37 = .ok (.if_icmp .ne 7, 3) := by decide +kernel
theorem dX12_same_40 : decode cX12_same 40 = .ok (.iconst 1, 1) := by decide +kernel
theorem dX12_same_41 : decode cX12_same 41 = .ok (.goto 4, 3) := by decide +kernel
theorem dX12_same_44 : decode cX12_same 44 = .ok (.iconst 0, 1) := by decide +kernel
theorem dX12_same_45 : decode cX12_same 45 = .ok (.invokevirtual 196, 3) := by decide +kernel
theorem dX12_same_48 : decode cX12_same 48 = .ok (.ireturn, 1) := by decide +kernel
theorem dX12_within_0 : decode cX12_within 0 = .ok (.aload_n 0, 1) := by decide +kernel
theorem dX12_within_1 : decode cX12_within 1 = .ok (.iconst 0, 1) := by decide +kernel
theorem dX12_within_2 : decode cX12_within 2 = .ok (.putfield 190, 3) := by decide +kernel
theorem dX12_within_5 : decode cX12_within 5 = .ok (.aload_n 0, 1) := by decide +kernel
theorem dX12_within_6 : decode cX12_within 6 = .ok (.iload_n 1, 1) := by decide +kernel
theorem dX12_within_7 : decode cX12_within 7 = .ok (.invokevirtual 561, 3) := by decide +kernel
theorem dX12_within_10 : decode cX12_within 10 = .ok (.ifCond .eq 11, 3) := by decide +kernel
theorem dX12_within_13 : decode cX12_within 13 = .ok (.aload_n 0, 1) := by decide +kernel
theorem dX12_within_14 : decode cX12_within 14 = .ok (.iload_n 2, 1) := by decide +kernel
theorem dX12_within_15 : decode cX12_within 15 = .ok (.invokevirtual 561, 3) := by decide +kernel
theorem dX12_within_18 : decode cX12_within 18 = .ok (.ifCond .ne 9, 3) := by decide +kernel
theorem dX12_within_21 : decode cX12_within 21 = .ok (.aload_n 0, 1) := by decide +kernel
theorem dX12_within_22 : decode cX12_within 22 = .ok (.iconst 1, 1) := by decide +kernel
theorem dX12_within_23 : decode cX12_within 23 = .ok (.invokevirtual 426, 3) := by decide +kernel
theorem dX12_within_26 : decode cX12_within 26 = .ok (.ireturn, 1) := by decide +kernel
theorem dX12_within_27 : decode cX12_within 27 = .ok (.aload_n 0, 1) := by decide +kernel
theorem dX12_within_28 : decode cX12_within 28 = .ok (.aload_n 0, 1) := by decide +kernel
theorem dX12_within_29 : decode cX12_within 29 = .ok (.iload_n 1, 1) := by decide +kernel
theorem dX12_within_30 : decode cX12_within 30 = .ok (.iload_n 2, 1) := by decide +kernel
theorem dX12_within_31 : decode cX12_within 31 = .ok (.iconst 2, 1) := by decide +kernel
theorem dX12_within_32 : decode cX12_within 32 = .ok (.invokevirtual 666, 3) := by decide +kernel
theorem dX12_within_35 : decode cX12_within 35 = .ok (.iconst (-1), 1) := by decide +kernel
theorem dX12_within_36 : decode cX12_within 36 = .ok (.if_icmp .ne 7, 3) := by decide +kernel
theorem dX12_within_39 : decode cX12_within 39 = .ok (.iconst 1, 1) := by decide +kernel
theorem dX12_within_40 : decode cX12_within 40 = .ok (.goto 4, 3) := by decide +kernel
theorem dX12_within_43 : decode cX12_within 43 = .ok (.iconst 0, 1) := by decide +kernel
theorem dX12_within_44 : decode cX12_within 44 = .ok (.invokevirtual 196, 3) := by decide +kernel
theorem dX12_within_47 : decode cX12_within 47 = .ok (.ireturn, 1) := by decide +kernel
theorem dX12_makes_0 : decode cX12_makes 0 = .ok (.aload_n 0, 1) := by decide +kernel
theorem dX12_makes_1 : decode cX12_makes 1 = .ok (.getfield 441, 3) := by decide +kernel
theorem dX12_makes_4 : decode cX12_makes 4 = .ok (.bipush 10, 2) := by decide +kernel
theorem dX12_makes_6 : decode cX12_makes 6 = .ok (.if_icmp .eq 14, 3) := by decide +kernel
theorem dX12_makes_9 : decode cX12_makes 9 = .ok (.aload_n 0, 1) := by decide +kernel
theorem dX12_makes_10 : decode cX12_makes 10 = .ok (.aload_n 0, 1) := by decide +kernel
theorem dX12_makes_11 : decode cX12_makes 11 = .ok (.getfield 441, 3) := by decide +kernel
theorem dX12_makes_14 : decode cX12_makes 14 = .ok (.invokevirtual 389, 3) := by decide +kernel
theorem dX12_makes_17 : decode cX12_makes 17 = .ok (.ifCond .ne 9, 3) := by decide +kernel
theorem dX12_makes_20 : decode cX12_makes 20 = .ok (.aload_n 0, 1) := by decide +kernel
theorem dX12_makes_21 : decode cX12_makes 21 = .ok (.iconst 3, 1) := by decide +kernel
theorem dX12_makes_22 : decode cX12_makes 22 = .ok (.invokevirtual 426, 3) := by decide +kernel
theorem dX12_makes_25 : decode cX12_makes 25 = .ok (.ireturn, 1) := by decide +kernel
theorem dX12_makes_26 : decode cX12_makes 26 = .ok (.aload_n 0, 1) := by decide +kernel
theorem dX12_makes_27 : decode cX12_makes 27 = .ok (.dup, 1) := by decide +kernel
theorem dX12_makes_28 : decode cX12_makes 28 = .ok (.getfield 441, 3) := by decide +kernel
theorem dX12_makes_31 : decode cX12_makes 31 = .ok (.iconst 1, 1) := by decide +kernel
theorem dX12_makes_32 : decode cX12_makes 32 = .ok (.iadd, 1) := by decide +kernel
theorem dX12_makes_33 : decode cX12_makes 33 = .ok (.putfield 441, 3) := by decide +kernel
theorem dX12_makes_36 : decode cX12_makes 36 = .ok (.aload_n 0, 1) := by decide +kernel
theorem dX12_makes_37 : decode cX12_makes 37 = .ok (.aload_n 0, 1) := by decide +kernel
theorem dX12_makes_38 : decode cX12_makes 38 = .ok (.getfield 441, 3) := by decide +kernel
theorem dX12_makes_41 : decode cX12_makes 41 = .ok (.iconst 1, 1) := by decide +kernel
theorem dX12_makes_42 : decode cX12_makes 42 = .ok (.isub, 1) := by decide +kernel
theorem dX12_makes_43 : decode cX12_makes 43 = .ok (.invokevirtual 196, 3) := by decide +kernel
theorem dX12_makes_46 : decode cX12_makes 46 = .ok (.ireturn, 1) := by decide +kernel
theorem dX12_mostMachines_0 : decode cX12_mostMachines 0 = .ok (.aload_n 0, 1) := by decide +kernel
theorem dX12_mostMachines_1 : decode cX12_mostMachines 1 = .ok (.getfield 441, 3) := by decide +kernel
theorem dX12_mostMachines_4 : decode cX12_mostMachines 4 = .ok (.bipush 10, 2) := by decide +kernel
theorem dX12_mostMachines_6 : decode cX12_mostMachines 6 = .ok (.if_icmp .ne 7, 3) := by decide +kernel
theorem dX12_mostMachines_9 : decode cX12_mostMachines 9 = .ok (.iconst 3, 1) := by decide +kernel
theorem dX12_mostMachines_10 : decode cX12_mostMachines 10 = .ok (.goto 4, 3) := by decide +kernel
theorem dX12_mostMachines_13 : decode cX12_mostMachines 13 = .ok (.iconst 0, 1) := by decide +kernel
theorem dX12_mostMachines_14 : decode cX12_mostMachines 14 = .ok (.ireturn, 1) := by decide +kernel
theorem dX12_refusesOne_0 : decode cX12_refusesOne 0 = .ok (.aload_n 0, 1) := by decide +kernel
theorem dX12_refusesOne_1 : decode cX12_refusesOne 1 = .ok (.iload_n 1, 1) := by decide +kernel
theorem dX12_refusesOne_2 : decode cX12_refusesOne 2 = .ok (.invokevirtual 561, 3) := by decide +kernel
theorem dX12_refusesOne_5 : decode cX12_refusesOne 5 = .ok (.ifCond .eq 10, 3) := by decide +kernel
theorem dX12_refusesOne_8 : decode cX12_refusesOne 8 = .ok (.aload_n 0, 1) := by decide +kernel
theorem dX12_refusesOne_9 : decode cX12_refusesOne 9 = .ok (.invokevirtual 672, 3) := by decide +kernel
theorem dX12_refusesOne_12 : decode cX12_refusesOne 12 = .ok (.goto 4, 3) := by decide +kernel
theorem dX12_refusesOne_15 : decode cX12_refusesOne 15 = .ok (.iconst 1, 1) := by decide +kernel
theorem dX12_refusesOne_16 : decode cX12_refusesOne 16 = .ok (.ireturn, 1) := by decide +kernel
theorem dX12_buildsTable_0 : decode cX12_buildsTable 0 = .ok (.aload_n 0, 1) := by decide +kernel
theorem dX12_buildsTable_1 : decode cX12_buildsTable 1 = .ok (.iload_n 1, 1) := by decide +kernel
theorem dX12_buildsTable_2 : decode cX12_buildsTable 2 = .ok (.invokevirtual 500, 3) := by decide +kernel
theorem dX12_buildsTable_5 : decode cX12_buildsTable 5 = .ok (.iconst 0, 1) := by decide +kernel
theorem dX12_buildsTable_6 : decode cX12_buildsTable 6 = .ok (.istore 7, 2) := by decide +kernel
theorem dX12_buildsTable_8 : decode cX12_buildsTable 8 = .ok (.iload 7, 2) := by decide +kernel
theorem dX12_buildsTable_10 : decode cX12_buildsTable 10 = .ok (.iload_n 1, 1) := by decide +kernel
theorem dX12_buildsTable_11 : decode cX12_buildsTable 11 = .ok (.if_icmp .ge 181, 3) := by decide +kernel
theorem dX12_buildsTable_14 : decode cX12_buildsTable 14 = .ok (.aload_n 0, 1) := by decide +kernel
theorem dX12_buildsTable_15 : decode cX12_buildsTable 15 = .ok (.getfield 496, 3) := by decide +kernel
theorem dX12_buildsTable_18 : decode cX12_buildsTable 18 = .ok (.ifCond .ne 174, 3) := by decide +kernel
theorem dX12_buildsTable_21 : decode cX12_buildsTable 21 = .ok (.iconst 0, 1) := by decide +kernel
theorem dX12_buildsTable_22 : decode cX12_buildsTable 22 = .ok (.istore 8, 2) := by decide +kernel
theorem dX12_buildsTable_24 : decode cX12_buildsTable 24 = .ok (.iload 8, 2) := by decide +kernel
theorem dX12_buildsTable_26 : decode cX12_buildsTable 26 = .ok (.iload 6, 2) := by decide +kernel
theorem dX12_buildsTable_28 : decode cX12_buildsTable 28 = .ok (.if_icmp .ge 158, 3) := by decide +kernel
theorem dX12_buildsTable_31 : decode cX12_buildsTable 31 = .ok (.aload_n 0, 1) := by decide +kernel
theorem dX12_buildsTable_32 : decode cX12_buildsTable 32 = .ok (.getfield 496, 3) := by decide +kernel
theorem dX12_buildsTable_35 : decode cX12_buildsTable 35 = .ok (.ifCond .ne 151, 3) := by decide +kernel
theorem dX12_buildsTable_38 : decode cX12_buildsTable 38 = .ok (.aload_n 2, 1) := by decide +kernel
theorem dX12_buildsTable_39 : decode cX12_buildsTable 39 = .ok (.iload 7, 2) := by decide +kernel
theorem dX12_buildsTable_41 : decode cX12_buildsTable 41 = .ok (.iload_n 3, 1) := by decide +kernel
theorem dX12_buildsTable_42 : decode cX12_buildsTable 42 = .ok (.imul, 1) := by decide +kernel
theorem dX12_buildsTable_43 : decode cX12_buildsTable 43 = .ok (.iload 8, 2) := by decide +kernel
theorem dX12_buildsTable_45 : decode cX12_buildsTable 45 = .ok (.iadd, 1) := by decide +kernel
theorem dX12_buildsTable_46 : decode cX12_buildsTable 46 = .ok (.iaload, 1) := by decide +kernel
theorem dX12_buildsTable_47 : decode cX12_buildsTable 47 = .ok (.istore 9, 2) := by decide +kernel
theorem dX12_buildsTable_49 : decode cX12_buildsTable 49 = .ok (.iconst 0, 1) := by decide +kernel
theorem dX12_buildsTable_50 : decode cX12_buildsTable 50 = .ok (.istore 10, 2) := by decide +kernel
theorem dX12_buildsTable_52 : decode cX12_buildsTable 52 = .ok (.iconst 0, 1) := by decide +kernel
theorem dX12_buildsTable_53 : decode cX12_buildsTable 53 = .ok (.istore 11, 2) := by decide +kernel
theorem dX12_buildsTable_55 : decode cX12_buildsTable 55 = .ok (.iload 11, 2) := by decide +kernel
theorem dX12_buildsTable_57 : decode cX12_buildsTable 57 = .ok (.iload 8, 2) := by decide +kernel
theorem dX12_buildsTable_59 : decode cX12_buildsTable 59 = .ok (.if_icmp .ge 33, 3) := by decide +kernel
theorem dX12_buildsTable_62 : decode cX12_buildsTable 62 = .ok (.iload 10, 2) := by decide +kernel
theorem dX12_buildsTable_64 : decode cX12_buildsTable 64 = .ok (.aload_n 2, 1) := by decide +kernel
theorem dX12_buildsTable_65 : decode cX12_buildsTable 65 = .ok (.iload 7, 2) := by decide +kernel
theorem dX12_buildsTable_67 : decode cX12_buildsTable 67 = .ok (.iload_n 3, 1) := by decide +kernel
theorem dX12_buildsTable_68 : decode cX12_buildsTable 68 = .ok (.imul, 1) := by decide +kernel
theorem dX12_buildsTable_69 : decode cX12_buildsTable 69 = .ok (.iload 11, 2) := by decide +kernel
theorem dX12_buildsTable_71 : decode cX12_buildsTable 71 = .ok (.iadd, 1) := by decide +kernel
theorem dX12_buildsTable_72 : decode cX12_buildsTable 72 = .ok (.iaload, 1) := by decide +kernel
theorem dX12_buildsTable_73 : decode cX12_buildsTable 73 = .ok (.iload 9, 2) := by decide +kernel
theorem dX12_buildsTable_75 : decode cX12_buildsTable 75 = .ok (.if_icmp .ne 7, 3) := by decide +kernel
theorem dX12_buildsTable_78 : decode cX12_buildsTable 78 = .ok (.iconst 1, 1) := by decide +kernel
theorem dX12_buildsTable_79 : decode cX12_buildsTable 79 = .ok (.goto 4, 3) := by decide +kernel
theorem dX12_buildsTable_82 : decode cX12_buildsTable 82 = .ok (.iconst 0, 1) := by decide +kernel
theorem dX12_buildsTable_83 : decode cX12_buildsTable 83 = .ok (.ior, 1) := by decide +kernel
theorem dX12_buildsTable_84 : decode cX12_buildsTable 84 = .ok (.istore 10, 2) := by decide +kernel
theorem dX12_buildsTable_86 : decode cX12_buildsTable 86 = .ok (.iinc 11 1, 3) := by decide +kernel
theorem dX12_buildsTable_89 : decode cX12_buildsTable 89 = .ok (.goto (-34), 3) := by decide +kernel
theorem dX12_buildsTable_92 : decode cX12_buildsTable 92 = .ok (.iload 10, 2) := by decide +kernel
theorem dX12_buildsTable_94 : decode cX12_buildsTable 94 = .ok (.ifCond .ne 86, 3) := by decide +kernel
theorem dX12_buildsTable_97 : decode cX12_buildsTable 97 = .ok (.aload_n 0, 1) := by decide +kernel
theorem dX12_buildsTable_98 : decode cX12_buildsTable 98 = .ok (.iload 7, 2) := by decide +kernel
theorem dX12_buildsTable_100 : decode cX12_buildsTable 100 = .ok (.iload 9, 2) := by decide +kernel
theorem dX12_buildsTable_102 : decode cX12_buildsTable 102 = .ok (.invokevirtual 503, 3) := by decide +kernel
theorem dX12_buildsTable_105 : decode cX12_buildsTable 105 = .ok (.ifCond .ne 6, 3) := by decide +kernel
theorem dX12_buildsTable_108 : decode cX12_buildsTable 108 = .ok (.goto 72, 3) := by decide +kernel
theorem dX12_buildsTable_111 : decode cX12_buildsTable 111 = .ok (.iload 8, 2) := by decide +kernel
theorem dX12_buildsTable_113 : decode cX12_buildsTable 113 = .ok (.istore 11, 2) := by decide +kernel
theorem dX12_buildsTable_115 : decode cX12_buildsTable 115 = .ok (.iload 11, 2) := by decide +kernel
theorem dX12_buildsTable_117 : decode cX12_buildsTable 117 = .ok (.iload 6, 2) := by decide +kernel
theorem dX12_buildsTable_119 : decode cX12_buildsTable 119 = .ok (.if_icmp .ge 61, 3) := by decide +kernel
theorem dX12_buildsTable_122 : decode cX12_buildsTable 122 = .ok (.aload_n 2, 1) := by decide +kernel
theorem dX12_buildsTable_123 : decode cX12_buildsTable 123 = .ok (.iload 7, 2) := by decide +kernel
theorem dX12_buildsTable_125 : decode cX12_buildsTable 125 = .ok (.iload_n 3, 1) := by decide +kernel
theorem dX12_buildsTable_126 : decode cX12_buildsTable 126 = .ok (.imul, 1) := by decide +kernel
theorem dX12_buildsTable_127 : decode cX12_buildsTable 127 = .ok (.iload 11, 2) := by decide +kernel
theorem dX12_buildsTable_129 : decode cX12_buildsTable 129 = .ok (.iadd, 1) := by decide +kernel
theorem dX12_buildsTable_130 : decode cX12_buildsTable 130 = .ok (.iaload, 1) := by decide +kernel
theorem dX12_buildsTable_131 : decode cX12_buildsTable 131 = .ok (.iload 9, 2) := by decide +kernel
theorem dX12_buildsTable_133 : decode cX12_buildsTable 133 = .ok (.if_icmp .ne 41, 3) := by decide +kernel
theorem dX12_buildsTable_136 : decode cX12_buildsTable 136 = .ok (.aload_n 0, 1) := by decide +kernel
theorem dX12_buildsTable_137 : decode cX12_buildsTable 137 = .ok (.aload 4, 2) := by decide +kernel
theorem dX12_buildsTable_139 : decode cX12_buildsTable 139 = .ok (.iload 5, 2) := by decide +kernel
theorem dX12_buildsTable_141 : decode cX12_buildsTable 141 = .ok (.iload 11, 2) := by decide +kernel
theorem dX12_buildsTable_143 : decode cX12_buildsTable 143 = .ok (.iadd, 1) := by decide +kernel
theorem dX12_buildsTable_144 : decode cX12_buildsTable 144 = .ok (.iaload, 1) := by decide +kernel
theorem dX12_buildsTable_145 : decode cX12_buildsTable 145 = .ok (.iload 11, 2) := by decide +kernel
theorem dX12_buildsTable_147 : decode cX12_buildsTable 147 = .ok (.iconst 1, 1) := by decide +kernel
theorem dX12_buildsTable_148 : decode cX12_buildsTable 148 = .ok (.iadd, 1) := by decide +kernel
theorem dX12_buildsTable_149 : decode cX12_buildsTable 149 = .ok (.iload 6, 2) := by decide +kernel
theorem dX12_buildsTable_151 : decode cX12_buildsTable 151 = .ok (.if_icmp .ge 18, 3) := by decide +kernel
theorem dX12_buildsTable_154 : decode cX12_buildsTable 154 = .ok (.aload 4, 2) := by decide +kernel
theorem dX12_buildsTable_156 : decode cX12_buildsTable 156 = .ok (.iload 5, 2) := by decide +kernel
theorem dX12_buildsTable_158 : decode cX12_buildsTable 158 = .ok (.iload 11, 2) := by decide +kernel
theorem dX12_buildsTable_160 : decode cX12_buildsTable 160 = .ok (.iadd, 1) := by decide +kernel
theorem dX12_buildsTable_161 : decode cX12_buildsTable 161 = .ok (.iconst 1, 1) := by decide +kernel
theorem dX12_buildsTable_162 : decode cX12_buildsTable 162 = .ok (.iadd, 1) := by decide +kernel
theorem dX12_buildsTable_163 : decode cX12_buildsTable 163 = .ok (.iaload, 1) := by decide +kernel
theorem dX12_buildsTable_164 : decode cX12_buildsTable 164 = .ok (.iconst 1, 1) := by decide +kernel
theorem dX12_buildsTable_165 : decode cX12_buildsTable 165 = .ok (.isub, 1) := by decide +kernel
theorem dX12_buildsTable_166 : decode cX12_buildsTable 166 = .ok (.goto 5, 3) := by decide +kernel
theorem dX12_buildsTable_169 : decode cX12_buildsTable 169 = .ok (.ldc 200, 2) := by decide +kernel
theorem dX12_buildsTable_171 : decode cX12_buildsTable 171 = .ok (.invokevirtual 506, 3) := by decide +kernel
theorem dX12_buildsTable_174 : decode cX12_buildsTable 174 = .ok (.iinc 11 1, 3) := by decide +kernel
theorem dX12_buildsTable_177 : decode cX12_buildsTable 177 = .ok (.goto (-62), 3) := by decide +kernel
theorem dX12_buildsTable_180 : decode cX12_buildsTable 180 = .ok (.iinc 8 1, 3) := by decide +kernel
theorem dX12_buildsTable_183 : decode cX12_buildsTable 183 = .ok (.goto (-159), 3) := by decide +kernel
theorem dX12_buildsTable_186 : decode cX12_buildsTable 186 = .ok (.iinc 7 1, 3) := by decide +kernel
theorem dX12_buildsTable_189 : decode cX12_buildsTable 189 = .ok (.goto (-181), 3) := by decide +kernel
theorem dX12_buildsTable_192 : decode cX12_buildsTable 192 = .ok (.return_, 1) := by decide +kernel
theorem dX12_sure_0 : decode cX12_sure 0 = .ok (.aload_n 0, 1) := by decide +kernel
theorem dX12_sure_1 : decode cX12_sure 1 = .ok (.iconst 0, 1) := by decide +kernel
theorem dX12_sure_2 : decode cX12_sure 2 = .ok (.putfield 190, 3) := by decide +kernel
theorem dX12_sure_5 : decode cX12_sure 5 = .ok (.aload_n 0, 1) := by decide +kernel
theorem dX12_sure_6 : decode cX12_sure 6 = .ok (.iload_n 1, 1) := by decide +kernel
theorem dX12_sure_7 : decode cX12_sure 7 = .ok (.invokevirtual 675, 3) := by decide +kernel
theorem dX12_sure_10 : decode cX12_sure 10 = .ok (.istore_n 2, 1) := by decide +kernel
theorem dX12_sure_11 : decode cX12_sure 11 = .ok (.iload_n 2, 1) := by decide +kernel
theorem dX12_sure_12 : decode cX12_sure 12 = .ok (.ifCond .le 9, 3) := by decide +kernel
theorem dX12_sure_15 : decode cX12_sure 15 = .ok (.aload_n 0, 1) := by decide +kernel
theorem dX12_sure_16 : decode cX12_sure 16 = .ok (.iload_n 2, 1) := by decide +kernel
theorem dX12_sure_17 : decode cX12_sure 17 = .ok (.invokevirtual 426, 3) := by decide +kernel
theorem dX12_sure_20 : decode cX12_sure 20 = .ok (.ireturn, 1) := by decide +kernel
theorem dX12_sure_21 : decode cX12_sure 21 = .ok (.aload_n 0, 1) := by decide +kernel
theorem dX12_sure_22 : decode cX12_sure 22 = .ok (.iload_n 1, 1) := by decide +kernel
theorem dX12_sure_23 : decode cX12_sure 23 = .ok (.iconst 0, 1) := by decide +kernel
theorem dX12_sure_24 : decode cX12_sure 24 = .ok (.invokevirtual 521, 3) := by decide +kernel
theorem dX12_sure_27 : decode cX12_sure 27 = .ok (.pop, 1) := by decide +kernel
theorem dX12_sure_28 : decode cX12_sure 28 = .ok (.aload_n 0, 1) := by decide +kernel
theorem dX12_sure_29 : decode cX12_sure 29 = .ok (.getfield 133, 3) := by decide +kernel
theorem dX12_sure_32 : decode cX12_sure 32 = .ok (.iconst 0, 1) := by decide +kernel
theorem dX12_sure_33 : decode cX12_sure 33 = .ok (.iaload, 1) := by decide +kernel
theorem dX12_sure_34 : decode cX12_sure 34 = .ok (.istore_n 3, 1) := by decide +kernel
theorem dX12_sure_35 : decode cX12_sure 35 = .ok (.lconst 0, 1) := by decide +kernel
theorem dX12_sure_36 : decode cX12_sure 36 = .ok (.lstore 4, 2) := by decide +kernel
theorem dX12_sure_38 : decode cX12_sure 38 = .ok (.iconst 0, 1) := by decide +kernel
theorem dX12_sure_39 : decode cX12_sure 39 = .ok (.istore 6, 2) := by decide +kernel
theorem dX12_sure_41 : decode cX12_sure 41 = .ok (.iload 6, 2) := by decide +kernel
theorem dX12_sure_43 : decode cX12_sure 43 = .ok (.iload_n 3, 1) := by decide +kernel
theorem dX12_sure_44 : decode cX12_sure 44 = .ok (.if_icmp .ge 33, 3) := by decide +kernel
theorem dX12_sure_47 : decode cX12_sure 47 = .ok (.lload 4, 2) := by decide +kernel
theorem dX12_sure_49 : decode cX12_sure 49 = .ok (.aload_n 0, 1) := by decide +kernel
theorem dX12_sure_50 : decode cX12_sure 50 = .ok (.iload_n 1, 1) := by decide +kernel
theorem dX12_sure_51 : decode cX12_sure 51 = .ok (.iconst 0, 1) := by decide +kernel
theorem dX12_sure_52 : decode cX12_sure 52 = .ok (.iload 6, 2) := by decide +kernel
theorem dX12_sure_54 : decode cX12_sure 54 = .ok (.invokevirtual 542, 3) := by decide +kernel
theorem dX12_sure_57 : decode cX12_sure 57 = .ok (.ifCond .eq 10, 3) := by decide +kernel
theorem dX12_sure_60 : decode cX12_sure 60 = .ok (.lconst 1, 1) := by decide +kernel
theorem dX12_sure_61 : decode cX12_sure 61 = .ok (.iload 6, 2) := by decide +kernel
theorem dX12_sure_63 : decode cX12_sure 63 = .ok (.lshl, 1) := by decide +kernel
theorem dX12_sure_64 : decode cX12_sure 64 = .ok (.goto 4, 3) := by decide +kernel
theorem dX12_sure_67 : decode cX12_sure 67 = .ok (.lconst 0, 1) := by decide +kernel
theorem dX12_sure_68 : decode cX12_sure 68 = .ok (.lor, 1) := by decide +kernel
theorem dX12_sure_69 : decode cX12_sure 69 = .ok (.lstore 4, 2) := by decide +kernel
theorem dX12_sure_71 : decode cX12_sure 71 = .ok (.iinc 6 1, 3) := by decide +kernel
theorem dX12_sure_74 : decode cX12_sure 74 = .ok (.goto (-33), 3) := by decide +kernel
theorem dX12_sure_77 : decode cX12_sure 77 = .ok (.aload_n 0, 1) := by decide +kernel
theorem dX12_sure_78 : decode cX12_sure 78 = .ok (.iload_n 3, 1) := by decide +kernel
theorem dX12_sure_79 : decode cX12_sure 79 = .ok (.aload_n 0, 1) := by decide +kernel
theorem dX12_sure_80 : decode cX12_sure 80 = .ok (.getfield 136, 3) := by decide +kernel
theorem dX12_sure_83 : decode cX12_sure 83 = .ok (.sipush 128, 3) := by decide +kernel
theorem dX12_sure_86 : decode cX12_sure 86 = .ok (.aload_n 0, 1) := by decide +kernel
theorem dX12_sure_87 : decode cX12_sure 87 = .ok (.getfield 106, 3) := by decide +kernel
theorem dX12_sure_90 : decode cX12_sure 90 = .ok (.iload_n 1, 1) := by decide +kernel
theorem dX12_sure_91 : decode cX12_sure 91 = .ok (.sipush 128, 3) := by decide +kernel
theorem dX12_sure_94 : decode cX12_sure 94 = .ok (.imul, 1) := by decide +kernel
theorem dX12_sure_95 : decode cX12_sure 95 = .ok (.aload_n 0, 1) := by decide +kernel
theorem dX12_sure_96 : decode cX12_sure 96 = .ok (.getfield 103, 3) := by decide +kernel
theorem dX12_sure_99 : decode cX12_sure 99 = .ok (.iload_n 1, 1) := by decide +kernel
theorem dX12_sure_100 : decode cX12_sure 100 = .ok (.iaload, 1) := by decide +kernel
theorem dX12_sure_101 : decode cX12_sure 101 = .ok (.invokevirtual 678, 3) := by decide +kernel
theorem dX12_sure_104 : decode cX12_sure 104 = .ok (.aload_n 0, 1) := by decide +kernel
theorem dX12_sure_105 : decode cX12_sure 105 = .ok (.lload 4, 2) := by decide +kernel
theorem dX12_sure_107 : decode cX12_sure 107 = .ok (.putfield 493, 3) := by decide +kernel
theorem dX12_sure_110 : decode cX12_sure 110 = .ok (.aload_n 0, 1) := by decide +kernel
theorem dX12_sure_111 : decode cX12_sure 111 = .ok (.invokevirtual 682, 3) := by decide +kernel
theorem dX12_sure_114 : decode cX12_sure 114 = .ok (.ireturn, 1) := by decide +kernel
theorem dX12_makesClasses_0 : decode cX12_makesClasses 0 = .ok (.aload_n 0, 1) := by decide +kernel
theorem dX12_makesClasses_1 : decode cX12_makesClasses 1 = .ok (.iload_n 1, 1) := by decide +kernel
theorem dX12_makesClasses_2 : decode cX12_makesClasses 2 = .ok (.iconst 0, 1) := by decide +kernel
theorem dX12_makesClasses_3 : decode cX12_makesClasses 3 = .ok (.invokevirtual 568, 3) := by decide +kernel
theorem dX12_makesClasses_6 : decode cX12_makesClasses 6 = .ok (.aload_n 0, 1) := by decide +kernel
theorem dX12_makesClasses_7 : decode cX12_makesClasses 7 = .ok (.getfield 151, 3) := by decide +kernel
theorem dX12_makesClasses_10 : decode cX12_makesClasses 10 = .ok (.iconst 0, 1) := by decide +kernel
theorem dX12_makesClasses_11 : decode cX12_makesClasses 11 = .ok (.iaload, 1) := by decide +kernel
theorem dX12_makesClasses_12 : decode cX12_makesClasses 12 = .ok (.istore_n 3, 1) := by decide +kernel
theorem dX12_makesClasses_13 : decode cX12_makesClasses 13 = .ok (.lconst 0, 1) := by decide +kernel
theorem dX12_makesClasses_14 : decode cX12_makesClasses 14 = .ok (.lstore 4, 2) := by decide +kernel
theorem dX12_makesClasses_16 : decode cX12_makesClasses 16 = .ok (.iconst 0, 1) := by decide +kernel
theorem dX12_makesClasses_17 : decode cX12_makesClasses 17 = .ok (.istore 6, 2) := by decide +kernel
theorem dX12_makesClasses_19 : decode cX12_makesClasses 19 = .ok (.iload 6, 2) := by decide +kernel
theorem dX12_makesClasses_21 : decode cX12_makesClasses 21 = .ok (.iload_n 3, 1) := by decide +kernel
theorem dX12_makesClasses_22 : decode cX12_makesClasses 22 = .ok (.if_icmp .ge 77, 3) := by decide +kernel
theorem dX12_makesClasses_25 : decode cX12_makesClasses 25 = .ok (.lload 4, 2) := by decide +kernel
theorem dX12_makesClasses_27 : decode cX12_makesClasses 27 = .ok (.aload_n 0, 1) := by decide +kernel
theorem dX12_makesClasses_28 : decode cX12_makesClasses 28 = .ok (.iload_n 1, 1) := by decide +kernel
theorem dX12_makesClasses_29 : decode cX12_makesClasses 29 = .ok (.iconst 0, 1) := by decide +kernel
theorem dX12_makesClasses_30 : decode cX12_makesClasses 30 = .ok (.iload 6, 2) := by decide +kernel
theorem dX12_makesClasses_32 : decode cX12_makesClasses 32 = .ok (.invokevirtual 614, 3) := by decide +kernel
theorem dX12_makesClasses_35 : decode cX12_makesClasses 35 = .ok (.iload_n 2, 1) := by decide +kernel
theorem dX12_makesClasses_36 : decode cX12_makesClasses 36 = .ok (.if_icmp .eq 10, 3) := by decide +kernel
theorem dX12_makesClasses_39 : decode cX12_makesClasses 39 = .ok (.lconst 1, 1) := by decide +kernel
theorem dX12_makesClasses_40 : decode cX12_makesClasses 40 = .ok (.iload 6, 2) := by decide +kernel
theorem dX12_makesClasses_42 : decode cX12_makesClasses 42 = .ok (.lshl, 1) := by decide +kernel
theorem dX12_makesClasses_43 : decode cX12_makesClasses 43 = .ok (.goto 4, 3) := by decide +kernel
theorem dX12_makesClasses_46 : decode cX12_makesClasses 46 = .ok (.lconst 0, 1) := by decide +kernel
theorem dX12_makesClasses_47 : decode cX12_makesClasses 47 = .ok (.lor, 1) := by decide +kernel
theorem dX12_makesClasses_48 : decode cX12_makesClasses 48 = .ok (.lstore 4, 2) := by decide +kernel
theorem dX12_makesClasses_50 : decode cX12_makesClasses 50 = .ok (.iconst 0, 1) := by decide +kernel
theorem dX12_makesClasses_51 : decode cX12_makesClasses 51 = .ok (.istore 7, 2) := by decide +kernel
theorem dX12_makesClasses_53 : decode cX12_makesClasses 53 = .ok (.iload 7, 2) := by decide +kernel
theorem dX12_makesClasses_55 : decode cX12_makesClasses 55 = .ok (.aload_n 0, 1) := by decide +kernel
theorem dX12_makesClasses_56 : decode cX12_makesClasses 56 = .ok (.getfield 103, 3) := by decide +kernel
theorem dX12_makesClasses_59 : decode cX12_makesClasses 59 = .ok (.iload_n 1, 1) := by decide +kernel
theorem dX12_makesClasses_60 : decode cX12_makesClasses 60 = .ok (.iaload, 1) := by decide +kernel
theorem dX12_makesClasses_61 : decode cX12_makesClasses 61 = .ok (.if_icmp .ge 32, 3) := by decide +kernel
theorem dX12_makesClasses_64 : decode cX12_makesClasses 64 = .ok (.aload_n 0, 1) := by decide +kernel
theorem dX12_makesClasses_65 : decode cX12_makesClasses 65 = .ok (.getfield 187, 3) := by decide +kernel
theorem dX12_makesClasses_68 : decode cX12_makesClasses 68 = .ok (.iload 6, 2) := by decide +kernel
theorem dX12_makesClasses_70 : decode cX12_makesClasses 70 = .ok (.sipush 128, 3) := by decide +kernel
theorem dX12_makesClasses_73 : decode cX12_makesClasses 73 = .ok (.imul, 1) := by decide +kernel
theorem dX12_makesClasses_74 : decode cX12_makesClasses 74 = .ok (.iload 7, 2) := by decide +kernel
theorem dX12_makesClasses_76 : decode cX12_makesClasses 76 = .ok (.iadd, 1) := by decide +kernel
theorem dX12_makesClasses_77 : decode cX12_makesClasses 77 = .ok (.aload_n 0, 1) := by decide +kernel
theorem dX12_makesClasses_78 : decode cX12_makesClasses 78 = .ok (.iconst 0, 1) := by decide +kernel
theorem dX12_makesClasses_79 : decode cX12_makesClasses 79 = .ok (.iload 6, 2) := by decide +kernel
theorem dX12_makesClasses_81 : decode cX12_makesClasses 81 = .ok (.iload 7, 2) := by decide +kernel
theorem dX12_makesClasses_83 : decode cX12_makesClasses 83 = .ok (.invokevirtual 611, 3) := by decide +kernel
theorem dX12_makesClasses_86 : decode cX12_makesClasses 86 = .ok (.iastore, 1) := by decide +kernel
theorem dX12_makesClasses_87 : decode cX12_makesClasses 87 = .ok (.iinc 7 1, 3) := by decide +kernel
theorem dX12_makesClasses_90 : decode cX12_makesClasses 90 = .ok (.goto (-37), 3) := by decide +kernel
theorem dX12_makesClasses_93 : decode cX12_makesClasses 93 = .ok (.iinc 6 1, 3) := by decide +kernel
theorem dX12_makesClasses_96 : decode cX12_makesClasses 96 = .ok (.goto (-77), 3) := by decide +kernel
theorem dX12_makesClasses_99 : decode cX12_makesClasses 99 = .ok (.aload_n 0, 1) := by decide +kernel
theorem dX12_makesClasses_100 : decode cX12_makesClasses 100 = .ok (.iload_n 3, 1) := by decide +kernel
theorem dX12_makesClasses_101 : decode cX12_makesClasses 101 = .ok (.aload_n 0, 1) := by decide +kernel
theorem dX12_makesClasses_102 : decode cX12_makesClasses 102 = .ok (.getfield 187, 3) := by decide +kernel
theorem dX12_makesClasses_105 : decode cX12_makesClasses 105 = .ok (.sipush 128, 3) := by decide +kernel
theorem dX12_makesClasses_108 : decode cX12_makesClasses 108 = .ok (.aload_n 0, 1) := by decide +kernel
theorem dX12_makesClasses_109 : decode cX12_makesClasses 109 = .ok (.getfield 106, 3) := by decide +kernel
theorem dX12_makesClasses_112 : decode cX12_makesClasses 112 = .ok (.iload_n 1, 1) := by decide +kernel
theorem dX12_makesClasses_113 : decode cX12_makesClasses 113 = .ok (.sipush 128, 3) := by decide +kernel
theorem dX12_makesClasses_116 : decode cX12_makesClasses 116 = .ok (.imul, 1) := by decide +kernel
theorem dX12_makesClasses_117 : decode cX12_makesClasses 117 = .ok (.aload_n 0, 1) := by decide +kernel
theorem dX12_makesClasses_118 : decode cX12_makesClasses 118 = .ok (.getfield 103, 3) := by decide +kernel
theorem dX12_makesClasses_121 : decode cX12_makesClasses 121 = .ok (.iload_n 1, 1) := by decide +kernel
theorem dX12_makesClasses_122 : decode cX12_makesClasses 122 = .ok (.iaload, 1) := by decide +kernel
theorem dX12_makesClasses_123 : decode cX12_makesClasses 123 = .ok (.invokevirtual 678, 3) := by decide +kernel
theorem dX12_makesClasses_126 : decode cX12_makesClasses 126 = .ok (.aload_n 0, 1) := by decide +kernel
theorem dX12_makesClasses_127 : decode cX12_makesClasses 127 = .ok (.lload 4, 2) := by decide +kernel
theorem dX12_makesClasses_129 : decode cX12_makesClasses 129 = .ok (.putfield 493, 3) := by decide +kernel
theorem dX12_makesClasses_132 : decode cX12_makesClasses 132 = .ok (.aload_n 0, 1) := by decide +kernel
theorem dX12_makesClasses_133 : decode cX12_makesClasses 133 = .ok (.invokevirtual 682, 3) := by decide +kernel
theorem dX12_makesClasses_136 : decode cX12_makesClasses 136 = .ok (.ireturn, 1) := by decide +kernel
theorem dX12_least_0 : decode cX12_least 0 = .ok (.aload_n 0, 1) := by decide +kernel
theorem dX12_least_1 : decode cX12_least 1 = .ok (.iconst 0, 1) := by decide +kernel
theorem dX12_least_2 : decode cX12_least 2 = .ok (.putfield 190, 3) := by decide +kernel
theorem dX12_least_5 : decode cX12_least 5 = .ok (.aload_n 0, 1) := by decide +kernel
theorem dX12_least_6 : decode cX12_least 6 = .ok (.iload_n 1, 1) := by decide +kernel
theorem dX12_least_7 : decode cX12_least 7 = .ok (.invokevirtual 675, 3) := by decide +kernel
theorem dX12_least_10 : decode cX12_least 10 = .ok (.istore_n 2, 1) := by decide +kernel
theorem dX12_least_11 : decode cX12_least 11 = .ok (.iload_n 2, 1) := by decide +kernel
theorem dX12_least_12 : decode cX12_least 12 = .ok (.ifCond .le 11, 3) := by decide +kernel
theorem dX12_least_15 : decode cX12_least 15 = .ok (.aload_n 0, 1) := by decide +kernel
theorem dX12_least_16 : decode cX12_least 16 = .ok (.iload_n 2, 1) := by decide +kernel
theorem dX12_least_17 : decode cX12_least 17 = .ok (.invokevirtual 426, 3) := by decide +kernel
theorem dX12_least_20 : decode cX12_least 20 = .ok (.goto 9, 3) := by decide +kernel
theorem dX12_least_23 : decode cX12_least 23 = .ok (.aload_n 0, 1) := by decide +kernel
theorem dX12_least_24 : decode cX12_least 24 = .ok (.iload_n 1, 1) := by decide +kernel
theorem dX12_least_25 : decode cX12_least 25 = .ok (.iconst 0, 1) := by decide +kernel
theorem dX12_least_26 : decode cX12_least 26 = .ok (.invokevirtual 685, 3) := by decide +kernel
theorem dX12_least_29 : decode cX12_least 29 = .ok (.ireturn, 1) := by decide +kernel
theorem dX12_other_0 : decode cX12_other 0 = .ok (.aload_n 0, 1) := by decide +kernel
theorem dX12_other_1 : decode cX12_other 1 = .ok (.iconst 0, 1) := by decide +kernel
theorem dX12_other_2 : decode cX12_other 2 = .ok (.putfield 190, 3) := by decide +kernel
theorem dX12_other_5 : decode cX12_other 5 = .ok (.aload_n 0, 1) := by decide +kernel
theorem dX12_other_6 : decode cX12_other 6 = .ok (.iload_n 1, 1) := by decide +kernel
theorem dX12_other_7 : decode cX12_other 7 = .ok (.invokevirtual 675, 3) := by decide +kernel
theorem dX12_other_10 : decode cX12_other 10 = .ok (.istore_n 2, 1) := by decide +kernel
theorem dX12_other_11 : decode cX12_other 11 = .ok (.iload_n 2, 1) := by decide +kernel
theorem dX12_other_12 : decode cX12_other 12 = .ok (.ifCond .le 11, 3) := by decide +kernel
theorem dX12_other_15 : decode cX12_other 15 = .ok (.aload_n 0, 1) := by decide +kernel
theorem dX12_other_16 : decode cX12_other 16 = .ok (.iload_n 2, 1) := by decide +kernel
theorem dX12_other_17 : decode cX12_other 17 = .ok (.invokevirtual 426, 3) := by decide +kernel
theorem dX12_other_20 : decode cX12_other 20 = .ok (.goto 9, 3) := by decide +kernel
theorem dX12_other_23 : decode cX12_other 23 = .ok (.aload_n 0, 1) := by decide +kernel
theorem dX12_other_24 : decode cX12_other 24 = .ok (.iload_n 1, 1) := by decide +kernel
theorem dX12_other_25 : decode cX12_other 25 = .ok (.iconst 1, 1) := by decide +kernel
theorem dX12_other_26 : decode cX12_other 26 = .ok (.invokevirtual 685, 3) := by decide +kernel
theorem dX12_other_29 : decode cX12_other 29 = .ok (.ireturn, 1) := by decide +kernel
theorem dX12_join_0 : decode cX12_join 0 = .ok (.aload_n 0, 1) := by decide +kernel
theorem dX12_join_1 : decode cX12_join 1 = .ok (.iconst 0, 1) := by decide +kernel
theorem dX12_join_2 : decode cX12_join 2 = .ok (.putfield 190, 3) := by decide +kernel
theorem dX12_join_5 : decode cX12_join 5 = .ok (.aload_n 0, 1) := by decide +kernel
theorem dX12_join_6 : decode cX12_join 6 = .ok (.iload_n 1, 1) := by decide +kernel
theorem dX12_join_7 : decode cX12_join 7 = .ok (.iload_n 2, 1) := by decide +kernel
theorem dX12_join_8 : decode cX12_join 8 = .ok (.iload_n 3, 1) := by decide +kernel
theorem dX12_join_9 : decode cX12_join 9 = .ok (.invokevirtual 663, 3) := by decide +kernel
theorem dX12_join_12 : decode cX12_join 12 = .ok (.istore 4, 2) := by decide +kernel
theorem dX12_join_14 : decode cX12_join 14 = .ok (.iload 4, 2) := by decide +kernel
theorem dX12_join_16 : decode cX12_join 16 = .ok (.ifCond .ne 9, 3) := by decide +kernel
theorem dX12_join_19 : decode cX12_join 19 = .ok (.aload_n 0, 1) := by decide +kernel
theorem dX12_join_20 : decode cX12_join 20 = .ok (.invokevirtual 672, 3) := by decide +kernel
theorem dX12_join_23 : decode cX12_join 23 = .ok (.istore 4, 2) := by decide +kernel
theorem dX12_join_25 : decode cX12_join 25 = .ok (.iload 4, 2) := by decide +kernel
theorem dX12_join_27 : decode cX12_join 27 = .ok (.ifCond .le 10, 3) := by decide +kernel
theorem dX12_join_30 : decode cX12_join 30 = .ok (.aload_n 0, 1) := by decide +kernel
theorem dX12_join_31 : decode cX12_join 31 = .ok (.iload 4, 2) := by decide +kernel
theorem dX12_join_33 : decode cX12_join 33 = .ok (.invokevirtual 426, 3) := by decide +kernel
theorem dX12_join_36 : decode cX12_join 36 = .ok (.ireturn, 1) := by decide +kernel
theorem dX12_join_37 : decode cX12_join 37 = .ok (.aload_n 0, 1) := by decide +kernel
theorem dX12_join_38 : decode cX12_join 38 = .ok (.iload_n 1, 1) := by decide +kernel
theorem dX12_join_39 : decode cX12_join 39 = .ok (.iconst 0, 1) := by decide +kernel
theorem dX12_join_40 : decode cX12_join 40 = .ok (.invokevirtual 568, 3) := by decide +kernel
theorem dX12_join_43 : decode cX12_join 43 = .ok (.aload_n 0, 1) := by decide +kernel
theorem dX12_join_44 : decode cX12_join 44 = .ok (.iload_n 2, 1) := by decide +kernel
theorem dX12_join_45 : decode cX12_join 45 = .ok (.iconst 1, 1) := by decide +kernel
theorem dX12_join_46 : decode cX12_join 46 = .ok (.invokevirtual 568, 3) := by decide +kernel
theorem dX12_join_49 : decode cX12_join 49 = .ok (.aload_n 0, 1) := by decide +kernel
theorem dX12_join_50 : decode cX12_join 50 = .ok (.iload_n 1, 1) := by decide +kernel
theorem dX12_join_51 : decode cX12_join 51 = .ok (.iload_n 2, 1) := by decide +kernel
theorem dX12_join_52 : decode cX12_join 52 = .ok (.invokevirtual 653, 3) := by decide +kernel
theorem dX12_join_55 : decode cX12_join 55 = .ok (.aload_n 0, 1) := by decide +kernel
theorem dX12_join_56 : decode cX12_join 56 = .ok (.invokevirtual 656, 3) := by decide +kernel
theorem dX12_join_59 : decode cX12_join 59 = .ok (.aload_n 0, 1) := by decide +kernel
theorem dX12_join_60 : decode cX12_join 60 = .ok (.iconst 0, 1) := by decide +kernel
theorem dX12_join_61 : decode cX12_join 61 = .ok (.iconst 0, 1) := by decide +kernel
theorem dX12_join_62 : decode cX12_join 62 = .ok (.iconst (-1), 1) := by decide +kernel
theorem dX12_join_63 : decode cX12_join 63 = .ok (.iconst 0, 1) := by decide +kernel
theorem dX12_join_64 : decode cX12_join 64 = .ok (.invokevirtual 659, 3) := by decide +kernel
theorem dX12_join_67 : decode cX12_join 67 = .ok (.pop, 1) := by decide +kernel
theorem dX12_join_68 : decode cX12_join 68 = .ok (.lconst 0, 1) := by decide +kernel
theorem dX12_join_69 : decode cX12_join 69 = .ok (.lstore 5, 2) := by decide +kernel
theorem dX12_join_71 : decode cX12_join 71 = .ok (.iconst 0, 1) := by decide +kernel
theorem dX12_join_72 : decode cX12_join 72 = .ok (.istore 7, 2) := by decide +kernel
theorem dX12_join_74 : decode cX12_join 74 = .ok (.iload 7, 2) := by decide +kernel
theorem dX12_join_76 : decode cX12_join 76 = .ok (.aload_n 0, 1) := by decide +kernel
theorem dX12_join_77 : decode cX12_join 77 = .ok (.getfield 650, 3) := by decide +kernel
theorem dX12_join_80 : decode cX12_join 80 = .ok (.if_icmp .ge 147, 3) := by decide +kernel
theorem dX12_join_83 : decode cX12_join 83 = .ok (.aload_n 0, 1) := by decide +kernel
theorem dX12_join_84 : decode cX12_join 84 = .ok (.getfield 650, 3) := by decide +kernel
theorem dX12_join_87 : decode cX12_join 87 = .ok (.bipush 40, 2) := by decide +kernel
theorem dX12_join_89 : decode cX12_join 89 = .ok (.if_icmp .gt 138, 3) := by decide +kernel
theorem dX12_join_92 : decode cX12_join 92 = .ok (.aload_n 0, 1) := by decide +kernel
theorem dX12_join_93 : decode cX12_join 93 = .ok (.getfield 172, 3) := by decide +kernel
theorem dX12_join_96 : decode cX12_join 96 = .ok (.iload 7, 2) := by decide +kernel
theorem dX12_join_98 : decode cX12_join 98 = .ok (.iaload, 1) := by decide +kernel
theorem dX12_join_99 : decode cX12_join 99 = .ok (.bipush 40, 2) := by decide +kernel
theorem dX12_join_101 : decode cX12_join 101 = .ok (.idiv, 1) := by decide +kernel
theorem dX12_join_102 : decode cX12_join 102 = .ok (.istore 8, 2) := by decide +kernel
theorem dX12_join_104 : decode cX12_join 104 = .ok (.aload_n 0, 1) := by decide +kernel
theorem dX12_join_105 : decode cX12_join 105 = .ok (.getfield 172, 3) := by decide +kernel
theorem dX12_join_108 : decode cX12_join 108 = .ok (.iload 7, 2) := by decide +kernel
theorem dX12_join_110 : decode cX12_join 110 = .ok (.iaload, 1) := by decide +kernel
theorem dX12_join_111 : decode cX12_join 111 = .ok (.bipush 40, 2) := by decide +kernel
theorem dX12_join_113 : decode cX12_join 113 = .ok (.irem, 1) := by decide +kernel
theorem dX12_join_114 : decode cX12_join 114 = .ok (.istore 9, 2) := by decide +kernel
theorem dX12_join_116 : decode cX12_join 116 = .ok (.iload_n 3, 1) := by decide +kernel
theorem dX12_join_117 : decode cX12_join 117 = .ok (.aload_n 0, 1) := by decide +kernel
theorem dX12_join_118 : decode cX12_join 118 = .ok (.iload_n 1, 1) := by decide +kernel
theorem dX12_join_119 : decode cX12_join 119 = .ok (.iconst 0, 1) := by decide +kernel
theorem dX12_join_120 : decode cX12_join 120 = .ok (.iload 8, 2) := by decide +kernel
theorem dX12_join_122 : decode cX12_join 122 = .ok (.invokevirtual 614, 3) := by decide +kernel
theorem dX12_join_125 : decode cX12_join 125 = .ok (.aload_n 0, 1) := by decide +kernel
theorem dX12_join_126 : decode cX12_join 126 = .ok (.iload_n 2, 1) := by decide +kernel
theorem dX12_join_127 : decode cX12_join 127 = .ok (.iconst 1, 1) := by decide +kernel
theorem dX12_join_128 : decode cX12_join 128 = .ok (.iload 9, 2) := by decide +kernel
theorem dX12_join_130 : decode cX12_join 130 = .ok (.invokevirtual 614, 3) := by decide +kernel
theorem dX12_join_133 : decode cX12_join 133 = .ok (.invokestatic 466, 3) := by decide +kernel
theorem dX12_join_136 : decode cX12_join 136 = .ok (.ifCond .eq 12, 3) := by decide +kernel
theorem dX12_join_139 : decode cX12_join 139 = .ok (.lload 5, 2) := by decide +kernel
theorem dX12_join_141 : decode cX12_join 141 = .ok (.lconst 1, 1) := by decide +kernel
theorem dX12_join_142 : decode cX12_join 142 = .ok (.iload 7, 2) := by decide +kernel
theorem dX12_join_144 : decode cX12_join 144 = .ok (.lshl, 1) := by decide +kernel
theorem dX12_join_145 : decode cX12_join 145 = .ok (.lor, 1) := by decide +kernel
theorem dX12_join_146 : decode cX12_join 146 = .ok (.lstore 5, 2) := by decide +kernel
theorem dX12_join_148 : decode cX12_join 148 = .ok (.iconst 0, 1) := by decide +kernel
theorem dX12_join_149 : decode cX12_join 149 = .ok (.istore 10, 2) := by decide +kernel
theorem dX12_join_151 : decode cX12_join 151 = .ok (.iload 10, 2) := by decide +kernel
theorem dX12_join_153 : decode cX12_join 153 = .ok (.aload_n 0, 1) := by decide +kernel
theorem dX12_join_154 : decode cX12_join 154 = .ok (.getfield 647, 3) := by decide +kernel
theorem dX12_join_157 : decode cX12_join 157 = .ok (.if_icmp .ge 64, 3) := by decide +kernel
theorem dX12_join_160 : decode cX12_join 160 = .ok (.aload_n 0, 1) := by decide +kernel
theorem dX12_join_161 : decode cX12_join 161 = .ok (.getfield 184, 3) := by decide +kernel
theorem dX12_join_164 : decode cX12_join 164 = .ok (.iload 7, 2) := by decide +kernel
theorem dX12_join_166 : decode cX12_join 166 = .ok (.sipush 256, 3) := by decide +kernel
theorem dX12_join_169 : decode cX12_join 169 = .ok (.imul, 1) := by decide +kernel
theorem dX12_join_170 : decode cX12_join 170 = .ok (.iload 10, 2) := by decide +kernel
theorem dX12_join_172 : decode cX12_join 172 = .ok (.iadd, 1) := by decide +kernel
theorem dX12_join_173 : decode cX12_join 173 = .ok (.aload_n 0, 1) := by decide +kernel
theorem dX12_join_174 : decode cX12_join 174 = .ok (.aload_n 0, 1) := by decide +kernel
theorem dX12_join_175 : decode cX12_join 175 = .ok (.iconst 0, 1) := by decide +kernel
theorem dX12_join_176 : decode cX12_join 176 = .ok (.iload 8, 2) := by decide +kernel
theorem dX12_join_178 : decode cX12_join 178 = .ok (.aload_n 0, 1) := by decide +kernel
theorem dX12_join_179 : decode cX12_join 179 = .ok (.getfield 166, 3) := by decide +kernel
theorem dX12_join_182 : decode cX12_join 182 = .ok (.iload 10, 2) := by decide +kernel
theorem dX12_join_184 : decode cX12_join 184 = .ok (.iaload, 1) := by decide +kernel
theorem dX12_join_185 : decode cX12_join 185 = .ok (.invokevirtual 611, 3) := by decide +kernel
theorem dX12_join_188 : decode cX12_join 188 = .ok (.aload_n 0, 1) := by decide +kernel
theorem dX12_join_189 : decode cX12_join 189 = .ok (.iconst 1, 1) := by decide +kernel
theorem dX12_join_190 : decode cX12_join 190 = .ok (.iload 9, 2) := by decide +kernel
theorem dX12_join_192 : decode cX12_join 192 = .ok (.aload_n 0, 1) := by decide +kernel
theorem dX12_join_193 : decode cX12_join 193 = .ok (.getfield 169, 3) := by decide +kernel
theorem dX12_join_196 : decode cX12_join 196 = .ok (.iload 10, 2) := by decide +kernel
theorem dX12_join_198 : decode cX12_join 198 = .ok (.iaload, 1) := by decide +kernel
theorem dX12_join_199 : decode cX12_join 199 = .ok (.invokevirtual 611, 3) := by decide +kernel
theorem dX12_join_202 : decode cX12_join 202 = .ok (.iload 7, 2) := by decide +kernel
theorem dX12_join_204 : decode cX12_join 204 = .ok (.aload_n 0, 1) := by decide +kernel
theorem dX12_join_205 : decode cX12_join 205 = .ok (.getfield 163, 3) := by decide +kernel
theorem dX12_join_208 : decode cX12_join 208 = .ok (.iload 10, 2) := by decide +kernel
theorem dX12_join_210 : decode cX12_join 210 = .ok (.iaload, 1) := by decide +kernel
theorem dX12_join_211 : decode cX12_join 211 = .ok (.invokevirtual 659, 3) := by decide +kernel
theorem dX12_join_214 : decode cX12_join 214 = .ok (.iastore, 1) := by decide +kernel
theorem dX12_join_215 : decode cX12_join 215 = .ok (.iinc 10 1, 3) := by decide +kernel
theorem dX12_join_218 : decode cX12_join 218 = .ok (.goto (-67), 3) := by decide +kernel
theorem dX12_join_221 : decode cX12_join 221 = .ok (.iinc 7 1, 3) := by decide +kernel
theorem dX12_join_224 : decode cX12_join 224 = .ok (.goto (-150), 3) := by decide +kernel
theorem dX12_join_227 : decode cX12_join 227 = .ok (.aload_n 0, 1) := by decide +kernel
theorem dX12_join_228 : decode cX12_join 228 = .ok (.getfield 650, 3) := by decide +kernel
theorem dX12_join_231 : decode cX12_join 231 = .ok (.bipush 40, 2) := by decide +kernel
theorem dX12_join_233 : decode cX12_join 233 = .ok (.if_icmp .le 9, 3) := by decide +kernel
theorem dX12_join_236 : decode cX12_join 236 = .ok (.aload_n 0, 1) := by decide +kernel
theorem dX12_join_237 : decode cX12_join 237 = .ok (.iconst 3, 1) := by decide +kernel
theorem dX12_join_238 : decode cX12_join 238 = .ok (.invokevirtual 426, 3) := by decide +kernel
theorem dX12_join_241 : decode cX12_join 241 = .ok (.ireturn, 1) := by decide +kernel
theorem dX12_join_242 : decode cX12_join 242 = .ok (.aload_n 0, 1) := by decide +kernel
theorem dX12_join_243 : decode cX12_join 243 = .ok (.aload_n 0, 1) := by decide +kernel
theorem dX12_join_244 : decode cX12_join 244 = .ok (.getfield 650, 3) := by decide +kernel
theorem dX12_join_247 : decode cX12_join 247 = .ok (.aload_n 0, 1) := by decide +kernel
theorem dX12_join_248 : decode cX12_join 248 = .ok (.getfield 184, 3) := by decide +kernel
theorem dX12_join_251 : decode cX12_join 251 = .ok (.sipush 256, 3) := by decide +kernel
theorem dX12_join_254 : decode cX12_join 254 = .ok (.aload_n 0, 1) := by decide +kernel
theorem dX12_join_255 : decode cX12_join 255 = .ok (.getfield 163, 3) := by decide +kernel
theorem dX12_join_258 : decode cX12_join 258 = .ok (.iconst 0, 1) := by decide +kernel
theorem dX12_join_259 : decode cX12_join 259 = .ok (.aload_n 0, 1) := by decide +kernel
theorem dX12_join_260 : decode cX12_join 260 = .ok (.getfield 647, 3) := by decide +kernel
theorem dX12_join_263 : decode cX12_join 263 = .ok (.invokevirtual 678, 3) := by decide +kernel
theorem dX12_join_266 : decode cX12_join 266 = .ok (.aload_n 0, 1) := by decide +kernel
theorem dX12_join_267 : decode cX12_join 267 = .ok (.lload 5, 2) := by decide +kernel
theorem dX12_join_269 : decode cX12_join 269 = .ok (.putfield 493, 3) := by decide +kernel
theorem dX12_join_272 : decode cX12_join 272 = .ok (.aload_n 0, 1) := by decide +kernel
theorem dX12_join_273 : decode cX12_join 273 = .ok (.invokevirtual 682, 3) := by decide +kernel
theorem dX12_join_276 : decode cX12_join 276 = .ok (.ireturn, 1) := by decide +kernel
theorem dX12_buildsEdges_0 : decode cX12_buildsEdges 0 = .ok (.iload_n 1, 1) := by decide +kernel
theorem dX12_buildsEdges_1 : decode cX12_buildsEdges 1 = .ok (.sipush 160, 3) := by decide +kernel
theorem dX12_buildsEdges_4 : decode cX12_buildsEdges 4 = .ok (.imul, 1) := by decide +kernel
theorem dX12_buildsEdges_5 : decode cX12_buildsEdges 5 = .ok (.istore 4, 2) := by decide +kernel
theorem dX12_buildsEdges_7 : decode cX12_buildsEdges 7 = .ok (.iload 4, 2) := by decide +kernel
theorem dX12_buildsEdges_9 : decode cX12_buildsEdges 9 = .ok (.iload_n 1, 1) := by decide +kernel
theorem dX12_buildsEdges_10 : decode cX12_buildsEdges 10 = .ok (.sipush 160, 3) := by decide +kernel
theorem dX12_buildsEdges_13 : decode cX12_buildsEdges 13 = .ok (.imul, 1) := by decide +kernel
theorem dX12_buildsEdges_14 : decode cX12_buildsEdges 14 = .ok (.aload_n 0, 1) := by decide +kernel
theorem dX12_buildsEdges_15 : decode cX12_buildsEdges 15 = .ok (.getfield 97, 3) := by decide +kernel
theorem dX12_buildsEdges_18 : decode cX12_buildsEdges 18 = .ok (.iload_n 1, 1) := by decide +kernel
theorem dX12_buildsEdges_19 : decode cX12_buildsEdges 19 = .ok (.iaload, 1) := by decide +kernel
theorem dX12_buildsEdges_20 : decode cX12_buildsEdges 20 = .ok (.iadd, 1) := by decide +kernel
theorem dX12_buildsEdges_21 : decode cX12_buildsEdges 21 = .ok (.if_icmp .ge 76, 3) := by decide +kernel
theorem dX12_buildsEdges_24 : decode cX12_buildsEdges 24 = .ok (.aload_n 0, 1) := by decide +kernel
theorem dX12_buildsEdges_25 : decode cX12_buildsEdges 25 = .ok (.iload_n 3, 1) := by decide +kernel
theorem dX12_buildsEdges_26 : decode cX12_buildsEdges 26 = .ok (.ifCond .eq 13, 3) := by decide +kernel
theorem dX12_buildsEdges_29 : decode cX12_buildsEdges 29 = .ok (.aload_n 0, 1) := by decide +kernel
theorem dX12_buildsEdges_30 : decode cX12_buildsEdges 30 = .ok (.getfield 112, 3) := by decide +kernel
theorem dX12_buildsEdges_33 : decode cX12_buildsEdges 33 = .ok (.iload 4, 2) := by decide +kernel
theorem dX12_buildsEdges_35 : decode cX12_buildsEdges 35 = .ok (.iaload, 1) := by decide +kernel
theorem dX12_buildsEdges_36 : decode cX12_buildsEdges 36 = .ok (.goto 10, 3) := by decide +kernel
theorem dX12_buildsEdges_39 : decode cX12_buildsEdges 39 = .ok (.aload_n 0, 1) := by decide +kernel
theorem dX12_buildsEdges_40 : decode cX12_buildsEdges 40 = .ok (.getfield 109, 3) := by decide +kernel
theorem dX12_buildsEdges_43 : decode cX12_buildsEdges 43 = .ok (.iload 4, 2) := by decide +kernel
theorem dX12_buildsEdges_45 : decode cX12_buildsEdges 45 = .ok (.iaload, 1) := by decide +kernel
theorem dX12_buildsEdges_46 : decode cX12_buildsEdges 46 = .ok (.iload_n 2, 1) := by decide +kernel
theorem dX12_buildsEdges_47 : decode cX12_buildsEdges 47 = .ok (.iadd, 1) := by decide +kernel
theorem dX12_buildsEdges_48 : decode cX12_buildsEdges 48 = .ok (.iload_n 3, 1) := by decide +kernel
theorem dX12_buildsEdges_49 : decode cX12_buildsEdges 49 = .ok (.ifCond .eq 13, 3) := by decide +kernel
theorem dX12_buildsEdges_52 : decode cX12_buildsEdges 52 = .ok (.aload_n 0, 1) := by decide +kernel
theorem dX12_buildsEdges_53 : decode cX12_buildsEdges 53 = .ok (.getfield 109, 3) := by decide +kernel
theorem dX12_buildsEdges_56 : decode cX12_buildsEdges 56 = .ok (.iload 4, 2) := by decide +kernel
theorem dX12_buildsEdges_58 : decode cX12_buildsEdges 58 = .ok (.iaload, 1) := by decide +kernel
theorem dX12_buildsEdges_59 : decode cX12_buildsEdges 59 = .ok (.goto 10, 3) := by decide +kernel
theorem dX12_buildsEdges_62 : decode cX12_buildsEdges 62 = .ok (.aload_n 0, 1) := by decide +kernel
theorem dX12_buildsEdges_63 : decode cX12_buildsEdges 63 = .ok (.getfield 112, 3) := by decide +kernel
theorem dX12_buildsEdges_66 : decode cX12_buildsEdges 66 = .ok (.iload 4, 2) := by decide +kernel
theorem dX12_buildsEdges_68 : decode cX12_buildsEdges 68 = .ok (.iaload, 1) := by decide +kernel
theorem dX12_buildsEdges_69 : decode cX12_buildsEdges 69 = .ok (.iload_n 2, 1) := by decide +kernel
theorem dX12_buildsEdges_70 : decode cX12_buildsEdges 70 = .ok (.iadd, 1) := by decide +kernel
theorem dX12_buildsEdges_71 : decode cX12_buildsEdges 71 = .ok (.invokevirtual 503, 3) := by decide +kernel
theorem dX12_buildsEdges_74 : decode cX12_buildsEdges 74 = .ok (.ifCond .ne 4, 3) := by decide +kernel
theorem dX12_buildsEdges_77 : decode cX12_buildsEdges 77 = .ok (.return_, 1) := by decide +kernel
theorem dX12_buildsEdges_78 : decode cX12_buildsEdges 78 = .ok (.aload_n 0, 1) := by decide +kernel
theorem dX12_buildsEdges_79 : decode cX12_buildsEdges 79 = .ok (.iload_n 1, 1) := by decide +kernel
theorem dX12_buildsEdges_80 : decode cX12_buildsEdges 80 = .ok (.iload 4, 2) := by decide +kernel
theorem dX12_buildsEdges_82 : decode cX12_buildsEdges 82 = .ok (.iload_n 1, 1) := by decide +kernel
theorem dX12_buildsEdges_83 : decode cX12_buildsEdges 83 = .ok (.sipush 160, 3) := by decide +kernel
theorem dX12_buildsEdges_86 : decode cX12_buildsEdges 86 = .ok (.imul, 1) := by decide +kernel
theorem dX12_buildsEdges_87 : decode cX12_buildsEdges 87 = .ok (.isub, 1) := by decide +kernel
theorem dX12_buildsEdges_88 : decode cX12_buildsEdges 88 = .ok (.invokevirtual 689, 3) := by decide +kernel
theorem dX12_buildsEdges_91 : decode cX12_buildsEdges 91 = .ok (.iinc 4 1, 3) := by decide +kernel
theorem dX12_buildsEdges_94 : decode cX12_buildsEdges 94 = .ok (.goto (-87), 3) := by decide +kernel
theorem dX12_buildsEdges_97 : decode cX12_buildsEdges 97 = .ok (.return_, 1) := by decide +kernel
theorem dX12_buildsLetters_0 : decode cX12_buildsLetters 0 = .ok (.iconst 0, 1) := by decide +kernel
theorem dX12_buildsLetters_1 : decode cX12_buildsLetters 1 = .ok (.istore_n 3, 1) := by decide +kernel
theorem dX12_buildsLetters_2 : decode cX12_buildsLetters 2 = .ok (.iload_n 3, 1) := by decide +kernel
theorem dX12_buildsLetters_3 : decode cX12_buildsLetters 3 = .ok (.aload_n 0, 1) := by decide +kernel
theorem dX12_buildsLetters_4 : decode cX12_buildsLetters 4 = .ok (.getfield 103, 3) := by decide +kernel
theorem dX12_buildsLetters_7 : decode cX12_buildsLetters 7 = .ok (.iload_n 1, 1) := by decide +kernel
theorem dX12_buildsLetters_8 : decode cX12_buildsLetters 8 = .ok (.iaload, 1) := by decide +kernel
theorem dX12_buildsLetters_9 : decode cX12_buildsLetters 9 = .ok (.if_icmp .ge 43, 3) := by decide +kernel
theorem dX12_buildsLetters_12 : decode cX12_buildsLetters 12 = .ok (.aload_n 0, 1) := by decide +kernel
theorem dX12_buildsLetters_13 : decode cX12_buildsLetters 13 = .ok (.iload_n 1, 1) := by decide +kernel
theorem dX12_buildsLetters_14 : decode cX12_buildsLetters 14 = .ok (.iload_n 2, 1) := by decide +kernel
theorem dX12_buildsLetters_15 : decode cX12_buildsLetters 15 = .ok (.iload_n 3, 1) := by decide +kernel
theorem dX12_buildsLetters_16 : decode cX12_buildsLetters 16 = .ok (.invokevirtual 527, 3) := by decide +kernel
theorem dX12_buildsLetters_19 : decode cX12_buildsLetters 19 = .ok (.ifCond .eq 27, 3) := by decide +kernel
theorem dX12_buildsLetters_22 : decode cX12_buildsLetters 22 = .ok (.aload_n 0, 1) := by decide +kernel
theorem dX12_buildsLetters_23 : decode cX12_buildsLetters 23 = .ok (.aload_n 0, 1) := by decide +kernel
theorem dX12_buildsLetters_24 : decode cX12_buildsLetters 24 = .ok (.getfield 106, 3) := by decide +kernel
theorem dX12_buildsLetters_27 : decode cX12_buildsLetters 27 = .ok (.iload_n 1, 1) := by decide +kernel
theorem dX12_buildsLetters_28 : decode cX12_buildsLetters 28 = .ok (.sipush 128, 3) := by decide +kernel
theorem dX12_buildsLetters_31 : decode cX12_buildsLetters 31 = .ok (.imul, 1) := by decide +kernel
theorem dX12_buildsLetters_32 : decode cX12_buildsLetters 32 = .ok (.iload_n 3, 1) := by decide +kernel
theorem dX12_buildsLetters_33 : decode cX12_buildsLetters 33 = .ok (.iadd, 1) := by decide +kernel
theorem dX12_buildsLetters_34 : decode cX12_buildsLetters 34 = .ok (.iaload, 1) := by decide +kernel
theorem dX12_buildsLetters_35 : decode cX12_buildsLetters 35 = .ok (.aload_n 0, 1) := by decide +kernel
theorem dX12_buildsLetters_36 : decode cX12_buildsLetters 36 = .ok (.iload_n 1, 1) := by decide +kernel
theorem dX12_buildsLetters_37 : decode cX12_buildsLetters 37 = .ok (.iload_n 3, 1) := by decide +kernel
theorem dX12_buildsLetters_38 : decode cX12_buildsLetters 38 = .ok (.invokevirtual 571, 3) := by decide +kernel
theorem dX12_buildsLetters_41 : decode cX12_buildsLetters 41 = .ok (.iconst 1, 1) := by decide +kernel
theorem dX12_buildsLetters_42 : decode cX12_buildsLetters 42 = .ok (.isub, 1) := by decide +kernel
theorem dX12_buildsLetters_43 : decode cX12_buildsLetters 43 = .ok (.invokevirtual 506, 3) := by decide +kernel
theorem dX12_buildsLetters_46 : decode cX12_buildsLetters 46 = .ok (.iinc 3 1, 3) := by decide +kernel
theorem dX12_buildsLetters_49 : decode cX12_buildsLetters 49 = .ok (.goto (-47), 3) := by decide +kernel
theorem dX12_buildsLetters_52 : decode cX12_buildsLetters 52 = .ok (.return_, 1) := by decide +kernel
theorem dX12_buildsFrees_0 : decode cX12_buildsFrees 0 = .ok (.iload_n 1, 1) := by decide +kernel
theorem dX12_buildsFrees_1 : decode cX12_buildsFrees 1 = .ok (.bipush 64, 2) := by decide +kernel
theorem dX12_buildsFrees_3 : decode cX12_buildsFrees 3 = .ok (.imul, 1) := by decide +kernel
theorem dX12_buildsFrees_4 : decode cX12_buildsFrees 4 = .ok (.istore 4, 2) := by decide +kernel
theorem dX12_buildsFrees_6 : decode cX12_buildsFrees 6 = .ok (.iload 4, 2) := by decide +kernel
theorem dX12_buildsFrees_8 : decode cX12_buildsFrees 8 = .ok (.iload_n 1, 1) := by decide +kernel
theorem dX12_buildsFrees_9 : decode cX12_buildsFrees 9 = .ok (.bipush 64, 2) := by decide +kernel
theorem dX12_buildsFrees_11 : decode cX12_buildsFrees 11 = .ok (.imul, 1) := by decide +kernel
theorem dX12_buildsFrees_12 : decode cX12_buildsFrees 12 = .ok (.aload_n 0, 1) := by decide +kernel
theorem dX12_buildsFrees_13 : decode cX12_buildsFrees 13 = .ok (.getfield 100, 3) := by decide +kernel
theorem dX12_buildsFrees_16 : decode cX12_buildsFrees 16 = .ok (.iload_n 1, 1) := by decide +kernel
theorem dX12_buildsFrees_17 : decode cX12_buildsFrees 17 = .ok (.iaload, 1) := by decide +kernel
theorem dX12_buildsFrees_18 : decode cX12_buildsFrees 18 = .ok (.iadd, 1) := by decide +kernel
theorem dX12_buildsFrees_19 : decode cX12_buildsFrees 19 = .ok (.if_icmp .ge 59, 3) := by decide +kernel
theorem dX12_buildsFrees_22 : decode cX12_buildsFrees 22 = .ok (.aload_n 0, 1) := by decide +kernel
theorem dX12_buildsFrees_23 : decode cX12_buildsFrees 23 = .ok (.iload_n 3, 1) := by decide +kernel
theorem dX12_buildsFrees_24 : decode cX12_buildsFrees 24 = .ok (.ifCond .eq 13, 3) := by decide +kernel
theorem dX12_buildsFrees_27 : decode cX12_buildsFrees 27 = .ok (.aload_n 0, 1) := by decide +kernel
theorem dX12_buildsFrees_28 : decode cX12_buildsFrees 28 = .ok (.getfield 118, 3) := by decide +kernel
theorem dX12_buildsFrees_31 : decode cX12_buildsFrees 31 = .ok (.iload 4, 2) := by decide +kernel
theorem dX12_buildsFrees_33 : decode cX12_buildsFrees 33 = .ok (.iaload, 1) := by decide +kernel
theorem dX12_buildsFrees_34 : decode cX12_buildsFrees 34 = .ok (.goto 10, 3) := by decide +kernel
theorem dX12_buildsFrees_37 : decode cX12_buildsFrees 37 = .ok (.aload_n 0, 1) := by decide +kernel
theorem dX12_buildsFrees_38 : decode cX12_buildsFrees 38 = .ok (.getfield 115, 3) := by decide +kernel
theorem dX12_buildsFrees_41 : decode cX12_buildsFrees 41 = .ok (.iload 4, 2) := by decide +kernel
theorem dX12_buildsFrees_43 : decode cX12_buildsFrees 43 = .ok (.iaload, 1) := by decide +kernel
theorem dX12_buildsFrees_44 : decode cX12_buildsFrees 44 = .ok (.iload_n 2, 1) := by decide +kernel
theorem dX12_buildsFrees_45 : decode cX12_buildsFrees 45 = .ok (.iadd, 1) := by decide +kernel
theorem dX12_buildsFrees_46 : decode cX12_buildsFrees 46 = .ok (.iload_n 3, 1) := by decide +kernel
theorem dX12_buildsFrees_47 : decode cX12_buildsFrees 47 = .ok (.ifCond .eq 13, 3) := by decide +kernel
theorem dX12_buildsFrees_50 : decode cX12_buildsFrees 50 = .ok (.aload_n 0, 1) := by decide +kernel
theorem dX12_buildsFrees_51 : decode cX12_buildsFrees 51 = .ok (.getfield 115, 3) := by decide +kernel
theorem dX12_buildsFrees_54 : decode cX12_buildsFrees 54 = .ok (.iload 4, 2) := by decide +kernel
theorem dX12_buildsFrees_56 : decode cX12_buildsFrees 56 = .ok (.iaload, 1) := by decide +kernel
theorem dX12_buildsFrees_57 : decode cX12_buildsFrees 57 = .ok (.goto 10, 3) := by decide +kernel
theorem dX12_buildsFrees_60 : decode cX12_buildsFrees 60 = .ok (.aload_n 0, 1) := by decide +kernel
theorem dX12_buildsFrees_61 : decode cX12_buildsFrees 61 = .ok (.getfield 118, 3) := by decide +kernel
theorem dX12_buildsFrees_64 : decode cX12_buildsFrees 64 = .ok (.iload 4, 2) := by decide +kernel
theorem dX12_buildsFrees_66 : decode cX12_buildsFrees 66 = .ok (.iaload, 1) := by decide +kernel
theorem dX12_buildsFrees_67 : decode cX12_buildsFrees 67 = .ok (.iload_n 2, 1) := by decide +kernel
theorem dX12_buildsFrees_68 : decode cX12_buildsFrees 68 = .ok (.iadd, 1) := by decide +kernel
theorem dX12_buildsFrees_69 : decode cX12_buildsFrees 69 = .ok (.invokevirtual 509, 3) := by decide +kernel
theorem dX12_buildsFrees_72 : decode cX12_buildsFrees 72 = .ok (.iinc 4 1, 3) := by decide +kernel
theorem dX12_buildsFrees_75 : decode cX12_buildsFrees 75 = .ok (.goto (-69), 3) := by decide +kernel
theorem dX12_buildsFrees_78 : decode cX12_buildsFrees 78 = .ok (.return_, 1) := by decide +kernel
theorem dX12_behind_0 : decode cX12_behind 0 = .ok (.aload_n 0, 1) := by decide +kernel
theorem dX12_behind_1 : decode cX12_behind 1 = .ok (.iconst 0, 1) := by decide +kernel
theorem dX12_behind_2 : decode cX12_behind 2 = .ok (.putfield 190, 3) := by decide +kernel
theorem dX12_behind_5 : decode cX12_behind 5 = .ok (.aload_n 0, 1) := by decide +kernel
theorem dX12_behind_6 : decode cX12_behind 6 = .ok (.iload_n 1, 1) := by decide +kernel
theorem dX12_behind_7 : decode cX12_behind 7 = .ok (.iload_n 2, 1) := by decide +kernel
theorem dX12_behind_8 : decode cX12_behind 8 = .ok (.iconst 0, 1) := by decide +kernel
theorem dX12_behind_9 : decode cX12_behind 9 = .ok (.invokevirtual 663, 3) := by decide +kernel
theorem dX12_behind_12 : decode cX12_behind 12 = .ok (.istore_n 3, 1) := by decide +kernel
theorem dX12_behind_13 : decode cX12_behind 13 = .ok (.iload_n 3, 1) := by decide +kernel
theorem dX12_behind_14 : decode cX12_behind 14 = .ok (.ifCond .ne 8, 3) := by decide +kernel
theorem dX12_behind_17 : decode cX12_behind 17 = .ok (.aload_n 0, 1) := by decide +kernel
theorem dX12_behind_18 : decode cX12_behind 18 = .ok (.invokevirtual 672, 3) := by decide +kernel
theorem dX12_behind_21 : decode cX12_behind 21 = .ok (.istore_n 3, 1) := by decide +kernel
theorem dX12_behind_22 : decode cX12_behind 22 = .ok (.iload_n 3, 1) := by decide +kernel
theorem dX12_behind_23 : decode cX12_behind 23 = .ok (.ifCond .le 9, 3) := by decide +kernel
theorem dX12_behind_26 : decode cX12_behind 26 = .ok (.aload_n 0, 1) := by decide +kernel
theorem dX12_behind_27 : decode cX12_behind 27 = .ok (.iload_n 3, 1) := by decide +kernel
theorem dX12_behind_28 : decode cX12_behind 28 = .ok (.invokevirtual 426, 3) := by decide +kernel
theorem dX12_behind_31 : decode cX12_behind 31 = .ok (.ireturn, 1) := by decide +kernel
theorem dX12_behind_32 : decode cX12_behind 32 = .ok (.aload_n 0, 1) := by decide +kernel
theorem dX12_behind_33 : decode cX12_behind 33 = .ok (.getfield 94, 3) := by decide +kernel
theorem dX12_behind_36 : decode cX12_behind 36 = .ok (.iload_n 1, 1) := by decide +kernel
theorem dX12_behind_37 : decode cX12_behind 37 = .ok (.iaload, 1) := by decide +kernel
theorem dX12_behind_38 : decode cX12_behind 38 = .ok (.istore 4, 2) := by decide +kernel
theorem dX12_behind_40 : decode cX12_behind 40 = .ok (.aload_n 0, 1) := by decide +kernel
theorem dX12_behind_41 : decode cX12_behind 41 = .ok (.iload 4, 2) := by decide +kernel
theorem dX12_behind_43 : decode cX12_behind 43 = .ok (.aload_n 0, 1) := by decide +kernel
theorem dX12_behind_44 : decode cX12_behind 44 = .ok (.getfield 94, 3) := by decide +kernel
theorem dX12_behind_47 : decode cX12_behind 47 = .ok (.iload_n 2, 1) := by decide +kernel
theorem dX12_behind_48 : decode cX12_behind 48 = .ok (.iaload, 1) := by decide +kernel
theorem dX12_behind_49 : decode cX12_behind 49 = .ok (.iadd, 1) := by decide +kernel
theorem dX12_behind_50 : decode cX12_behind 50 = .ok (.invokevirtual 500, 3) := by decide +kernel
theorem dX12_behind_53 : decode cX12_behind 53 = .ok (.aload_n 0, 1) := by decide +kernel
theorem dX12_behind_54 : decode cX12_behind 54 = .ok (.getfield 496, 3) := by decide +kernel
theorem dX12_behind_57 : decode cX12_behind 57 = .ok (.ifCond .eq 9, 3) := by decide +kernel
theorem dX12_behind_60 : decode cX12_behind 60 = .ok (.aload_n 0, 1) := by decide +kernel
theorem dX12_behind_61 : decode cX12_behind 61 = .ok (.iconst 3, 1) := by decide +kernel
theorem dX12_behind_62 : decode cX12_behind 62 = .ok (.invokevirtual 426, 3) := by decide +kernel
theorem dX12_behind_65 : decode cX12_behind 65 = .ok (.ireturn, 1) := by decide +kernel
theorem dX12_behind_66 : decode cX12_behind 66 = .ok (.aload_n 0, 1) := by decide +kernel
theorem dX12_behind_67 : decode cX12_behind 67 = .ok (.iload_n 1, 1) := by decide +kernel
theorem dX12_behind_68 : decode cX12_behind 68 = .ok (.iconst 0, 1) := by decide +kernel
theorem dX12_behind_69 : decode cX12_behind 69 = .ok (.iconst 0, 1) := by decide +kernel
theorem dX12_behind_70 : decode cX12_behind 70 = .ok (.invokevirtual 692, 3) := by decide +kernel
theorem dX12_behind_73 : decode cX12_behind 73 = .ok (.aload_n 0, 1) := by decide +kernel
theorem dX12_behind_74 : decode cX12_behind 74 = .ok (.iload_n 2, 1) := by decide +kernel
theorem dX12_behind_75 : decode cX12_behind 75 = .ok (.iload 4, 2) := by decide +kernel
theorem dX12_behind_77 : decode cX12_behind 77 = .ok (.iconst 0, 1) := by decide +kernel
theorem dX12_behind_78 : decode cX12_behind 78 = .ok (.invokevirtual 692, 3) := by decide +kernel
theorem dX12_behind_81 : decode cX12_behind 81 = .ok (.aload_n 0, 1) := by decide +kernel
theorem dX12_behind_82 : decode cX12_behind 82 = .ok (.iload_n 1, 1) := by decide +kernel
theorem dX12_behind_83 : decode cX12_behind 83 = .ok (.iconst 0, 1) := by decide +kernel
theorem dX12_behind_84 : decode cX12_behind 84 = .ok (.iconst 0, 1) := by decide +kernel
theorem dX12_behind_85 : decode cX12_behind 85 = .ok (.invokevirtual 696, 3) := by decide +kernel
theorem dX12_behind_88 : decode cX12_behind 88 = .ok (.aload_n 0, 1) := by decide +kernel
theorem dX12_behind_89 : decode cX12_behind 89 = .ok (.iload_n 2, 1) := by decide +kernel
theorem dX12_behind_90 : decode cX12_behind 90 = .ok (.iload 4, 2) := by decide +kernel
theorem dX12_behind_92 : decode cX12_behind 92 = .ok (.iconst 0, 1) := by decide +kernel
theorem dX12_behind_93 : decode cX12_behind 93 = .ok (.invokevirtual 696, 3) := by decide +kernel
theorem dX12_behind_96 : decode cX12_behind 96 = .ok (.iconst 0, 1) := by decide +kernel
theorem dX12_behind_97 : decode cX12_behind 97 = .ok (.istore 5, 2) := by decide +kernel
theorem dX12_behind_99 : decode cX12_behind 99 = .ok (.iload 5, 2) := by decide +kernel
theorem dX12_behind_101 : decode cX12_behind 101 = .ok (.iload 4, 2) := by decide +kernel
theorem dX12_behind_103 : decode cX12_behind 103 = .ok (.if_icmp .ge 31, 3) := by decide +kernel
theorem dX12_behind_106 : decode cX12_behind 106 = .ok (.aload_n 0, 1) := by decide +kernel
theorem dX12_behind_107 : decode cX12_behind 107 = .ok (.getfield 121, 3) := by decide +kernel
theorem dX12_behind_110 : decode cX12_behind 110 = .ok (.iload_n 1, 1) := by decide +kernel
theorem dX12_behind_111 : decode cX12_behind 111 = .ok (.laload, 1) := by decide +kernel
theorem dX12_behind_112 : decode cX12_behind 112 = .ok (.iload 5, 2) := by decide +kernel
theorem dX12_behind_114 : decode cX12_behind 114 = .ok (.invokestatic 366, 3) := by decide +kernel
theorem dX12_behind_117 : decode cX12_behind 117 = .ok (.ifCond .eq 11, 3) := by decide +kernel
theorem dX12_behind_120 : decode cX12_behind 120 = .ok (.aload_n 0, 1) := by decide +kernel
theorem dX12_behind_121 : decode cX12_behind 121 = .ok (.iload 5, 2) := by decide +kernel
theorem dX12_behind_123 : decode cX12_behind 123 = .ok (.iload 4, 2) := by decide +kernel
theorem dX12_behind_125 : decode cX12_behind 125 = .ok (.invokevirtual 509, 3) := by decide +kernel
theorem dX12_behind_128 : decode cX12_behind 128 = .ok (.iinc 5 1, 3) := by decide +kernel
theorem dX12_behind_131 : decode cX12_behind 131 = .ok (.goto (-32), 3) := by decide +kernel
theorem dX12_behind_134 : decode cX12_behind 134 = .ok (.aload_n 0, 1) := by decide +kernel
theorem dX12_behind_135 : decode cX12_behind 135 = .ok (.aload_n 0, 1) := by decide +kernel
theorem dX12_behind_136 : decode cX12_behind 136 = .ok (.getfield 121, 3) := by decide +kernel
theorem dX12_behind_139 : decode cX12_behind 139 = .ok (.iload_n 2, 1) := by decide +kernel
theorem dX12_behind_140 : decode cX12_behind 140 = .ok (.laload, 1) := by decide +kernel
theorem dX12_behind_141 : decode cX12_behind 141 = .ok (.iload 4, 2) := by decide +kernel
theorem dX12_behind_143 : decode cX12_behind 143 = .ok (.lshl, 1) := by decide +kernel
theorem dX12_behind_144 : decode cX12_behind 144 = .ok (.putfield 493, 3) := by decide +kernel
theorem dX12_behind_147 : decode cX12_behind 147 = .ok (.aload_n 0, 1) := by decide +kernel
theorem dX12_behind_148 : decode cX12_behind 148 = .ok (.invokevirtual 682, 3) := by decide +kernel
theorem dX12_behind_151 : decode cX12_behind 151 = .ok (.ireturn, 1) := by decide +kernel
theorem dX12_again_0 : decode cX12_again 0 = .ok (.aload_n 0, 1) := by decide +kernel
theorem dX12_again_1 : decode cX12_again 1 = .ok (.iconst 0, 1) := by decide +kernel
theorem dX12_again_2 : decode cX12_again 2 = .ok (.putfield 190, 3) := by decide +kernel
theorem dX12_again_5 : decode cX12_again 5 = .ok (.aload_n 0, 1) := by decide +kernel
theorem dX12_again_6 : decode cX12_again 6 = .ok (.iload_n 1, 1) := by decide +kernel
theorem dX12_again_7 : decode cX12_again 7 = .ok (.invokevirtual 675, 3) := by decide +kernel
theorem dX12_again_10 : decode cX12_again 10 = .ok (.istore_n 2, 1) := by decide +kernel
theorem dX12_again_11 : decode cX12_again 11 = .ok (.iload_n 2, 1) := by decide +kernel
theorem dX12_again_12 : decode cX12_again 12 = .ok (.ifCond .le 9, 3) := by decide +kernel
theorem dX12_again_15 : decode cX12_again 15 = .ok (.aload_n 0, 1) := by decide +kernel
theorem dX12_again_16 : decode cX12_again 16 = .ok (.iload_n 2, 1) := by decide +kernel
theorem dX12_again_17 : decode cX12_again 17 = .ok (.invokevirtual 426, 3) := by decide +kernel
theorem dX12_again_20 : decode cX12_again 20 = .ok (.ireturn, 1) := by decide +kernel
theorem dX12_again_21 : decode cX12_again 21 = .ok (.aload_n 0, 1) := by decide +kernel
theorem dX12_again_22 : decode cX12_again 22 = .ok (.aload_n 0, 1) := by decide +kernel
theorem dX12_again_23 : decode cX12_again 23 = .ok (.getfield 94, 3) := by decide +kernel
theorem dX12_again_26 : decode cX12_again 26 = .ok (.iload_n 1, 1) := by decide +kernel
theorem dX12_again_27 : decode cX12_again 27 = .ok (.iaload, 1) := by decide +kernel
theorem dX12_again_28 : decode cX12_again 28 = .ok (.iconst 1, 1) := by decide +kernel
theorem dX12_again_29 : decode cX12_again 29 = .ok (.iadd, 1) := by decide +kernel
theorem dX12_again_30 : decode cX12_again 30 = .ok (.invokevirtual 500, 3) := by decide +kernel
theorem dX12_again_33 : decode cX12_again 33 = .ok (.aload_n 0, 1) := by decide +kernel
theorem dX12_again_34 : decode cX12_again 34 = .ok (.iconst 0, 1) := by decide +kernel
theorem dX12_again_35 : decode cX12_again 35 = .ok (.iconst 1, 1) := by decide +kernel
theorem dX12_again_36 : decode cX12_again 36 = .ok (.invokevirtual 509, 3) := by decide +kernel
theorem dX12_again_39 : decode cX12_again 39 = .ok (.iconst 0, 1) := by decide +kernel
theorem dX12_again_40 : decode cX12_again 40 = .ok (.istore_n 3, 1) := by decide +kernel
theorem dX12_again_41 : decode cX12_again 41 = .ok (.iload_n 3, 1) := by decide +kernel
theorem dX12_again_42 : decode cX12_again 42 = .ok (.aload_n 0, 1) := by decide +kernel
theorem dX12_again_43 : decode cX12_again 43 = .ok (.getfield 94, 3) := by decide +kernel
theorem dX12_again_46 : decode cX12_again 46 = .ok (.iload_n 1, 1) := by decide +kernel
theorem dX12_again_47 : decode cX12_again 47 = .ok (.iaload, 1) := by decide +kernel
theorem dX12_again_48 : decode cX12_again 48 = .ok (.if_icmp .ge 30, 3) := by decide +kernel
theorem dX12_again_51 : decode cX12_again 51 = .ok (.aload_n 0, 1) := by decide +kernel
theorem dX12_again_52 : decode cX12_again 52 = .ok (.getfield 121, 3) := by decide +kernel
theorem dX12_again_55 : decode cX12_again 55 = .ok (.iload_n 1, 1) := by decide +kernel
theorem dX12_again_56 : decode cX12_again 56 = .ok (.laload, 1) := by decide +kernel
theorem dX12_again_57 : decode cX12_again 57 = .ok (.iload_n 3, 1) := by decide +kernel
theorem dX12_again_58 : decode cX12_again 58 = .ok (.invokestatic 366, 3) := by decide +kernel
theorem dX12_again_61 : decode cX12_again 61 = .ok (.ifCond .eq 11, 3) := by decide +kernel
theorem dX12_again_64 : decode cX12_again 64 = .ok (.aload_n 0, 1) := by decide +kernel
theorem dX12_again_65 : decode cX12_again 65 = .ok (.iload_n 3, 1) := by decide +kernel
theorem dX12_again_66 : decode cX12_again 66 = .ok (.iconst 1, 1) := by decide +kernel
theorem dX12_again_67 : decode cX12_again 67 = .ok (.iadd, 1) := by decide +kernel
theorem dX12_again_68 : decode cX12_again 68 = .ok (.iconst 0, 1) := by decide +kernel
theorem dX12_again_69 : decode cX12_again 69 = .ok (.invokevirtual 509, 3) := by decide +kernel
theorem dX12_again_72 : decode cX12_again 72 = .ok (.iinc 3 1, 3) := by decide +kernel
theorem dX12_again_75 : decode cX12_again 75 = .ok (.goto (-34), 3) := by decide +kernel
theorem dX12_again_78 : decode cX12_again 78 = .ok (.aload_n 0, 1) := by decide +kernel
theorem dX12_again_79 : decode cX12_again 79 = .ok (.iload_n 1, 1) := by decide +kernel
theorem dX12_again_80 : decode cX12_again 80 = .ok (.iconst 1, 1) := by decide +kernel
theorem dX12_again_81 : decode cX12_again 81 = .ok (.iconst 0, 1) := by decide +kernel
theorem dX12_again_82 : decode cX12_again 82 = .ok (.invokevirtual 696, 3) := by decide +kernel
theorem dX12_again_85 : decode cX12_again 85 = .ok (.aload_n 0, 1) := by decide +kernel
theorem dX12_again_86 : decode cX12_again 86 = .ok (.iload_n 1, 1) := by decide +kernel
theorem dX12_again_87 : decode cX12_again 87 = .ok (.iconst 1, 1) := by decide +kernel
theorem dX12_again_88 : decode cX12_again 88 = .ok (.iconst 0, 1) := by decide +kernel
theorem dX12_again_89 : decode cX12_again 89 = .ok (.invokevirtual 692, 3) := by decide +kernel
theorem dX12_again_92 : decode cX12_again 92 = .ok (.aload_n 0, 1) := by decide +kernel
theorem dX12_again_93 : decode cX12_again 93 = .ok (.lconst 1, 1) := by decide +kernel
theorem dX12_again_94 : decode cX12_again 94 = .ok (.putfield 493, 3) := by decide +kernel
theorem dX12_again_97 : decode cX12_again 97 = .ok (.aload_n 0, 1) := by decide +kernel
theorem dX12_again_98 : decode cX12_again 98 = .ok (.invokevirtual 682, 3) := by decide +kernel
theorem dX12_again_101 : decode cX12_again 101 = .ok (.ireturn, 1) := by decide +kernel
theorem dX12_backwards_0 : decode cX12_backwards 0 = .ok (.aload_n 0, 1) := by decide +kernel
theorem dX12_backwards_1 : decode cX12_backwards 1 = .ok (.iconst 0, 1) := by decide +kernel
theorem dX12_backwards_2 : decode cX12_backwards 2 = .ok (.putfield 190, 3) := by decide +kernel
theorem dX12_backwards_5 : decode cX12_backwards 5 = .ok (.aload_n 0, 1) := by decide +kernel
theorem dX12_backwards_6 : decode cX12_backwards 6 = .ok (.iload_n 1, 1) := by decide +kernel
theorem dX12_backwards_7 : decode cX12_backwards 7 = .ok (.invokevirtual 675, 3) := by decide +kernel
theorem dX12_backwards_10 : decode cX12_backwards 10 = .ok (.istore_n 2, 1) := by decide +kernel
theorem dX12_backwards_11 : decode cX12_backwards 11 = .ok (.iload_n 2, 1) := by decide +kernel
theorem dX12_backwards_12 : decode cX12_backwards 12 = .ok (.ifCond .le 9, 3) := by decide +kernel
theorem dX12_backwards_15 : decode cX12_backwards 15 = .ok (.aload_n 0, 1) := by decide +kernel
theorem dX12_backwards_16 : decode cX12_backwards 16 = .ok (.iload_n 2, 1) := by decide +kernel
theorem dX12_backwards_17 : decode cX12_backwards 17 = .ok (.invokevirtual 426, 3) := by decide +kernel
theorem dX12_backwards_20 : decode cX12_backwards 20 = .ok (.ireturn, 1) := by decide +kernel
theorem dX12_backwards_21 : decode cX12_backwards 21 = .ok (.aload_n 0, 1) := by decide +kernel
theorem dX12_backwards_22 : decode cX12_backwards 22 = .ok (.aload_n 0, 1) := by decide +kernel
theorem dX12_backwards_23 : decode cX12_backwards 23 = .ok (.getfield 94, 3) := by decide +kernel
theorem dX12_backwards_26 : decode cX12_backwards 26 = .ok (.iload_n 1, 1) := by decide +kernel
theorem dX12_backwards_27 : decode cX12_backwards 27 = .ok (.iaload, 1) := by decide +kernel
theorem dX12_backwards_28 : decode cX12_backwards 28 = .ok (.iconst 1, 1) := by decide +kernel
theorem dX12_backwards_29 : decode cX12_backwards 29 = .ok (.iadd, 1) := by decide +kernel
theorem dX12_backwards_30 : decode cX12_backwards 30 = .ok (.invokevirtual 500, 3) := by decide +kernel
theorem dX12_backwards_33 : decode cX12_backwards 33 = .ok (.iconst 0, 1) := by decide +kernel
theorem dX12_backwards_34 : decode cX12_backwards 34 = .ok (.istore_n 3, 1) := by decide +kernel
theorem dX12_backwards_35 : decode cX12_backwards 35 = .ok (.iload_n 3, 1) := by decide +kernel
theorem dX12_backwards_36 : decode cX12_backwards 36 = .ok (.aload_n 0, 1) := by decide +kernel
theorem dX12_backwards_37 : decode cX12_backwards 37 = .ok (.getfield 94, 3) := by decide +kernel
theorem dX12_backwards_40 : decode cX12_backwards 40 = .ok (.iload_n 1, 1) := by decide +kernel
theorem dX12_backwards_41 : decode cX12_backwards 41 = .ok (.iaload, 1) := by decide +kernel
theorem dX12_backwards_42 : decode cX12_backwards 42 = .ok (.if_icmp .ge 30, 3) := by decide +kernel
theorem dX12_backwards_45 : decode cX12_backwards 45 = .ok (.aload_n 0, 1) := by decide +kernel
theorem dX12_backwards_46 : decode cX12_backwards 46 = .ok (.getfield 121, 3) := by decide +kernel
theorem dX12_backwards_49 : decode cX12_backwards 49 = .ok (.iload_n 1, 1) := by decide +kernel
theorem dX12_backwards_50 : decode cX12_backwards 50 = .ok (.laload, 1) := by decide +kernel
theorem dX12_backwards_51 : decode cX12_backwards 51 = .ok (.iload_n 3, 1) := by decide +kernel
theorem dX12_backwards_52 : decode cX12_backwards 52 = .ok (.invokestatic 366, 3) := by decide +kernel
theorem dX12_backwards_55 : decode cX12_backwards 55 = .ok (.ifCond .eq 11, 3) := by decide +kernel
theorem dX12_backwards_58 : decode cX12_backwards 58 = .ok (.aload_n 0, 1) := by decide +kernel
theorem dX12_backwards_59 : decode cX12_backwards 59 = .ok (.iconst 0, 1) := by decide +kernel
theorem dX12_backwards_60 : decode cX12_backwards 60 = .ok (.iload_n 3, 1) := by decide +kernel
theorem dX12_backwards_61 : decode cX12_backwards 61 = .ok (.iconst 1, 1) := by decide +kernel
theorem dX12_backwards_62 : decode cX12_backwards 62 = .ok (.iadd, 1) := by decide +kernel
theorem dX12_backwards_63 : decode cX12_backwards 63 = .ok (.invokevirtual 509, 3) := by decide +kernel
theorem dX12_backwards_66 : decode cX12_backwards 66 = .ok (.iinc 3 1, 3) := by decide +kernel
theorem dX12_backwards_69 : decode cX12_backwards 69 = .ok (.goto (-34), 3) := by decide +kernel
theorem dX12_backwards_72 : decode cX12_backwards 72 = .ok (.aload_n 0, 1) := by decide +kernel
theorem dX12_backwards_73 : decode cX12_backwards 73 = .ok (.iload_n 1, 1) := by decide +kernel
theorem dX12_backwards_74 : decode cX12_backwards 74 = .ok (.iconst 1, 1) := by decide +kernel
theorem dX12_backwards_75 : decode cX12_backwards 75 = .ok (.iconst 1, 1) := by decide +kernel
theorem dX12_backwards_76 : decode cX12_backwards 76 = .ok (.invokevirtual 696, 3) := by decide +kernel
theorem dX12_backwards_79 : decode cX12_backwards 79 = .ok (.aload_n 0, 1) := by decide +kernel
theorem dX12_backwards_80 : decode cX12_backwards 80 = .ok (.iload_n 1, 1) := by decide +kernel
theorem dX12_backwards_81 : decode cX12_backwards 81 = .ok (.iconst 1, 1) := by decide +kernel
theorem dX12_backwards_82 : decode cX12_backwards 82 = .ok (.iconst 1, 1) := by decide +kernel
theorem dX12_backwards_83 : decode cX12_backwards 83 = .ok (.invokevirtual 692, 3) := by decide +kernel
theorem dX12_backwards_86 : decode cX12_backwards 86 = .ok (.aload_n 0, 1) := by decide +kernel
theorem dX12_backwards_87 : decode cX12_backwards 87 = .ok (.ldc2_w 699, 3) := by decide +kernel
theorem dX12_backwards_90 : decode cX12_backwards 90 = .ok (.putfield 493, 3) := by decide +kernel
theorem dX12_backwards_93 : decode cX12_backwards 93 = .ok (.aload_n 0, 1) := by decide +kernel
theorem dX12_backwards_94 : decode cX12_backwards 94 = .ok (.invokevirtual 682, 3) := by decide +kernel
theorem dX12_backwards_97 : decode cX12_backwards 97 = .ok (.ireturn, 1) := by decide +kernel
theorem dX12_only_0 : decode cX12_only 0 = .ok (.aload_n 0, 1) := by decide +kernel
theorem dX12_only_1 : decode cX12_only 1 = .ok (.iconst 0, 1) := by decide +kernel
theorem dX12_only_2 : decode cX12_only 2 = .ok (.putfield 190, 3) := by decide +kernel
theorem dX12_only_5 : decode cX12_only 5 = .ok (.aload_n 0, 1) := by decide +kernel
theorem dX12_only_6 : decode cX12_only 6 = .ok (.iload_n 1, 1) := by decide +kernel
theorem dX12_only_7 : decode cX12_only 7 = .ok (.invokevirtual 561, 3) := by decide +kernel
theorem dX12_only_10 : decode cX12_only 10 = .ok (.ifCond .eq 11, 3) := by decide +kernel
theorem dX12_only_13 : decode cX12_only 13 = .ok (.aload_n 0, 1) := by decide +kernel
theorem dX12_only_14 : decode cX12_only 14 = .ok (.iload_n 2, 1) := by decide +kernel
theorem dX12_only_15 : decode cX12_only 15 = .ok (.invokevirtual 447, 3) := by decide +kernel
theorem dX12_only_18 : decode cX12_only 18 = .ok (.ifCond .ne 9, 3) := by decide +kernel
theorem dX12_only_21 : decode cX12_only 21 = .ok (.aload_n 0, 1) := by decide +kernel
theorem dX12_only_22 : decode cX12_only 22 = .ok (.iconst 1, 1) := by decide +kernel
theorem dX12_only_23 : decode cX12_only 23 = .ok (.invokevirtual 426, 3) := by decide +kernel
theorem dX12_only_26 : decode cX12_only 26 = .ok (.ireturn, 1) := by decide +kernel
theorem dX12_only_27 : decode cX12_only 27 = .ok (.aload_n 0, 1) := by decide +kernel
theorem dX12_only_28 : decode cX12_only 28 = .ok (.invokevirtual 672, 3) := by decide +kernel
theorem dX12_only_31 : decode cX12_only 31 = .ok (.ifCond .le 9, 3) := by decide +kernel
theorem dX12_only_34 : decode cX12_only 34 = .ok (.aload_n 0, 1) := by decide +kernel
theorem dX12_only_35 : decode cX12_only 35 = .ok (.iconst 3, 1) := by decide +kernel
theorem dX12_only_36 : decode cX12_only 36 = .ok (.invokevirtual 426, 3) := by decide +kernel
theorem dX12_only_39 : decode cX12_only 39 = .ok (.ireturn, 1) := by decide +kernel
theorem dX12_only_40 : decode cX12_only 40 = .ok (.aload_n 0, 1) := by decide +kernel
theorem dX12_only_41 : decode cX12_only 41 = .ok (.aload_n 0, 1) := by decide +kernel
theorem dX12_only_42 : decode cX12_only 42 = .ok (.getfield 94, 3) := by decide +kernel
theorem dX12_only_45 : decode cX12_only 45 = .ok (.iload_n 1, 1) := by decide +kernel
theorem dX12_only_46 : decode cX12_only 46 = .ok (.iaload, 1) := by decide +kernel
theorem dX12_only_47 : decode cX12_only 47 = .ok (.invokevirtual 500, 3) := by decide +kernel
theorem dX12_only_50 : decode cX12_only 50 = .ok (.iconst 0, 1) := by decide +kernel
theorem dX12_only_51 : decode cX12_only 51 = .ok (.istore_n 3, 1) := by decide +kernel
theorem dX12_only_52 : decode cX12_only 52 = .ok (.iload_n 3, 1) := by decide +kernel
theorem dX12_only_53 : decode cX12_only 53 = .ok (.aload_n 0, 1) := by decide +kernel
theorem dX12_only_54 : decode cX12_only 54 = .ok (.getfield 97, 3) := by decide +kernel
theorem dX12_only_57 : decode cX12_only 57 = .ok (.iload_n 1, 1) := by decide +kernel
theorem dX12_only_58 : decode cX12_only 58 = .ok (.iaload, 1) := by decide +kernel
theorem dX12_only_59 : decode cX12_only 59 = .ok (.if_icmp .ge 100, 3) := by decide +kernel
theorem dX12_only_62 : decode cX12_only 62 = .ok (.aload_n 0, 1) := by decide +kernel
theorem dX12_only_63 : decode cX12_only 63 = .ok (.aload_n 0, 1) := by decide +kernel
theorem dX12_only_64 : decode cX12_only 64 = .ok (.getfield 109, 3) := by decide +kernel
theorem dX12_only_67 : decode cX12_only 67 = .ok (.iload_n 1, 1) := by decide +kernel
theorem dX12_only_68 : decode cX12_only 68 = .ok (.sipush 160, 3) := by decide +kernel
theorem dX12_only_71 : decode cX12_only 71 = .ok (.imul, 1) := by decide +kernel
theorem dX12_only_72 : decode cX12_only 72 = .ok (.iload_n 3, 1) := by decide +kernel
theorem dX12_only_73 : decode cX12_only 73 = .ok (.iadd, 1) := by decide +kernel
theorem dX12_only_74 : decode cX12_only 74 = .ok (.iaload, 1) := by decide +kernel
theorem dX12_only_75 : decode cX12_only 75 = .ok (.aload_n 0, 1) := by decide +kernel
theorem dX12_only_76 : decode cX12_only 76 = .ok (.getfield 112, 3) := by decide +kernel
theorem dX12_only_79 : decode cX12_only 79 = .ok (.iload_n 1, 1) := by decide +kernel
theorem dX12_only_80 : decode cX12_only 80 = .ok (.sipush 160, 3) := by decide +kernel
theorem dX12_only_83 : decode cX12_only 83 = .ok (.imul, 1) := by decide +kernel
theorem dX12_only_84 : decode cX12_only 84 = .ok (.iload_n 3, 1) := by decide +kernel
theorem dX12_only_85 : decode cX12_only 85 = .ok (.iadd, 1) := by decide +kernel
theorem dX12_only_86 : decode cX12_only 86 = .ok (.iaload, 1) := by decide +kernel
theorem dX12_only_87 : decode cX12_only 87 = .ok (.invokevirtual 503, 3) := by decide +kernel
theorem dX12_only_90 : decode cX12_only 90 = .ok (.pop, 1) := by decide +kernel
theorem dX12_only_91 : decode cX12_only 91 = .ok (.iconst 0, 1) := by decide +kernel
theorem dX12_only_92 : decode cX12_only 92 = .ok (.istore 4, 2) := by decide +kernel
theorem dX12_only_94 : decode cX12_only 94 = .ok (.iload 4, 2) := by decide +kernel
theorem dX12_only_96 : decode cX12_only 96 = .ok (.aload_n 0, 1) := by decide +kernel
theorem dX12_only_97 : decode cX12_only 97 = .ok (.getfield 103, 3) := by decide +kernel
theorem dX12_only_100 : decode cX12_only 100 = .ok (.iload_n 1, 1) := by decide +kernel
theorem dX12_only_101 : decode cX12_only 101 = .ok (.iaload, 1) := by decide +kernel
theorem dX12_only_102 : decode cX12_only 102 = .ok (.if_icmp .ge 47, 3) := by decide +kernel
theorem dX12_only_105 : decode cX12_only 105 = .ok (.aload_n 0, 1) := by decide +kernel
theorem dX12_only_106 : decode cX12_only 106 = .ok (.iload_n 1, 1) := by decide +kernel
theorem dX12_only_107 : decode cX12_only 107 = .ok (.iload_n 3, 1) := by decide +kernel
theorem dX12_only_108 : decode cX12_only 108 = .ok (.iload 4, 2) := by decide +kernel
theorem dX12_only_110 : decode cX12_only 110 = .ok (.invokevirtual 527, 3) := by decide +kernel
theorem dX12_only_113 : decode cX12_only 113 = .ok (.ifCond .eq 30, 3) := by decide +kernel
theorem dX12_only_116 : decode cX12_only 116 = .ok (.aload_n 0, 1) := by decide +kernel
theorem dX12_only_117 : decode cX12_only 117 = .ok (.iload_n 2, 1) := by decide +kernel
theorem dX12_only_118 : decode cX12_only 118 = .ok (.aload_n 0, 1) := by decide +kernel
theorem dX12_only_119 : decode cX12_only 119 = .ok (.getfield 106, 3) := by decide +kernel
theorem dX12_only_122 : decode cX12_only 122 = .ok (.iload_n 1, 1) := by decide +kernel
theorem dX12_only_123 : decode cX12_only 123 = .ok (.sipush 128, 3) := by decide +kernel
theorem dX12_only_126 : decode cX12_only 126 = .ok (.imul, 1) := by decide +kernel
theorem dX12_only_127 : decode cX12_only 127 = .ok (.iload 4, 2) := by decide +kernel
theorem dX12_only_129 : decode cX12_only 129 = .ok (.iadd, 1) := by decide +kernel
theorem dX12_only_130 : decode cX12_only 130 = .ok (.iaload, 1) := by decide +kernel
theorem dX12_only_131 : decode cX12_only 131 = .ok (.aload_n 0, 1) := by decide +kernel
theorem dX12_only_132 : decode cX12_only 132 = .ok (.iload_n 1, 1) := by decide +kernel
theorem dX12_only_133 : decode cX12_only 133 = .ok (.iload 4, 2) := by decide +kernel
theorem dX12_only_135 : decode cX12_only 135 = .ok (.invokevirtual 571, 3) := by decide +kernel
theorem dX12_only_138 : decode cX12_only 138 = .ok (.iconst 1, 1) := by decide +kernel
theorem dX12_only_139 : decode cX12_only 139 = .ok (.isub, 1) := by decide +kernel
theorem dX12_only_140 : decode cX12_only 140 = .ok (.invokevirtual 701, 3) := by decide +kernel
theorem dX12_only_143 : decode cX12_only 143 = .ok (.iinc 4 1, 3) := by decide +kernel
theorem dX12_only_146 : decode cX12_only 146 = .ok (.goto (-52), 3) := by decide +kernel
theorem dX12_only_149 : decode cX12_only 149 = .ok (.aload_n 0, 1) := by decide +kernel
theorem dX12_only_150 : decode cX12_only 150 = .ok (.invokevirtual 705, 3) := by decide +kernel
theorem dX12_only_153 : decode cX12_only 153 = .ok (.iinc 3 1, 3) := by decide +kernel
theorem dX12_only_156 : decode cX12_only 156 = .ok (.goto (-104), 3) := by decide +kernel
theorem dX12_only_159 : decode cX12_only 159 = .ok (.aload_n 0, 1) := by decide +kernel
theorem dX12_only_160 : decode cX12_only 160 = .ok (.iload_n 1, 1) := by decide +kernel
theorem dX12_only_161 : decode cX12_only 161 = .ok (.invokevirtual 708, 3) := by decide +kernel
theorem dX12_only_164 : decode cX12_only 164 = .ok (.ireturn, 1) := by decide +kernel
theorem dX12_buildsOnly_0 : decode cX12_buildsOnly 0 = .ok (.iload_n 1, 1) := by decide +kernel
theorem dX12_buildsOnly_1 : decode cX12_buildsOnly 1 = .ok (.bipush 24, 2) := by decide +kernel
theorem dX12_buildsOnly_3 : decode cX12_buildsOnly 3 = .ok (.imul, 1) := by decide +kernel
theorem dX12_buildsOnly_4 : decode cX12_buildsOnly 4 = .ok (.istore 4, 2) := by decide +kernel
theorem dX12_buildsOnly_6 : decode cX12_buildsOnly 6 = .ok (.iload 4, 2) := by decide +kernel
theorem dX12_buildsOnly_8 : decode cX12_buildsOnly 8 = .ok (.iload_n 1, 1) := by decide +kernel
theorem dX12_buildsOnly_9 : decode cX12_buildsOnly 9 = .ok (.bipush 24, 2) := by decide +kernel
theorem dX12_buildsOnly_11 : decode cX12_buildsOnly 11 = .ok (.imul, 1) := by decide +kernel
theorem dX12_buildsOnly_12 : decode cX12_buildsOnly 12 = .ok (.aload_n 0, 1) := by decide +kernel
theorem dX12_buildsOnly_13 : decode cX12_buildsOnly 13 = .ok (.getfield 28, 3) := by decide +kernel
theorem dX12_buildsOnly_16 : decode cX12_buildsOnly 16 = .ok (.iload_n 1, 1) := by decide +kernel
theorem dX12_buildsOnly_17 : decode cX12_buildsOnly 17 = .ok (.iaload, 1) := by decide +kernel
theorem dX12_buildsOnly_18 : decode cX12_buildsOnly 18 = .ok (.iadd, 1) := by decide +kernel
theorem dX12_buildsOnly_19 : decode cX12_buildsOnly 19 = .ok (.if_icmp .ge 72, 3) := by decide +kernel
theorem dX12_buildsOnly_22 : decode cX12_buildsOnly 22 = .ok (.aload_n 0, 1) := by decide +kernel
theorem dX12_buildsOnly_23 : decode cX12_buildsOnly 23 = .ok (.getfield 31, 3) := by decide +kernel
theorem dX12_buildsOnly_26 : decode cX12_buildsOnly 26 = .ok (.iload 4, 2) := by decide +kernel
theorem dX12_buildsOnly_28 : decode cX12_buildsOnly 28 = .ok (.iaload, 1) := by decide +kernel
theorem dX12_buildsOnly_29 : decode cX12_buildsOnly 29 = .ok (.iload_n 2, 1) := by decide +kernel
theorem dX12_buildsOnly_30 : decode cX12_buildsOnly 30 = .ok (.if_icmp .le 13, 3) := by decide +kernel
theorem dX12_buildsOnly_33 : decode cX12_buildsOnly 33 = .ok (.aload_n 0, 1) := by decide +kernel
theorem dX12_buildsOnly_34 : decode cX12_buildsOnly 34 = .ok (.getfield 31, 3) := by decide +kernel
theorem dX12_buildsOnly_37 : decode cX12_buildsOnly 37 = .ok (.iload 4, 2) := by decide +kernel
theorem dX12_buildsOnly_39 : decode cX12_buildsOnly 39 = .ok (.iaload, 1) := by decide +kernel
theorem dX12_buildsOnly_40 : decode cX12_buildsOnly 40 = .ok (.goto 4, 3) := by decide +kernel
theorem dX12_buildsOnly_43 : decode cX12_buildsOnly 43 = .ok (.iload_n 2, 1) := by decide +kernel
theorem dX12_buildsOnly_44 : decode cX12_buildsOnly 44 = .ok (.istore 5, 2) := by decide +kernel
theorem dX12_buildsOnly_46 : decode cX12_buildsOnly 46 = .ok (.aload_n 0, 1) := by decide +kernel
theorem dX12_buildsOnly_47 : decode cX12_buildsOnly 47 = .ok (.getfield 34, 3) := by decide +kernel
theorem dX12_buildsOnly_50 : decode cX12_buildsOnly 50 = .ok (.iload 4, 2) := by decide +kernel
theorem dX12_buildsOnly_52 : decode cX12_buildsOnly 52 = .ok (.iaload, 1) := by decide +kernel
theorem dX12_buildsOnly_53 : decode cX12_buildsOnly 53 = .ok (.iload_n 3, 1) := by decide +kernel
theorem dX12_buildsOnly_54 : decode cX12_buildsOnly 54 = .ok (.if_icmp .ge 13, 3) := by decide +kernel
theorem dX12_buildsOnly_57 : decode cX12_buildsOnly 57 = .ok (.aload_n 0, 1) := by decide +kernel
theorem dX12_buildsOnly_58 : decode cX12_buildsOnly 58 = .ok (.getfield 34, 3) := by decide +kernel
theorem dX12_buildsOnly_61 : decode cX12_buildsOnly 61 = .ok (.iload 4, 2) := by decide +kernel
theorem dX12_buildsOnly_63 : decode cX12_buildsOnly 63 = .ok (.iaload, 1) := by decide +kernel
theorem dX12_buildsOnly_64 : decode cX12_buildsOnly 64 = .ok (.goto 4, 3) := by decide +kernel
theorem dX12_buildsOnly_67 : decode cX12_buildsOnly 67 = .ok (.iload_n 3, 1) := by decide +kernel
theorem dX12_buildsOnly_68 : decode cX12_buildsOnly 68 = .ok (.istore 6, 2) := by decide +kernel
theorem dX12_buildsOnly_70 : decode cX12_buildsOnly 70 = .ok (.iload 5, 2) := by decide +kernel
theorem dX12_buildsOnly_72 : decode cX12_buildsOnly 72 = .ok (.iload 6, 2) := by decide +kernel
theorem dX12_buildsOnly_74 : decode cX12_buildsOnly 74 = .ok (.if_icmp .gt 11, 3) := by decide +kernel
theorem dX12_buildsOnly_77 : decode cX12_buildsOnly 77 = .ok (.aload_n 0, 1) := by decide +kernel
theorem dX12_buildsOnly_78 : decode cX12_buildsOnly 78 = .ok (.iload 5, 2) := by decide +kernel
theorem dX12_buildsOnly_80 : decode cX12_buildsOnly 80 = .ok (.iload 6, 2) := by decide +kernel
theorem dX12_buildsOnly_82 : decode cX12_buildsOnly 82 = .ok (.invokevirtual 506, 3) := by decide +kernel
theorem dX12_buildsOnly_85 : decode cX12_buildsOnly 85 = .ok (.iinc 4 1, 3) := by decide +kernel
theorem dX12_buildsOnly_88 : decode cX12_buildsOnly 88 = .ok (.goto (-82), 3) := by decide +kernel
theorem dX12_buildsOnly_91 : decode cX12_buildsOnly 91 = .ok (.return_, 1) := by decide +kernel
theorem dX12_makesLike_0 : decode cX12_makesLike 0 = .ok (.aload_n 0, 1) := by decide +kernel
theorem dX12_makesLike_1 : decode cX12_makesLike 1 = .ok (.iload_n 1, 1) := by decide +kernel
theorem dX12_makesLike_2 : decode cX12_makesLike 2 = .ok (.iconst 0, 1) := by decide +kernel
theorem dX12_makesLike_3 : decode cX12_makesLike 3 = .ok (.iconst 0, 1) := by decide +kernel
theorem dX12_makesLike_4 : decode cX12_makesLike 4 = .ok (.invokevirtual 696, 3) := by decide +kernel
theorem dX12_makesLike_7 : decode cX12_makesLike 7 = .ok (.aload_n 0, 1) := by decide +kernel
theorem dX12_makesLike_8 : decode cX12_makesLike 8 = .ok (.aload_n 0, 1) := by decide +kernel
theorem dX12_makesLike_9 : decode cX12_makesLike 9 = .ok (.getfield 121, 3) := by decide +kernel
theorem dX12_makesLike_12 : decode cX12_makesLike 12 = .ok (.iload_n 1, 1) := by decide +kernel
theorem dX12_makesLike_13 : decode cX12_makesLike 13 = .ok (.laload, 1) := by decide +kernel
theorem dX12_makesLike_14 : decode cX12_makesLike 14 = .ok (.putfield 493, 3) := by decide +kernel
theorem dX12_makesLike_17 : decode cX12_makesLike 17 = .ok (.aload_n 0, 1) := by decide +kernel
theorem dX12_makesLike_18 : decode cX12_makesLike 18 = .ok (.invokevirtual 682, 3) := by decide +kernel
theorem dX12_makesLike_21 : decode cX12_makesLike 21 = .ok (.ireturn, 1) := by decide +kernel
theorem dX12_moved_0 : decode cX12_moved 0 = .ok (.aload_n 0, 1) := by decide +kernel
theorem dX12_moved_1 : decode cX12_moved 1 = .ok (.iconst 0, 1) := by decide +kernel
theorem dX12_moved_2 : decode cX12_moved 2 = .ok (.putfield 190, 3) := by decide +kernel
theorem dX12_moved_5 : decode cX12_moved 5 = .ok (.aload_n 0, 1) := by decide +kernel
theorem dX12_moved_6 : decode cX12_moved 6 = .ok (.iload_n 1, 1) := by decide +kernel
theorem dX12_moved_7 : decode cX12_moved 7 = .ok (.invokevirtual 561, 3) := by decide +kernel
theorem dX12_moved_10 : decode cX12_moved 10 = .ok (.ifCond .ne 9, 3) := by decide +kernel
theorem dX12_moved_13 : decode cX12_moved 13 = .ok (.aload_n 0, 1) := by decide +kernel
theorem dX12_moved_14 : decode cX12_moved 14 = .ok (.iconst 1, 1) := by decide +kernel
theorem dX12_moved_15 : decode cX12_moved 15 = .ok (.invokevirtual 426, 3) := by decide +kernel
theorem dX12_moved_18 : decode cX12_moved 18 = .ok (.ireturn, 1) := by decide +kernel
theorem dX12_moved_19 : decode cX12_moved 19 = .ok (.iload_n 2, 1) := by decide +kernel
theorem dX12_moved_20 : decode cX12_moved 20 = .ok (.ldc_w 711, 3) := by decide +kernel
theorem dX12_moved_23 : decode cX12_moved 23 = .ok (.ldc 200, 2) := by decide +kernel
theorem dX12_moved_25 : decode cX12_moved 25 = .ok (.invokestatic 201, 3) := by decide +kernel
theorem dX12_moved_28 : decode cX12_moved 28 = .ok (.ifCond .ne 9, 3) := by decide +kernel
theorem dX12_moved_31 : decode cX12_moved 31 = .ok (.aload_n 0, 1) := by decide +kernel
theorem dX12_moved_32 : decode cX12_moved 32 = .ok (.iconst 2, 1) := by decide +kernel
theorem dX12_moved_33 : decode cX12_moved 33 = .ok (.invokevirtual 426, 3) := by decide +kernel
theorem dX12_moved_36 : decode cX12_moved 36 = .ok (.ireturn, 1) := by decide +kernel
theorem dX12_moved_37 : decode cX12_moved 37 = .ok (.aload_n 0, 1) := by decide +kernel
theorem dX12_moved_38 : decode cX12_moved 38 = .ok (.invokevirtual 672, 3) := by decide +kernel
theorem dX12_moved_41 : decode cX12_moved 41 = .ok (.ifCond .le 9, 3) := by decide +kernel
theorem dX12_moved_44 : decode cX12_moved 44 = .ok (.aload_n 0, 1) := by decide +kernel
theorem dX12_moved_45 : decode cX12_moved 45 = .ok (.iconst 3, 1) := by decide +kernel
theorem dX12_moved_46 : decode cX12_moved 46 = .ok (.invokevirtual 426, 3) := by decide +kernel
theorem dX12_moved_49 : decode cX12_moved 49 = .ok (.ireturn, 1) := by decide +kernel
theorem dX12_moved_50 : decode cX12_moved 50 = .ok (.aload_n 0, 1) := by decide +kernel
theorem dX12_moved_51 : decode cX12_moved 51 = .ok (.aload_n 0, 1) := by decide +kernel
theorem dX12_moved_52 : decode cX12_moved 52 = .ok (.getfield 94, 3) := by decide +kernel
theorem dX12_moved_55 : decode cX12_moved 55 = .ok (.iload_n 1, 1) := by decide +kernel
theorem dX12_moved_56 : decode cX12_moved 56 = .ok (.iaload, 1) := by decide +kernel
theorem dX12_moved_57 : decode cX12_moved 57 = .ok (.invokevirtual 500, 3) := by decide +kernel
theorem dX12_moved_60 : decode cX12_moved 60 = .ok (.iconst 0, 1) := by decide +kernel
theorem dX12_moved_61 : decode cX12_moved 61 = .ok (.istore_n 3, 1) := by decide +kernel
theorem dX12_moved_62 : decode cX12_moved 62 = .ok (.iload_n 3, 1) := by decide +kernel
theorem dX12_moved_63 : decode cX12_moved 63 = .ok (.aload_n 0, 1) := by decide +kernel
theorem dX12_moved_64 : decode cX12_moved 64 = .ok (.getfield 97, 3) := by decide +kernel
theorem dX12_moved_67 : decode cX12_moved 67 = .ok (.iload_n 1, 1) := by decide +kernel
theorem dX12_moved_68 : decode cX12_moved 68 = .ok (.iaload, 1) := by decide +kernel
theorem dX12_moved_69 : decode cX12_moved 69 = .ok (.if_icmp .ge 103, 3) := by decide +kernel
theorem dX12_moved_72 : decode cX12_moved 72 = .ok (.aload_n 0, 1) := by decide +kernel
theorem dX12_moved_73 : decode cX12_moved 73 = .ok (.aload_n 0, 1) := by decide +kernel
theorem dX12_moved_74 : decode cX12_moved 74 = .ok (.getfield 109, 3) := by decide +kernel
theorem dX12_moved_77 : decode cX12_moved 77 = .ok (.iload_n 1, 1) := by decide +kernel
theorem dX12_moved_78 : decode cX12_moved 78 = .ok (.sipush 160, 3) := by decide +kernel
theorem dX12_moved_81 : decode cX12_moved 81 = .ok (.imul, 1) := by decide +kernel
theorem dX12_moved_82 : decode cX12_moved 82 = .ok (.iload_n 3, 1) := by decide +kernel
theorem dX12_moved_83 : decode cX12_moved 83 = .ok (.iadd, 1) := by decide +kernel
theorem dX12_moved_84 : decode cX12_moved 84 = .ok (.iaload, 1) := by decide +kernel
theorem dX12_moved_85 : decode cX12_moved 85 = .ok (.aload_n 0, 1) := by decide +kernel
theorem dX12_moved_86 : decode cX12_moved 86 = .ok (.getfield 112, 3) := by decide +kernel
theorem dX12_moved_89 : decode cX12_moved 89 = .ok (.iload_n 1, 1) := by decide +kernel
theorem dX12_moved_90 : decode cX12_moved 90 = .ok (.sipush 160, 3) := by decide +kernel
theorem dX12_moved_93 : decode cX12_moved 93 = .ok (.imul, 1) := by decide +kernel
theorem dX12_moved_94 : decode cX12_moved 94 = .ok (.iload_n 3, 1) := by decide +kernel
theorem dX12_moved_95 : decode cX12_moved 95 = .ok (.iadd, 1) := by decide +kernel
theorem dX12_moved_96 : decode cX12_moved 96 = .ok (.iaload, 1) := by decide +kernel
theorem dX12_moved_97 : decode cX12_moved 97 = .ok (.invokevirtual 503, 3) := by decide +kernel
theorem dX12_moved_100 : decode cX12_moved 100 = .ok (.pop, 1) := by decide +kernel
theorem dX12_moved_101 : decode cX12_moved 101 = .ok (.iconst 0, 1) := by decide +kernel
theorem dX12_moved_102 : decode cX12_moved 102 = .ok (.istore 4, 2) := by decide +kernel
theorem dX12_moved_104 : decode cX12_moved 104 = .ok (.iload 4, 2) := by decide +kernel
theorem dX12_moved_106 : decode cX12_moved 106 = .ok (.aload_n 0, 1) := by decide +kernel
theorem dX12_moved_107 : decode cX12_moved 107 = .ok (.getfield 103, 3) := by decide +kernel
theorem dX12_moved_110 : decode cX12_moved 110 = .ok (.iload_n 1, 1) := by decide +kernel
theorem dX12_moved_111 : decode cX12_moved 111 = .ok (.iaload, 1) := by decide +kernel
theorem dX12_moved_112 : decode cX12_moved 112 = .ok (.if_icmp .ge 50, 3) := by decide +kernel
theorem dX12_moved_115 : decode cX12_moved 115 = .ok (.aload_n 0, 1) := by decide +kernel
theorem dX12_moved_116 : decode cX12_moved 116 = .ok (.iload_n 1, 1) := by decide +kernel
theorem dX12_moved_117 : decode cX12_moved 117 = .ok (.iload_n 3, 1) := by decide +kernel
theorem dX12_moved_118 : decode cX12_moved 118 = .ok (.iload 4, 2) := by decide +kernel
theorem dX12_moved_120 : decode cX12_moved 120 = .ok (.invokevirtual 527, 3) := by decide +kernel
theorem dX12_moved_123 : decode cX12_moved 123 = .ok (.ifCond .eq 33, 3) := by decide +kernel
theorem dX12_moved_126 : decode cX12_moved 126 = .ok (.aload_n 0, 1) := by decide +kernel
theorem dX12_moved_127 : decode cX12_moved 127 = .ok (.aload_n 0, 1) := by decide +kernel
theorem dX12_moved_128 : decode cX12_moved 128 = .ok (.getfield 106, 3) := by decide +kernel
theorem dX12_moved_131 : decode cX12_moved 131 = .ok (.iload_n 1, 1) := by decide +kernel
theorem dX12_moved_132 : decode cX12_moved 132 = .ok (.sipush 128, 3) := by decide +kernel
theorem dX12_moved_135 : decode cX12_moved 135 = .ok (.imul, 1) := by decide +kernel
theorem dX12_moved_136 : decode cX12_moved 136 = .ok (.iload 4, 2) := by decide +kernel
theorem dX12_moved_138 : decode cX12_moved 138 = .ok (.iadd, 1) := by decide +kernel
theorem dX12_moved_139 : decode cX12_moved 139 = .ok (.iaload, 1) := by decide +kernel
theorem dX12_moved_140 : decode cX12_moved 140 = .ok (.iload_n 2, 1) := by decide +kernel
theorem dX12_moved_141 : decode cX12_moved 141 = .ok (.iadd, 1) := by decide +kernel
theorem dX12_moved_142 : decode cX12_moved 142 = .ok (.aload_n 0, 1) := by decide +kernel
theorem dX12_moved_143 : decode cX12_moved 143 = .ok (.iload_n 1, 1) := by decide +kernel
theorem dX12_moved_144 : decode cX12_moved 144 = .ok (.iload 4, 2) := by decide +kernel
theorem dX12_moved_146 : decode cX12_moved 146 = .ok (.invokevirtual 571, 3) := by decide +kernel
theorem dX12_moved_149 : decode cX12_moved 149 = .ok (.iconst 1, 1) := by decide +kernel
theorem dX12_moved_150 : decode cX12_moved 150 = .ok (.isub, 1) := by decide +kernel
theorem dX12_moved_151 : decode cX12_moved 151 = .ok (.iload_n 2, 1) := by decide +kernel
theorem dX12_moved_152 : decode cX12_moved 152 = .ok (.iadd, 1) := by decide +kernel
theorem dX12_moved_153 : decode cX12_moved 153 = .ok (.invokevirtual 712, 3) := by decide +kernel
theorem dX12_moved_156 : decode cX12_moved 156 = .ok (.iinc 4 1, 3) := by decide +kernel
theorem dX12_moved_159 : decode cX12_moved 159 = .ok (.goto (-55), 3) := by decide +kernel
theorem dX12_moved_162 : decode cX12_moved 162 = .ok (.aload_n 0, 1) := by decide +kernel
theorem dX12_moved_163 : decode cX12_moved 163 = .ok (.invokevirtual 705, 3) := by decide +kernel
theorem dX12_moved_166 : decode cX12_moved 166 = .ok (.iinc 3 1, 3) := by decide +kernel
theorem dX12_moved_169 : decode cX12_moved 169 = .ok (.goto (-107), 3) := by decide +kernel
theorem dX12_moved_172 : decode cX12_moved 172 = .ok (.aload_n 0, 1) := by decide +kernel
theorem dX12_moved_173 : decode cX12_moved 173 = .ok (.iload_n 1, 1) := by decide +kernel
theorem dX12_moved_174 : decode cX12_moved 174 = .ok (.invokevirtual 708, 3) := by decide +kernel
theorem dX12_moved_177 : decode cX12_moved 177 = .ok (.ireturn, 1) := by decide +kernel
theorem dX12_buildsMoved_0 : decode cX12_buildsMoved 0 = .ok (.iload_n 1, 1) := by decide +kernel
theorem dX12_buildsMoved_1 : decode cX12_buildsMoved 1 = .ok (.ifCond .ge 7, 3) := by decide +kernel
theorem dX12_buildsMoved_4 : decode cX12_buildsMoved 4 = .ok (.iconst 0, 1) := by decide +kernel
theorem dX12_buildsMoved_5 : decode cX12_buildsMoved 5 = .ok (.goto 4, 3) := by decide +kernel
theorem dX12_buildsMoved_8 : decode cX12_buildsMoved 8 = .ok (.iload_n 1, 1) := by decide +kernel
theorem dX12_buildsMoved_9 : decode cX12_buildsMoved 9 = .ok (.istore_n 3, 1) := by decide +kernel
theorem dX12_buildsMoved_10 : decode cX12_buildsMoved 10 = .ok (.iload_n 2, 1) := by decide +kernel
theorem dX12_buildsMoved_11 : decode cX12_buildsMoved 11 = .ok (.ldc_w 373, 3) := by decide +kernel
theorem dX12_buildsMoved_14 : decode cX12_buildsMoved 14 = .ok (.if_icmp .ge 7, 3) := by decide +kernel
theorem dX12_buildsMoved_17 : decode cX12_buildsMoved 17 = .ok (.iload_n 2, 1) := by decide +kernel
theorem dX12_buildsMoved_18 : decode cX12_buildsMoved 18 = .ok (.goto 5, 3) := by decide +kernel
theorem dX12_buildsMoved_21 : decode cX12_buildsMoved 21 = .ok (.ldc 200, 2) := by decide +kernel
theorem dX12_buildsMoved_23 : decode cX12_buildsMoved 23 = .ok (.istore 4, 2) := by decide +kernel
theorem dX12_buildsMoved_25 : decode cX12_buildsMoved 25 = .ok (.iload_n 3, 1) := by decide +kernel
theorem dX12_buildsMoved_26 : decode cX12_buildsMoved 26 = .ok (.iload 4, 2) := by decide +kernel
theorem dX12_buildsMoved_28 : decode cX12_buildsMoved 28 = .ok (.if_icmp .gt 10, 3) := by decide +kernel
theorem dX12_buildsMoved_31 : decode cX12_buildsMoved 31 = .ok (.aload_n 0, 1) := by decide +kernel
theorem dX12_buildsMoved_32 : decode cX12_buildsMoved 32 = .ok (.iload_n 3, 1) := by decide +kernel
theorem dX12_buildsMoved_33 : decode cX12_buildsMoved 33 = .ok (.iload 4, 2) := by decide +kernel
theorem dX12_buildsMoved_35 : decode cX12_buildsMoved 35 = .ok (.invokevirtual 506, 3) := by decide +kernel
theorem dX12_buildsMoved_38 : decode cX12_buildsMoved 38 = .ok (.return_, 1) := by decide +kernel
theorem dX12_past_0 : decode cX12_past 0 = .ok (.aload_n 0, 1) := by decide +kernel
theorem dX12_past_1 : decode cX12_past 1 = .ok (.iconst 0, 1) := by decide +kernel
theorem dX12_past_2 : decode cX12_past 2 = .ok (.putfield 190, 3) := by decide +kernel
theorem dX12_past_5 : decode cX12_past 5 = .ok (.aload_n 0, 1) := by decide +kernel
theorem dX12_past_6 : decode cX12_past 6 = .ok (.iload_n 1, 1) := by decide +kernel
theorem dX12_past_7 : decode cX12_past 7 = .ok (.invokevirtual 561, 3) := by decide +kernel
theorem dX12_past_10 : decode cX12_past 10 = .ok (.ifCond .ne 9, 3) := by decide +kernel
theorem dX12_past_13 : decode cX12_past 13 = .ok (.aload_n 0, 1) := by decide +kernel
theorem dX12_past_14 : decode cX12_past 14 = .ok (.iconst 1, 1) := by decide +kernel
theorem dX12_past_15 : decode cX12_past 15 = .ok (.invokevirtual 426, 3) := by decide +kernel
theorem dX12_past_18 : decode cX12_past 18 = .ok (.ireturn, 1) := by decide +kernel
theorem dX12_past_19 : decode cX12_past 19 = .ok (.iload_n 2, 1) := by decide +kernel
theorem dX12_past_20 : decode cX12_past 20 = .ok (.invokestatic 450, 3) := by decide +kernel
theorem dX12_past_23 : decode cX12_past 23 = .ok (.ifCond .ne 9, 3) := by decide +kernel
theorem dX12_past_26 : decode cX12_past 26 = .ok (.aload_n 0, 1) := by decide +kernel
theorem dX12_past_27 : decode cX12_past 27 = .ok (.iconst 2, 1) := by decide +kernel
theorem dX12_past_28 : decode cX12_past 28 = .ok (.invokevirtual 426, 3) := by decide +kernel
theorem dX12_past_31 : decode cX12_past 31 = .ok (.ireturn, 1) := by decide +kernel
theorem dX12_past_32 : decode cX12_past 32 = .ok (.aload_n 0, 1) := by decide +kernel
theorem dX12_past_33 : decode cX12_past 33 = .ok (.invokevirtual 672, 3) := by decide +kernel
theorem dX12_past_36 : decode cX12_past 36 = .ok (.ifCond .le 9, 3) := by decide +kernel
theorem dX12_past_39 : decode cX12_past 39 = .ok (.aload_n 0, 1) := by decide +kernel
theorem dX12_past_40 : decode cX12_past 40 = .ok (.iconst 3, 1) := by decide +kernel
theorem dX12_past_41 : decode cX12_past 41 = .ok (.invokevirtual 426, 3) := by decide +kernel
theorem dX12_past_44 : decode cX12_past 44 = .ok (.ireturn, 1) := by decide +kernel
theorem dX12_past_45 : decode cX12_past 45 = .ok (.aload_n 0, 1) := by decide +kernel
theorem dX12_past_46 : decode cX12_past 46 = .ok (.iload_n 1, 1) := by decide +kernel
theorem dX12_past_47 : decode cX12_past 47 = .ok (.aload_n 0, 1) := by decide +kernel
theorem dX12_past_48 : decode cX12_past 48 = .ok (.iload_n 1, 1) := by decide +kernel
theorem dX12_past_49 : decode cX12_past 49 = .ok (.lconst 1, 1) := by decide +kernel
theorem dX12_past_50 : decode cX12_past 50 = .ok (.invokevirtual 530, 3) := by decide +kernel
theorem dX12_past_53 : decode cX12_past 53 = .ok (.aload_n 0, 1) := by decide +kernel
theorem dX12_past_54 : decode cX12_past 54 = .ok (.iload_n 1, 1) := by decide +kernel
theorem dX12_past_55 : decode cX12_past 55 = .ok (.iload_n 2, 1) := by decide +kernel
theorem dX12_past_56 : decode cX12_past 56 = .ok (.invokevirtual 524, 3) := by decide +kernel
theorem dX12_past_59 : decode cX12_past 59 = .ok (.invokevirtual 534, 3) := by decide +kernel
theorem dX12_past_62 : decode cX12_past 62 = .ok (.lstore_n 3, 1) := by decide +kernel
theorem dX12_past_63 : decode cX12_past 63 = .ok (.aload_n 0, 1) := by decide +kernel
theorem dX12_past_64 : decode cX12_past 64 = .ok (.aload_n 0, 1) := by decide +kernel
theorem dX12_past_65 : decode cX12_past 65 = .ok (.getfield 94, 3) := by decide +kernel
theorem dX12_past_68 : decode cX12_past 68 = .ok (.iload_n 1, 1) := by decide +kernel
theorem dX12_past_69 : decode cX12_past 69 = .ok (.iaload, 1) := by decide +kernel
theorem dX12_past_70 : decode cX12_past 70 = .ok (.iconst 1, 1) := by decide +kernel
theorem dX12_past_71 : decode cX12_past 71 = .ok (.iadd, 1) := by decide +kernel
theorem dX12_past_72 : decode cX12_past 72 = .ok (.invokevirtual 500, 3) := by decide +kernel
theorem dX12_past_75 : decode cX12_past 75 = .ok (.iconst 0, 1) := by decide +kernel
theorem dX12_past_76 : decode cX12_past 76 = .ok (.istore 5, 2) := by decide +kernel
theorem dX12_past_78 : decode cX12_past 78 = .ok (.iload 5, 2) := by decide +kernel
theorem dX12_past_80 : decode cX12_past 80 = .ok (.aload_n 0, 1) := by decide +kernel
theorem dX12_past_81 : decode cX12_past 81 = .ok (.getfield 94, 3) := by decide +kernel
theorem dX12_past_84 : decode cX12_past 84 = .ok (.iload_n 1, 1) := by decide +kernel
theorem dX12_past_85 : decode cX12_past 85 = .ok (.iaload, 1) := by decide +kernel
theorem dX12_past_86 : decode cX12_past 86 = .ok (.if_icmp .ge 27, 3) := by decide +kernel
theorem dX12_past_89 : decode cX12_past 89 = .ok (.lload_n 3, 1) := by decide +kernel
theorem dX12_past_90 : decode cX12_past 90 = .ok (.iload 5, 2) := by decide +kernel
theorem dX12_past_92 : decode cX12_past 92 = .ok (.invokestatic 366, 3) := by decide +kernel
theorem dX12_past_95 : decode cX12_past 95 = .ok (.ifCond .eq 12, 3) := by decide +kernel
theorem dX12_past_98 : decode cX12_past 98 = .ok (.aload_n 0, 1) := by decide +kernel
theorem dX12_past_99 : decode cX12_past 99 = .ok (.iconst 0, 1) := by decide +kernel
theorem dX12_past_100 : decode cX12_past 100 = .ok (.iload 5, 2) := by decide +kernel
theorem dX12_past_102 : decode cX12_past 102 = .ok (.iconst 1, 1) := by decide +kernel
theorem dX12_past_103 : decode cX12_past 103 = .ok (.iadd, 1) := by decide +kernel
theorem dX12_past_104 : decode cX12_past 104 = .ok (.invokevirtual 509, 3) := by decide +kernel
theorem dX12_past_107 : decode cX12_past 107 = .ok (.iinc 5 1, 3) := by decide +kernel
theorem dX12_past_110 : decode cX12_past 110 = .ok (.goto (-32), 3) := by decide +kernel
theorem dX12_past_113 : decode cX12_past 113 = .ok (.aload_n 0, 1) := by decide +kernel
theorem dX12_past_114 : decode cX12_past 114 = .ok (.iload_n 1, 1) := by decide +kernel
theorem dX12_past_115 : decode cX12_past 115 = .ok (.iconst 1, 1) := by decide +kernel
theorem dX12_past_116 : decode cX12_past 116 = .ok (.iconst 0, 1) := by decide +kernel
theorem dX12_past_117 : decode cX12_past 117 = .ok (.invokevirtual 696, 3) := by decide +kernel
theorem dX12_past_120 : decode cX12_past 120 = .ok (.aload_n 0, 1) := by decide +kernel
theorem dX12_past_121 : decode cX12_past 121 = .ok (.iload_n 1, 1) := by decide +kernel
theorem dX12_past_122 : decode cX12_past 122 = .ok (.iconst 1, 1) := by decide +kernel
theorem dX12_past_123 : decode cX12_past 123 = .ok (.iconst 0, 1) := by decide +kernel
theorem dX12_past_124 : decode cX12_past 124 = .ok (.invokevirtual 692, 3) := by decide +kernel
theorem dX12_past_127 : decode cX12_past 127 = .ok (.aload_n 0, 1) := by decide +kernel
theorem dX12_past_128 : decode cX12_past 128 = .ok (.aload_n 0, 1) := by decide +kernel
theorem dX12_past_129 : decode cX12_past 129 = .ok (.getfield 121, 3) := by decide +kernel
theorem dX12_past_132 : decode cX12_past 132 = .ok (.iload_n 1, 1) := by decide +kernel
theorem dX12_past_133 : decode cX12_past 133 = .ok (.laload, 1) := by decide +kernel
theorem dX12_past_134 : decode cX12_past 134 = .ok (.iconst 1, 1) := by decide +kernel
theorem dX12_past_135 : decode cX12_past 135 = .ok (.lshl, 1) := by decide +kernel
theorem dX12_past_136 : decode cX12_past 136 = .ok (.putfield 493, 3) := by decide +kernel
theorem dX12_past_139 : decode cX12_past 139 = .ok (.aload_n 0, 1) := by decide +kernel
theorem dX12_past_140 : decode cX12_past 140 = .ok (.invokevirtual 682, 3) := by decide +kernel
theorem dX12_past_143 : decode cX12_past 143 = .ok (.ireturn, 1) := by decide +kernel
theorem dX12_drop_0 : decode cX12_drop 0 = .ok (.aload_n 0, 1) := by decide +kernel
theorem dX12_drop_1 : decode cX12_drop 1 = .ok (.iconst 0, 1) := by decide +kernel
theorem dX12_drop_2 : decode cX12_drop 2 = .ok (.putfield 190, 3) := by decide +kernel
theorem dX12_drop_5 : decode cX12_drop 5 = .ok (.aload_n 0, 1) := by decide +kernel
theorem dX12_drop_6 : decode cX12_drop 6 = .ok (.getfield 441, 3) := by decide +kernel
theorem dX12_drop_9 : decode cX12_drop 9 = .ok (.aload_n 0, 1) := by decide +kernel
theorem dX12_drop_10 : decode cX12_drop 10 = .ok (.getfield 438, 3) := by decide +kernel
theorem dX12_drop_13 : decode cX12_drop 13 = .ok (.if_icmp .ne 9, 3) := by decide +kernel
theorem dX12_drop_16 : decode cX12_drop 16 = .ok (.aload_n 0, 1) := by decide +kernel
theorem dX12_drop_17 : decode cX12_drop 17 = .ok (.iconst 1, 1) := by decide +kernel
theorem dX12_drop_18 : decode cX12_drop 18 = .ok (.invokevirtual 426, 3) := by decide +kernel
theorem dX12_drop_21 : decode cX12_drop 21 = .ok (.ireturn, 1) := by decide +kernel
theorem dX12_drop_22 : decode cX12_drop 22 = .ok (.aload_n 0, 1) := by decide +kernel
theorem dX12_drop_23 : decode cX12_drop 23 = .ok (.dup, 1) := by decide +kernel
theorem dX12_drop_24 : decode cX12_drop 24 = .ok (.getfield 441, 3) := by decide +kernel
theorem dX12_drop_27 : decode cX12_drop 27 = .ok (.iconst 1, 1) := by decide +kernel
theorem dX12_drop_28 : decode cX12_drop 28 = .ok (.isub, 1) := by decide +kernel
theorem dX12_drop_29 : decode cX12_drop 29 = .ok (.putfield 441, 3) := by decide +kernel
theorem dX12_drop_32 : decode cX12_drop 32 = .ok (.aload_n 0, 1) := by decide +kernel
theorem dX12_drop_33 : decode cX12_drop 33 = .ok (.aload_n 0, 1) := by decide +kernel
theorem dX12_drop_34 : decode cX12_drop 34 = .ok (.getfield 441, 3) := by decide +kernel
theorem dX12_drop_37 : decode cX12_drop 37 = .ok (.invokevirtual 196, 3) := by decide +kernel
theorem dX12_drop_40 : decode cX12_drop 40 = .ok (.ireturn, 1) := by decide +kernel
theorem dX12_twin_0 : decode cX12_twin 0 = .ok (.aload_n 0, 1) := by decide +kernel
theorem dX12_twin_1 : decode cX12_twin 1 = .ok (.iconst 0, 1) := by decide +kernel
theorem dX12_twin_2 : decode cX12_twin 2 = .ok (.putfield 190, 3) := by decide +kernel
theorem dX12_twin_5 : decode cX12_twin 5 = .ok (.iconst 0, 1) := by decide +kernel
theorem dX12_twin_6 : decode cX12_twin 6 = .ok (.istore_n 2, 1) := by decide +kernel
theorem dX12_twin_7 : decode cX12_twin 7 = .ok (.aload_n 0, 1) := by decide +kernel
theorem dX12_twin_8 : decode cX12_twin 8 = .ok (.iload_n 1, 1) := by decide +kernel
theorem dX12_twin_9 : decode cX12_twin 9 = .ok (.invokevirtual 561, 3) := by decide +kernel
theorem dX12_twin_12 : decode cX12_twin 12 = .ok (.ifCond .eq 28, 3) := by decide +kernel
theorem dX12_twin_15 : decode cX12_twin 15 = .ok (.iload_n 2, 1) := by decide +kernel
theorem dX12_twin_16 : decode cX12_twin 16 = .ok (.iload_n 1, 1) := by decide +kernel
theorem dX12_twin_17 : decode cX12_twin 17 = .ok (.if_icmp .ge 23, 3) := by decide +kernel
theorem dX12_twin_20 : decode cX12_twin 20 = .ok (.aload_n 0, 1) := by decide +kernel
theorem dX12_twin_21 : decode cX12_twin 21 = .ok (.iload_n 2, 1) := by decide +kernel
theorem dX12_twin_22 : decode cX12_twin 22 = .ok (.iload_n 1, 1) := by decide +kernel
theorem dX12_twin_23 : decode cX12_twin 23 = .ok (.bipush 6, 2) := by decide +kernel
theorem dX12_twin_25 : decode cX12_twin 25 = .ok (.invokevirtual 666, 3) := by decide +kernel
theorem dX12_twin_28 : decode cX12_twin 28 = .ok (.iconst (-1), 1) := by decide +kernel
theorem dX12_twin_29 : decode cX12_twin 29 = .ok (.if_icmp .ne 5, 3) := by decide +kernel
theorem dX12_twin_32 : decode cX12_twin 32 = .ok (.iload_n 2, 1) := by decide +kernel
theorem dX12_twin_33 : decode cX12_twin 33 = .ok (.ireturn, 1) := by decide +kernel
theorem dX12_twin_34 : decode cX12_twin 34 = .ok (.iinc 2 1, 3) := by decide +kernel
theorem dX12_twin_37 : decode cX12_twin 37 = .ok (.goto (-30), 3) := by decide +kernel
theorem dX12_twin_40 : decode cX12_twin 40 = .ok (.aload_n 0, 1) := by decide +kernel
theorem dX12_twin_41 : decode cX12_twin 41 = .ok (.iconst 1, 1) := by decide +kernel
theorem dX12_twin_42 : decode cX12_twin 42 = .ok (.putfield 190, 3) := by decide +kernel
theorem dX12_twin_45 : decode cX12_twin 45 = .ok (.iconst 0, 1) := by decide +kernel
theorem dX12_twin_46 : decode cX12_twin 46 = .ok (.ireturn, 1) := by decide +kernel
theorem dX12_total_0 : decode cX12_total 0 = .ok (.aload_n 0, 1) := by decide +kernel
theorem dX12_total_1 : decode cX12_total 1 = .ok (.iconst 0, 1) := by decide +kernel
theorem dX12_total_2 : decode cX12_total 2 = .ok (.putfield 190, 3) := by decide +kernel
theorem dX12_total_5 : decode cX12_total 5 = .ok (.iload_n 1, 1) := by decide +kernel
theorem dX12_total_6 : decode cX12_total 6 = .ok (.tableswitch 59 0 4 #[34, 39, 44, 49, 54], 34) := by decide +kernel
theorem dX12_total_40 : decode cX12_total 40 = .ok (.aload_n 0, 1) := by decide +kernel
theorem dX12_total_41 : decode cX12_total 41 = .ok (.getfield 432, 3) := by decide +kernel
theorem dX12_total_44 : decode cX12_total 44 = .ok (.ireturn, 1) := by decide +kernel
theorem dX12_total_45 : decode cX12_total 45 = .ok (.aload_n 0, 1) := by decide +kernel
theorem dX12_total_46 : decode cX12_total 46 = .ok (.getfield 438, 3) := by decide +kernel
theorem dX12_total_49 : decode cX12_total 49 = .ok (.ireturn, 1) := by decide +kernel
theorem dX12_total_50 : decode cX12_total 50 = .ok (.aload_n 0, 1) := by decide +kernel
theorem dX12_total_51 : decode cX12_total 51 = .ok (.getfield 441, 3) := by decide +kernel
theorem dX12_total_54 : decode cX12_total 54 = .ok (.ireturn, 1) := by decide +kernel
theorem dX12_total_55 : decode cX12_total 55 = .ok (.aload_n 0, 1) := by decide +kernel
theorem dX12_total_56 : decode cX12_total 56 = .ok (.getfield 626, 3) := by decide +kernel
theorem dX12_total_59 : decode cX12_total 59 = .ok (.ireturn, 1) := by decide +kernel
theorem dX12_total_60 : decode cX12_total 60 = .ok (.aload_n 0, 1) := by decide +kernel
theorem dX12_total_61 : decode cX12_total 61 = .ok (.getfield 423, 3) := by decide +kernel
theorem dX12_total_64 : decode cX12_total 64 = .ok (.ireturn, 1) := by decide +kernel
theorem dX12_total_65 : decode cX12_total 65 = .ok (.iconst (-1), 1) := by decide +kernel
theorem dX12_total_66 : decode cX12_total 66 = .ok (.ireturn, 1) := by decide +kernel
theorem dX12_letter_0 : decode cX12_letter 0 = .ok (.aload_n 0, 1) := by decide +kernel
theorem dX12_letter_1 : decode cX12_letter 1 = .ok (.iconst 0, 1) := by decide +kernel
theorem dX12_letter_2 : decode cX12_letter 2 = .ok (.putfield 190, 3) := by decide +kernel
theorem dX12_letter_5 : decode cX12_letter 5 = .ok (.iload_n 1, 1) := by decide +kernel
theorem dX12_letter_6 : decode cX12_letter 6 = .ok (.ifCond .lt 11, 3) := by decide +kernel
theorem dX12_letter_9 : decode cX12_letter 9 = .ok (.iload_n 1, 1) := by decide +kernel
theorem dX12_letter_10 : decode cX12_letter 10 = .ok (.aload_n 0, 1) := by decide +kernel
theorem dX12_letter_11 : decode cX12_letter 11 = .ok (.getfield 626, 3) := by decide +kernel
theorem dX12_letter_14 : decode cX12_letter 14 = .ok (.if_icmp .lt 9, 3) := by decide +kernel
theorem dX12_letter_17 : decode cX12_letter 17 = .ok (.aload_n 0, 1) := by decide +kernel
theorem dX12_letter_18 : decode cX12_letter 18 = .ok (.iconst 1, 1) := by decide +kernel
theorem dX12_letter_19 : decode cX12_letter 19 = .ok (.invokevirtual 426, 3) := by decide +kernel
theorem dX12_letter_22 : decode cX12_letter 22 = .ok (.ireturn, 1) := by decide +kernel
theorem dX12_letter_23 : decode cX12_letter 23 = .ok (.aload_n 0, 1) := by decide +kernel
theorem dX12_letter_24 : decode cX12_letter 24 = .ok (.aload_n 0, 1) := by decide +kernel
theorem dX12_letter_25 : decode cX12_letter 25 = .ok (.getfield 157, 3) := by decide +kernel
theorem dX12_letter_28 : decode cX12_letter 28 = .ok (.iload_n 1, 1) := by decide +kernel
theorem dX12_letter_29 : decode cX12_letter 29 = .ok (.iaload, 1) := by decide +kernel
theorem dX12_letter_30 : decode cX12_letter 30 = .ok (.invokevirtual 196, 3) := by decide +kernel
theorem dX12_letter_33 : decode cX12_letter 33 = .ok (.ireturn, 1) := by decide +kernel
theorem dX12_trouble_0 : decode cX12_trouble 0 = .ok (.aload_n 0, 1) := by decide +kernel
theorem dX12_trouble_1 : decode cX12_trouble 1 = .ok (.iconst 0, 1) := by decide +kernel
theorem dX12_trouble_2 : decode cX12_trouble 2 = .ok (.putfield 190, 3) := by decide +kernel
theorem dX12_trouble_5 : decode cX12_trouble 5 = .ok (.aload_n 0, 1) := by decide +kernel
theorem dX12_trouble_6 : decode cX12_trouble 6 = .ok (.getfield 193, 3) := by decide +kernel
theorem dX12_trouble_9 : decode cX12_trouble 9 = .ok (.ireturn, 1) := by decide +kernel
