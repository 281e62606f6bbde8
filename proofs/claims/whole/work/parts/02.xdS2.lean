theorem dX7_findSheaves_0 : decode cX7_findSheaves 0 = .ok (.aload_n 0, 1) := by decide +kernel
theorem dX7_findSheaves_1 : decode cX7_findSheaves 1 = .ok (.aload_n 1, 1) := by decide +kernel
theorem dX7_findSheaves_2 : decode cX7_findSheaves 2 = .ok (.getfield 46, 3) := by decide +kernel
theorem dX7_findSheaves_5 : decode cX7_findSheaves 5 = .ok (.putfield 52, 3) := by decide +kernel
theorem dX7_findSheaves_8 : decode cX7_findSheaves 8 = .ok (.aload_n 0, 1) := by decide +kernel
theorem dX7_findSheaves_9 : decode cX7_findSheaves 9 = .ok (.aload_n 1, 1) := by decide +kernel
theorem dX7_findSheaves_10 : decode cX7_findSheaves 10 = .ok (.invokevirtual 53, 3) := by decide +kernel
theorem dX7_findSheaves_13 : decode cX7_findSheaves 13 = .ok (.aload_n 0, 1) := by decide +kernel
theorem dX7_findSheaves_14 : decode cX7_findSheaves 14 = .ok (.iconst 0, 1) := by decide +kernel
theorem dX7_findSheaves_15 : decode cX7_findSheaves 15 = .ok (.putfield 57, 3) := by decide +kernel
theorem dX7_findSheaves_18 : decode cX7_findSheaves 18 = .ok (.aload_n 0, 1) := by decide +kernel
theorem dX7_findSheaves_19 : decode cX7_findSheaves 19 = .ok (.lconst 0, 1) := by decide +kernel
theorem dX7_findSheaves_20 : decode cX7_findSheaves 20 = .ok (.putfield 60, 3) := by decide +kernel
theorem dX7_findSheaves_23 : decode cX7_findSheaves 23 = .ok (.aload_n 0, 1) := by decide +kernel
theorem dX7_findSheaves_24 : decode cX7_findSheaves 24 = .ok (.aload_n 1, 1) := by decide +kernel
theorem dX7_findSheaves_25 : decode cX7_findSheaves 25 = .ok (.aload_n 0, 1) := by decide +kernel
theorem dX7_findSheaves_26 : decode cX7_findSheaves 26 = .ok (.getfield 28, 3) := by decide +kernel
theorem dX7_findSheaves_29 : decode cX7_findSheaves 29 = .ok (.iconst 0, 1) := by decide +kernel
theorem dX7_findSheaves_30 : decode cX7_findSheaves 30 = .ok (.laload, 1) := by decide +kernel
theorem dX7_findSheaves_31 : decode cX7_findSheaves 31 = .ok (.iconst (-1), 1) := by decide +kernel
theorem dX7_findSheaves_32 : decode cX7_findSheaves 32 = .ok (.iconst (-1), 1) := by decide +kernel
theorem dX7_findSheaves_33 : decode cX7_findSheaves 33 = .ok (.invokevirtual 64, 3) := by decide +kernel
theorem dX7_findSheaves_36 : decode cX7_findSheaves 36 = .ok (.pop, 1) := by decide +kernel
theorem dX7_findSheaves_37 : decode cX7_findSheaves 37 = .ok (.iconst 0, 1) := by decide +kernel
theorem dX7_findSheaves_38 : decode cX7_findSheaves 38 = .ok (.istore_n 2, 1) := by decide +kernel
theorem dX7_findSheaves_39 : decode cX7_findSheaves 39 = .ok (.iload_n 2, 1) := by decide +kernel
theorem dX7_findSheaves_40 : decode cX7_findSheaves 40 = .ok (.bipush 40, 2) := by decide +kernel
theorem dX7_findSheaves_42 : decode cX7_findSheaves 42 = .ok (.if_icmp .ge 94, 3) := by decide +kernel
theorem dX7_findSheaves_45 : decode cX7_findSheaves 45 = .ok (.iload_n 2, 1) := by decide +kernel
theorem dX7_findSheaves_46 : decode cX7_findSheaves 46 = .ok (.aload_n 0, 1) := by decide +kernel
theorem dX7_findSheaves_47 : decode cX7_findSheaves 47 = .ok (.getfield 57, 3) := by decide +kernel
theorem dX7_findSheaves_50 : decode cX7_findSheaves 50 = .ok (.if_icmp .ge 86, 3) := by decide +kernel
theorem dX7_findSheaves_53 : decode cX7_findSheaves 53 = .ok (.aload_n 0, 1) := by decide +kernel
theorem dX7_findSheaves_54 : decode cX7_findSheaves 54 = .ok (.aload_n 1, 1) := by decide +kernel
theorem dX7_findSheaves_55 : decode cX7_findSheaves 55 = .ok (.iload_n 2, 1) := by decide +kernel
theorem dX7_findSheaves_56 : decode cX7_findSheaves 56 = .ok (.invokevirtual 68, 3) := by decide +kernel
theorem dX7_findSheaves_59 : decode cX7_findSheaves 59 = .ok (.iconst 0, 1) := by decide +kernel
theorem dX7_findSheaves_60 : decode cX7_findSheaves 60 = .ok (.istore_n 3, 1) := by decide +kernel
theorem dX7_findSheaves_61 : decode cX7_findSheaves 61 = .ok (.iload_n 3, 1) := by decide +kernel
theorem dX7_findSheaves_62 : decode cX7_findSheaves 62 = .ok (.aload_n 0, 1) := by decide +kernel
theorem dX7_findSheaves_63 : decode cX7_findSheaves 63 = .ok (.getfield 52, 3) := by decide +kernel
theorem dX7_findSheaves_66 : decode cX7_findSheaves 66 = .ok (.if_icmp .ge 64, 3) := by decide +kernel
theorem dX7_findSheaves_69 : decode cX7_findSheaves 69 = .ok (.aload_n 0, 1) := by decide +kernel
theorem dX7_findSheaves_70 : decode cX7_findSheaves 70 = .ok (.aload_n 0, 1) := by decide +kernel
theorem dX7_findSheaves_71 : decode cX7_findSheaves 71 = .ok (.getfield 31, 3) := by decide +kernel
theorem dX7_findSheaves_74 : decode cX7_findSheaves 74 = .ok (.iload_n 3, 1) := by decide +kernel
theorem dX7_findSheaves_75 : decode cX7_findSheaves 75 = .ok (.laload, 1) := by decide +kernel
theorem dX7_findSheaves_76 : decode cX7_findSheaves 76 = .ok (.invokevirtual 72, 3) := by decide +kernel
theorem dX7_findSheaves_79 : decode cX7_findSheaves 79 = .ok (.istore 4, 2) := by decide +kernel
theorem dX7_findSheaves_81 : decode cX7_findSheaves 81 = .ok (.iload 4, 2) := by decide +kernel
theorem dX7_findSheaves_83 : decode cX7_findSheaves 83 = .ok (.iconst (-1), 1) := by decide +kernel
theorem dX7_findSheaves_84 : decode cX7_findSheaves 84 = .ok (.if_icmp .ne 18, 3) := by decide +kernel
theorem dX7_findSheaves_87 : decode cX7_findSheaves 87 = .ok (.aload_n 0, 1) := by decide +kernel
theorem dX7_findSheaves_88 : decode cX7_findSheaves 88 = .ok (.aload_n 1, 1) := by decide +kernel
theorem dX7_findSheaves_89 : decode cX7_findSheaves 89 = .ok (.aload_n 0, 1) := by decide +kernel
theorem dX7_findSheaves_90 : decode cX7_findSheaves 90 = .ok (.getfield 31, 3) := by decide +kernel
theorem dX7_findSheaves_93 : decode cX7_findSheaves 93 = .ok (.iload_n 3, 1) := by decide +kernel
theorem dX7_findSheaves_94 : decode cX7_findSheaves 94 = .ok (.laload, 1) := by decide +kernel
theorem dX7_findSheaves_95 : decode cX7_findSheaves 95 = .ok (.iload_n 2, 1) := by decide +kernel
theorem dX7_findSheaves_96 : decode cX7_findSheaves 96 = .ok (.iload_n 3, 1) := by decide +kernel
theorem dX7_findSheaves_97 : decode cX7_findSheaves 97 = .ok (.invokevirtual 64, 3) := by decide +kernel
theorem dX7_findSheaves_100 : decode cX7_findSheaves 100 = .ok (.istore 4, 2) := by decide +kernel
theorem dX7_findSheaves_102 : decode cX7_findSheaves 102 = .ok (.iload 4, 2) := by decide +kernel
theorem dX7_findSheaves_104 : decode cX7_findSheaves 104 = .ok (.iconst (-1), 1) := by decide +kernel
theorem dX7_findSheaves_105 : decode cX7_findSheaves 105 = .ok (.if_icmp .ne 5, 3) := by decide +kernel
theorem dX7_findSheaves_108 : decode cX7_findSheaves 108 = .ok (.iconst 0, 1) := by decide +kernel
theorem dX7_findSheaves_109 : decode cX7_findSheaves 109 = .ok (.ireturn, 1) := by decide +kernel
theorem dX7_findSheaves_110 : decode cX7_findSheaves 110 = .ok (.aload_n 0, 1) := by decide +kernel
theorem dX7_findSheaves_111 : decode cX7_findSheaves 111 = .ok (.getfield 15, 3) := by decide +kernel
theorem dX7_findSheaves_114 : decode cX7_findSheaves 114 = .ok (.iload_n 2, 1) := by decide +kernel
theorem dX7_findSheaves_115 : decode cX7_findSheaves 115 = .ok (.sipush 128, 3) := by decide +kernel
theorem dX7_findSheaves_118 : decode cX7_findSheaves 118 = .ok (.imul, 1) := by decide +kernel
theorem dX7_findSheaves_119 : decode cX7_findSheaves 119 = .ok (.iload_n 3, 1) := by decide +kernel
theorem dX7_findSheaves_120 : decode cX7_findSheaves 120 = .ok (.iadd, 1) := by decide +kernel
theorem dX7_findSheaves_121 : decode cX7_findSheaves 121 = .ok (.iload 4, 2) := by decide +kernel
theorem dX7_findSheaves_123 : decode cX7_findSheaves 123 = .ok (.iastore, 1) := by decide +kernel
theorem dX7_findSheaves_124 : decode cX7_findSheaves 124 = .ok (.iinc 3 1, 3) := by decide +kernel
theorem dX7_findSheaves_127 : decode cX7_findSheaves 127 = .ok (.goto (-66), 3) := by decide +kernel
theorem dX7_findSheaves_130 : decode cX7_findSheaves 130 = .ok (.iinc 2 1, 3) := by decide +kernel
theorem dX7_findSheaves_133 : decode cX7_findSheaves 133 = .ok (.goto (-94), 3) := by decide +kernel
theorem dX7_findSheaves_136 : decode cX7_findSheaves 136 = .ok (.iconst 1, 1) := by decide +kernel
theorem dX7_findSheaves_137 : decode cX7_findSheaves 137 = .ok (.ireturn, 1) := by decide +kernel
theorem dX7_closeFrees_0 : decode cX7_closeFrees 0 = .ok (.iconst 0, 1) := by decide +kernel
theorem dX7_closeFrees_1 : decode cX7_closeFrees 1 = .ok (.istore_n 2, 1) := by decide +kernel
theorem dX7_closeFrees_2 : decode cX7_closeFrees 2 = .ok (.iload_n 2, 1) := by decide +kernel
theorem dX7_closeFrees_3 : decode cX7_closeFrees 3 = .ok (.aload_n 1, 1) := by decide +kernel
theorem dX7_closeFrees_4 : decode cX7_closeFrees 4 = .ok (.getfield 76, 3) := by decide +kernel
theorem dX7_closeFrees_7 : decode cX7_closeFrees 7 = .ok (.if_icmp .ge 18, 3) := by decide +kernel
theorem dX7_closeFrees_10 : decode cX7_closeFrees 10 = .ok (.aload_n 0, 1) := by decide +kernel
theorem dX7_closeFrees_11 : decode cX7_closeFrees 11 = .ok (.getfield 28, 3) := by decide +kernel
theorem dX7_closeFrees_14 : decode cX7_closeFrees 14 = .ok (.iload_n 2, 1) := by decide +kernel
theorem dX7_closeFrees_15 : decode cX7_closeFrees 15 = .ok (.lconst 1, 1) := by decide +kernel
theorem dX7_closeFrees_16 : decode cX7_closeFrees 16 = .ok (.iload_n 2, 1) := by decide +kernel
theorem dX7_closeFrees_17 : decode cX7_closeFrees 17 = .ok (.lshl, 1) := by decide +kernel
theorem dX7_closeFrees_18 : decode cX7_closeFrees 18 = .ok (.lastore, 1) := by decide +kernel
theorem dX7_closeFrees_19 : decode cX7_closeFrees 19 = .ok (.iinc 2 1, 3) := by decide +kernel
theorem dX7_closeFrees_22 : decode cX7_closeFrees 22 = .ok (.goto (-20), 3) := by decide +kernel
theorem dX7_closeFrees_25 : decode cX7_closeFrees 25 = .ok (.iconst 0, 1) := by decide +kernel
theorem dX7_closeFrees_26 : decode cX7_closeFrees 26 = .ok (.istore_n 2, 1) := by decide +kernel
theorem dX7_closeFrees_27 : decode cX7_closeFrees 27 = .ok (.iload_n 2, 1) := by decide +kernel
theorem dX7_closeFrees_28 : decode cX7_closeFrees 28 = .ok (.aload_n 1, 1) := by decide +kernel
theorem dX7_closeFrees_29 : decode cX7_closeFrees 29 = .ok (.getfield 79, 3) := by decide +kernel
theorem dX7_closeFrees_32 : decode cX7_closeFrees 32 = .ok (.if_icmp .ge 71, 3) := by decide +kernel
theorem dX7_closeFrees_35 : decode cX7_closeFrees 35 = .ok (.aload_n 0, 1) := by decide +kernel
theorem dX7_closeFrees_36 : decode cX7_closeFrees 36 = .ok (.getfield 28, 3) := by decide +kernel
theorem dX7_closeFrees_39 : decode cX7_closeFrees 39 = .ok (.aload_n 1, 1) := by decide +kernel
theorem dX7_closeFrees_40 : decode cX7_closeFrees 40 = .ok (.getfield 82, 3) := by decide +kernel
theorem dX7_closeFrees_43 : decode cX7_closeFrees 43 = .ok (.iload_n 2, 1) := by decide +kernel
theorem dX7_closeFrees_44 : decode cX7_closeFrees 44 = .ok (.iaload, 1) := by decide +kernel
theorem dX7_closeFrees_45 : decode cX7_closeFrees 45 = .ok (.laload, 1) := by decide +kernel
theorem dX7_closeFrees_46 : decode cX7_closeFrees 46 = .ok (.lstore_n 3, 1) := by decide +kernel
theorem dX7_closeFrees_47 : decode cX7_closeFrees 47 = .ok (.iconst 0, 1) := by decide +kernel
theorem dX7_closeFrees_48 : decode cX7_closeFrees 48 = .ok (.istore 5, 2) := by decide +kernel
theorem dX7_closeFrees_50 : decode cX7_closeFrees 50 = .ok (.iload 5, 2) := by decide +kernel
theorem dX7_closeFrees_52 : decode cX7_closeFrees 52 = .ok (.aload_n 1, 1) := by decide +kernel
theorem dX7_closeFrees_53 : decode cX7_closeFrees 53 = .ok (.getfield 76, 3) := by decide +kernel
theorem dX7_closeFrees_56 : decode cX7_closeFrees 56 = .ok (.if_icmp .ge 41, 3) := by decide +kernel
theorem dX7_closeFrees_59 : decode cX7_closeFrees 59 = .ok (.aload_n 0, 1) := by decide +kernel
theorem dX7_closeFrees_60 : decode cX7_closeFrees 60 = .ok (.getfield 28, 3) := by decide +kernel
theorem dX7_closeFrees_63 : decode cX7_closeFrees 63 = .ok (.iload 5, 2) := by decide +kernel
theorem dX7_closeFrees_65 : decode cX7_closeFrees 65 = .ok (.laload, 1) := by decide +kernel
theorem dX7_closeFrees_66 : decode cX7_closeFrees 66 = .ok (.aload_n 1, 1) := by decide +kernel
theorem dX7_closeFrees_67 : decode cX7_closeFrees 67 = .ok (.getfield 85, 3) := by decide +kernel
theorem dX7_closeFrees_70 : decode cX7_closeFrees 70 = .ok (.iload_n 2, 1) := by decide +kernel
theorem dX7_closeFrees_71 : decode cX7_closeFrees 71 = .ok (.iaload, 1) := by decide +kernel
theorem dX7_closeFrees_72 : decode cX7_closeFrees 72 = .ok (.lushr, 1) := by decide +kernel
theorem dX7_closeFrees_73 : decode cX7_closeFrees 73 = .ok (.lconst 1, 1) := by decide +kernel
theorem dX7_closeFrees_74 : decode cX7_closeFrees 74 = .ok (.land, 1) := by decide +kernel
theorem dX7_closeFrees_75 : decode cX7_closeFrees 75 = .ok (.lconst 1, 1) := by decide +kernel
theorem dX7_closeFrees_76 : decode cX7_closeFrees 76 = .ok (.lcmp, 1) := by decide +kernel
theorem dX7_closeFrees_77 : decode cX7_closeFrees 77 = .ok (.ifCond .ne 14, 3) := by decide +kernel
theorem dX7_closeFrees_80 : decode cX7_closeFrees 80 = .ok (.aload_n 0, 1) := by decide +kernel
theorem dX7_closeFrees_81 : decode cX7_closeFrees 81 = .ok (.getfield 28, 3) := by decide +kernel
theorem dX7_closeFrees_84 : decode cX7_closeFrees 84 = .ok (.iload 5, 2) := by decide +kernel
theorem dX7_closeFrees_86 : decode cX7_closeFrees 86 = .ok (.dup2, 1) := by decide +kernel
theorem dX7_closeFrees_87 : decode cX7_closeFrees 87 = .ok (.laload, 1) := by decide +kernel
theorem dX7_closeFrees_88 : decode cX7_closeFrees 88 = .ok (.lload_n 3, 1) := by decide +kernel
theorem dX7_closeFrees_89 : decode cX7_closeFrees 89 = .ok (.lor, 1) := by decide +kernel
theorem dX7_closeFrees_90 : decode cX7_closeFrees 90 = .ok (.lastore, 1) := by decide +kernel
theorem dX7_closeFrees_91 : decode cX7_closeFrees 91 = .ok (.iinc 5 1, 3) := by decide +kernel
theorem dX7_closeFrees_94 : decode cX7_closeFrees 94 = .ok (.goto (-44), 3) := by decide +kernel
theorem dX7_closeFrees_97 : decode cX7_closeFrees 97 = .ok (.iinc 2 1, 3) := by decide +kernel
theorem dX7_closeFrees_100 : decode cX7_closeFrees 100 = .ok (.goto (-73), 3) := by decide +kernel
theorem dX7_closeFrees_103 : decode cX7_closeFrees 103 = .ok (.return_, 1) := by decide +kernel
theorem dX7_findTargets_0 : decode cX7_findTargets 0 = .ok (.aload_n 0, 1) := by decide +kernel
theorem dX7_findTargets_1 : decode cX7_findTargets 1 = .ok (.getfield 31, 3) := by decide +kernel
theorem dX7_findTargets_4 : decode cX7_findTargets 4 = .ok (.lconst 0, 1) := by decide +kernel
theorem dX7_findTargets_5 : decode cX7_findTargets 5 = .ok (.invokestatic 88, 3) := by decide +kernel
theorem dX7_findTargets_8 : decode cX7_findTargets 8 = .ok (.iconst 0, 1) := by decide +kernel
theorem dX7_findTargets_9 : decode cX7_findTargets 9 = .ok (.istore_n 3, 1) := by decide +kernel
theorem dX7_findTargets_10 : decode cX7_findTargets 10 = .ok (.iload_n 3, 1) := by decide +kernel
theorem dX7_findTargets_11 : decode cX7_findTargets 11 = .ok (.aload_n 1, 1) := by decide +kernel
theorem dX7_findTargets_12 : decode cX7_findTargets 12 = .ok (.getfield 94, 3) := by decide +kernel
theorem dX7_findTargets_15 : decode cX7_findTargets 15 = .ok (.if_icmp .ge 85, 3) := by decide +kernel
theorem dX7_findTargets_18 : decode cX7_findTargets 18 = .ok (.aload_n 0, 1) := by decide +kernel
theorem dX7_findTargets_19 : decode cX7_findTargets 19 = .ok (.getfield 9, 3) := by decide +kernel
theorem dX7_findTargets_22 : decode cX7_findTargets 22 = .ok (.iload_n 2, 1) := by decide +kernel
theorem dX7_findTargets_23 : decode cX7_findTargets 23 = .ok (.laload, 1) := by decide +kernel
theorem dX7_findTargets_24 : decode cX7_findTargets 24 = .ok (.aload_n 1, 1) := by decide +kernel
theorem dX7_findTargets_25 : decode cX7_findTargets 25 = .ok (.getfield 97, 3) := by decide +kernel
theorem dX7_findTargets_28 : decode cX7_findTargets 28 = .ok (.iload_n 3, 1) := by decide +kernel
theorem dX7_findTargets_29 : decode cX7_findTargets 29 = .ok (.iaload, 1) := by decide +kernel
theorem dX7_findTargets_30 : decode cX7_findTargets 30 = .ok (.lushr, 1) := by decide +kernel
theorem dX7_findTargets_31 : decode cX7_findTargets 31 = .ok (.lconst 1, 1) := by decide +kernel
theorem dX7_findTargets_32 : decode cX7_findTargets 32 = .ok (.land, 1) := by decide +kernel
theorem dX7_findTargets_33 : decode cX7_findTargets 33 = .ok (.lconst 0, 1) := by decide +kernel
theorem dX7_findTargets_34 : decode cX7_findTargets 34 = .ok (.lcmp, 1) := by decide +kernel
theorem dX7_findTargets_35 : decode cX7_findTargets 35 = .ok (.ifCond .ne 6, 3) := by decide +kernel
theorem dX7_findTargets_38 : decode cX7_findTargets 38 = .ok (.goto 56, 3) := by decide +kernel
theorem dX7_findTargets_41 : decode cX7_findTargets 41 = .ok (.aload_n 0, 1) := by decide +kernel
theorem dX7_findTargets_42 : decode cX7_findTargets 42 = .ok (.getfield 28, 3) := by decide +kernel
theorem dX7_findTargets_45 : decode cX7_findTargets 45 = .ok (.aload_n 1, 1) := by decide +kernel
theorem dX7_findTargets_46 : decode cX7_findTargets 46 = .ok (.getfield 100, 3) := by decide +kernel
theorem dX7_findTargets_49 : decode cX7_findTargets 49 = .ok (.iload_n 3, 1) := by decide +kernel
theorem dX7_findTargets_50 : decode cX7_findTargets 50 = .ok (.iaload, 1) := by decide +kernel
theorem dX7_findTargets_51 : decode cX7_findTargets 51 = .ok (.laload, 1) := by decide +kernel
theorem dX7_findTargets_52 : decode cX7_findTargets 52 = .ok (.lstore 4, 2) := by decide +kernel
theorem dX7_findTargets_54 : decode cX7_findTargets 54 = .ok (.iconst 0, 1) := by decide +kernel
theorem dX7_findTargets_55 : decode cX7_findTargets 55 = .ok (.istore 6, 2) := by decide +kernel
theorem dX7_findTargets_57 : decode cX7_findTargets 57 = .ok (.iload 6, 2) := by decide +kernel
theorem dX7_findTargets_59 : decode cX7_findTargets 59 = .ok (.aload_n 0, 1) := by decide +kernel
theorem dX7_findTargets_60 : decode cX7_findTargets 60 = .ok (.getfield 52, 3) := by decide +kernel
theorem dX7_findTargets_63 : decode cX7_findTargets 63 = .ok (.if_icmp .ge 31, 3) := by decide +kernel
theorem dX7_findTargets_66 : decode cX7_findTargets 66 = .ok (.aload_n 1, 1) := by decide +kernel
theorem dX7_findTargets_67 : decode cX7_findTargets 67 = .ok (.iload_n 3, 1) := by decide +kernel
theorem dX7_findTargets_68 : decode cX7_findTargets 68 = .ok (.iload 6, 2) := by decide +kernel
theorem dX7_findTargets_70 : decode cX7_findTargets 70 = .ok (.invokevirtual 103, 3) := by decide +kernel
theorem dX7_findTargets_73 : decode cX7_findTargets 73 = .ok (.ifCond .eq 15, 3) := by decide +kernel
theorem dX7_findTargets_76 : decode cX7_findTargets 76 = .ok (.aload_n 0, 1) := by decide +kernel
theorem dX7_findTargets_77 : decode cX7_findTargets 77 = .ok (.getfield 31, 3) := by decide +kernel
theorem dX7_findTargets_80 : decode cX7_findTargets 80 = .ok (.iload 6, 2) := by decide +kernel
theorem dX7_findTargets_82 : decode cX7_findTargets 82 = .ok (.dup2, 1) := by decide +kernel
theorem dX7_findTargets_83 : decode cX7_findTargets 83 = .ok (.laload, 1) := by decide +kernel
theorem dX7_findTargets_84 : decode cX7_findTargets 84 = .ok (.lload 4, 2) := by decide +kernel
theorem dX7_findTargets_86 : decode cX7_findTargets 86 = .ok (.lor, 1) := by decide +kernel
theorem dX7_findTargets_87 : decode cX7_findTargets 87 = .ok (.lastore, 1) := by decide +kernel
theorem dX7_findTargets_88 : decode cX7_findTargets 88 = .ok (.iinc 6 1, 3) := by decide +kernel
theorem dX7_findTargets_91 : decode cX7_findTargets 91 = .ok (.goto (-34), 3) := by decide +kernel
theorem dX7_findTargets_94 : decode cX7_findTargets 94 = .ok (.iinc 3 1, 3) := by decide +kernel
theorem dX7_findTargets_97 : decode cX7_findTargets 97 = .ok (.goto (-87), 3) := by decide +kernel
theorem dX7_findTargets_100 : decode cX7_findTargets 100 = .ok (.return_, 1) := by decide +kernel
theorem dX7_sheafWith_0 : decode cX7_sheafWith 0 = .ok (.iconst 0, 1) := by decide +kernel
theorem dX7_sheafWith_1 : decode cX7_sheafWith 1 = .ok (.istore_n 3, 1) := by decide +kernel
theorem dX7_sheafWith_2 : decode cX7_sheafWith 2 = .ok (.iload_n 3, 1) := by decide +kernel
theorem dX7_sheafWith_3 : decode cX7_sheafWith 3 = .ok (.aload_n 0, 1) := by decide +kernel
theorem dX7_sheafWith_4 : decode cX7_sheafWith 4 = .ok (.getfield 57, 3) := by decide +kernel
theorem dX7_sheafWith_7 : decode cX7_sheafWith 7 = .ok (.if_icmp .ge 22, 3) := by decide +kernel
theorem dX7_sheafWith_10 : decode cX7_sheafWith 10 = .ok (.aload_n 0, 1) := by decide +kernel
theorem dX7_sheafWith_11 : decode cX7_sheafWith 11 = .ok (.getfield 9, 3) := by decide +kernel
theorem dX7_sheafWith_14 : decode cX7_sheafWith 14 = .ok (.iload_n 3, 1) := by decide +kernel
theorem dX7_sheafWith_15 : decode cX7_sheafWith 15 = .ok (.laload, 1) := by decide +kernel
theorem dX7_sheafWith_16 : decode cX7_sheafWith 16 = .ok (.lload_n 1, 1) := by decide +kernel
theorem dX7_sheafWith_17 : decode cX7_sheafWith 17 = .ok (.lcmp, 1) := by decide +kernel
theorem dX7_sheafWith_18 : decode cX7_sheafWith 18 = .ok (.ifCond .ne 5, 3) := by decide +kernel
theorem dX7_sheafWith_21 : decode cX7_sheafWith 21 = .ok (.iload_n 3, 1) := by decide +kernel
theorem dX7_sheafWith_22 : decode cX7_sheafWith 22 = .ok (.ireturn, 1) := by decide +kernel
theorem dX7_sheafWith_23 : decode cX7_sheafWith 23 = .ok (.iinc 3 1, 3) := by decide +kernel
theorem dX7_sheafWith_26 : decode cX7_sheafWith 26 = .ok (.goto (-24), 3) := by decide +kernel
theorem dX7_sheafWith_29 : decode cX7_sheafWith 29 = .ok (.iconst (-1), 1) := by decide +kernel
theorem dX7_sheafWith_30 : decode cX7_sheafWith 30 = .ok (.ireturn, 1) := by decide +kernel
theorem dX7_addSheaf_0 : decode cX7_addSheaf 0 = .ok (.aload_n 0, 1) := by decide +kernel
theorem dX7_addSheaf_1 : decode cX7_addSheaf 1 = .ok (.getfield 57, 3) := by decide +kernel
theorem dX7_addSheaf_4 : decode cX7_addSheaf 4 = .ok (.bipush 40, 2) := by decide +kernel
theorem dX7_addSheaf_6 : decode cX7_addSheaf 6 = .ok (.if_icmp .lt 5, 3) := by decide +kernel
theorem dX7_addSheaf_9 : decode cX7_addSheaf 9 = .ok (.iconst (-1), 1) := by decide +kernel
theorem dX7_addSheaf_10 : decode cX7_addSheaf 10 = .ok (.ireturn, 1) := by decide +kernel
theorem dX7_addSheaf_11 : decode cX7_addSheaf 11 = .ok (.aload_n 0, 1) := by decide +kernel
theorem dX7_addSheaf_12 : decode cX7_addSheaf 12 = .ok (.getfield 57, 3) := by decide +kernel
theorem dX7_addSheaf_15 : decode cX7_addSheaf 15 = .ok (.istore 6, 2) := by decide +kernel
theorem dX7_addSheaf_17 : decode cX7_addSheaf 17 = .ok (.aload_n 0, 1) := by decide +kernel
theorem dX7_addSheaf_18 : decode cX7_addSheaf 18 = .ok (.dup, 1) := by decide +kernel
theorem dX7_addSheaf_19 : decode cX7_addSheaf 19 = .ok (.getfield 57, 3) := by decide +kernel
theorem dX7_addSheaf_22 : decode cX7_addSheaf 22 = .ok (.iconst 1, 1) := by decide +kernel
theorem dX7_addSheaf_23 : decode cX7_addSheaf 23 = .ok (.iadd, 1) := by decide +kernel
theorem dX7_addSheaf_24 : decode cX7_addSheaf 24 = .ok (.putfield 57, 3) := by decide +kernel
theorem dX7_addSheaf_27 : decode cX7_addSheaf 27 = .ok (.aload_n 0, 1) := by decide +kernel
theorem dX7_addSheaf_28 : decode cX7_addSheaf 28 = .ok (.getfield 9, 3) := by decide +kernel
theorem dX7_addSheaf_31 : decode cX7_addSheaf 31 = .ok (.iload 6, 2) := by decide +kernel
theorem dX7_addSheaf_33 : decode cX7_addSheaf 33 = .ok (.lload_n 2, 1) := by decide +kernel
theorem dX7_addSheaf_34 : decode cX7_addSheaf 34 = .ok (.lastore, 1) := by decide +kernel
theorem dX7_addSheaf_35 : decode cX7_addSheaf 35 = .ok (.aload_n 0, 1) := by decide +kernel
theorem dX7_addSheaf_36 : decode cX7_addSheaf 36 = .ok (.getfield 19, 3) := by decide +kernel
theorem dX7_addSheaf_39 : decode cX7_addSheaf 39 = .ok (.iload 6, 2) := by decide +kernel
theorem dX7_addSheaf_41 : decode cX7_addSheaf 41 = .ok (.iload 4, 2) := by decide +kernel
theorem dX7_addSheaf_43 : decode cX7_addSheaf 43 = .ok (.iastore, 1) := by decide +kernel
theorem dX7_addSheaf_44 : decode cX7_addSheaf 44 = .ok (.aload_n 0, 1) := by decide +kernel
theorem dX7_addSheaf_45 : decode cX7_addSheaf 45 = .ok (.getfield 22, 3) := by decide +kernel
theorem dX7_addSheaf_48 : decode cX7_addSheaf 48 = .ok (.iload 6, 2) := by decide +kernel
theorem dX7_addSheaf_50 : decode cX7_addSheaf 50 = .ok (.iload 5, 2) := by decide +kernel
theorem dX7_addSheaf_52 : decode cX7_addSheaf 52 = .ok (.iastore, 1) := by decide +kernel
theorem dX7_addSheaf_53 : decode cX7_addSheaf 53 = .ok (.aload_n 0, 1) := by decide +kernel
theorem dX7_addSheaf_54 : decode cX7_addSheaf 54 = .ok (.getfield 25, 3) := by decide +kernel
theorem dX7_addSheaf_57 : decode cX7_addSheaf 57 = .ok (.iload 6, 2) := by decide +kernel
theorem dX7_addSheaf_59 : decode cX7_addSheaf 59 = .ok (.iload 4, 2) := by decide +kernel
theorem dX7_addSheaf_61 : decode cX7_addSheaf 61 = .ok (.ifCond .ge 7, 3) := by decide +kernel
theorem dX7_addSheaf_64 : decode cX7_addSheaf 64 = .ok (.iconst 0, 1) := by decide +kernel
theorem dX7_addSheaf_65 : decode cX7_addSheaf 65 = .ok (.goto 12, 3) := by decide +kernel
theorem dX7_addSheaf_68 : decode cX7_addSheaf 68 = .ok (.aload_n 0, 1) := by decide +kernel
theorem dX7_addSheaf_69 : decode cX7_addSheaf 69 = .ok (.getfield 25, 3) := by decide +kernel
theorem dX7_addSheaf_72 : decode cX7_addSheaf 72 = .ok (.iload 4, 2) := by decide +kernel
theorem dX7_addSheaf_74 : decode cX7_addSheaf 74 = .ok (.iaload, 1) := by decide +kernel
theorem dX7_addSheaf_75 : decode cX7_addSheaf 75 = .ok (.iconst 1, 1) := by decide +kernel
theorem dX7_addSheaf_76 : decode cX7_addSheaf 76 = .ok (.iadd, 1) := by decide +kernel
theorem dX7_addSheaf_77 : decode cX7_addSheaf 77 = .ok (.iastore, 1) := by decide +kernel
theorem dX7_addSheaf_78 : decode cX7_addSheaf 78 = .ok (.lload_n 2, 1) := by decide +kernel
theorem dX7_addSheaf_79 : decode cX7_addSheaf 79 = .ok (.aload_n 1, 1) := by decide +kernel
theorem dX7_addSheaf_80 : decode cX7_addSheaf 80 = .ok (.getfield 107, 3) := by decide +kernel
theorem dX7_addSheaf_83 : decode cX7_addSheaf 83 = .ok (.land, 1) := by decide +kernel
theorem dX7_addSheaf_84 : decode cX7_addSheaf 84 = .ok (.lconst 0, 1) := by decide +kernel
theorem dX7_addSheaf_85 : decode cX7_addSheaf 85 = .ok (.lcmp, 1) := by decide +kernel
theorem dX7_addSheaf_86 : decode cX7_addSheaf 86 = .ok (.ifCond .eq 16, 3) := by decide +kernel
theorem dX7_addSheaf_89 : decode cX7_addSheaf 89 = .ok (.aload_n 0, 1) := by decide +kernel
theorem dX7_addSheaf_90 : decode cX7_addSheaf 90 = .ok (.dup, 1) := by decide +kernel
theorem dX7_addSheaf_91 : decode cX7_addSheaf 91 = .ok (.getfield 60, 3) := by decide +kernel
theorem dX7_addSheaf_94 : decode cX7_addSheaf 94 = .ok (.lconst 1, 1) := by decide +kernel
theorem dX7_addSheaf_95 : decode cX7_addSheaf 95 = .ok (.iload 6, 2) := by decide +kernel
theorem dX7_addSheaf_97 : decode cX7_addSheaf 97 = .ok (.lshl, 1) := by decide +kernel
theorem dX7_addSheaf_98 : decode cX7_addSheaf 98 = .ok (.lor, 1) := by decide +kernel
theorem dX7_addSheaf_99 : decode cX7_addSheaf 99 = .ok (.putfield 60, 3) := by decide +kernel
theorem dX7_addSheaf_102 : decode cX7_addSheaf 102 = .ok (.iload 6, 2) := by decide +kernel
theorem dX7_addSheaf_104 : decode cX7_addSheaf 104 = .ok (.ireturn, 1) := by decide +kernel
theorem dX7_findClasses_0 : decode cX7_findClasses 0 = .ok (.aload_n 0, 1) := by decide +kernel
theorem dX7_findClasses_1 : decode cX7_findClasses 1 = .ok (.getfield 40, 3) := by decide +kernel
theorem dX7_findClasses_4 : decode cX7_findClasses 4 = .ok (.iconst (-1), 1) := by decide +kernel
theorem dX7_findClasses_5 : decode cX7_findClasses 5 = .ok (.invokestatic 110, 3) := by decide +kernel
theorem dX7_findClasses_8 : decode cX7_findClasses 8 = .ok (.aload_n 0, 1) := by decide +kernel
theorem dX7_findClasses_9 : decode cX7_findClasses 9 = .ok (.iconst 1, 1) := by decide +kernel
theorem dX7_findClasses_10 : decode cX7_findClasses 10 = .ok (.putfield 113, 3) := by decide +kernel
theorem dX7_findClasses_13 : decode cX7_findClasses 13 = .ok (.aload_n 0, 1) := by decide +kernel
theorem dX7_findClasses_14 : decode cX7_findClasses 14 = .ok (.iconst 0, 1) := by decide +kernel
theorem dX7_findClasses_15 : decode cX7_findClasses 15 = .ok (.putfield 116, 3) := by decide +kernel
theorem dX7_findClasses_18 : decode cX7_findClasses 18 = .ok (.iconst 1, 1) := by decide +kernel
theorem dX7_findClasses_19 : decode cX7_findClasses 19 = .ok (.istore_n 1, 1) := by decide +kernel
theorem dX7_findClasses_20 : decode cX7_findClasses 20 = .ok (.iconst 0, 1) := by decide +kernel
theorem dX7_findClasses_21 : decode cX7_findClasses 21 = .ok (.istore_n 2, 1) := by decide +kernel
theorem dX7_findClasses_22 : decode cX7_findClasses 22 = .ok (.iload_n 1, 1) := by decide +kernel
theorem dX7_findClasses_23 : decode cX7_findClasses 23 = .ok (.ifCond .eq 68, 3) := by decide +kernel
theorem dX7_findClasses_26 : decode cX7_findClasses 26 = .ok (.iload_n 2, 1) := by decide +kernel
theorem dX7_findClasses_27 : decode cX7_findClasses 27 = .ok (.bipush 40, 2) := by decide +kernel
theorem dX7_findClasses_29 : decode cX7_findClasses 29 = .ok (.if_icmp .gt 62, 3) := by decide +kernel
theorem dX7_findClasses_32 : decode cX7_findClasses 32 = .ok (.aload_n 0, 1) := by decide +kernel
theorem dX7_findClasses_33 : decode cX7_findClasses 33 = .ok (.getfield 113, 3) := by decide +kernel
theorem dX7_findClasses_36 : decode cX7_findClasses 36 = .ok (.istore_n 3, 1) := by decide +kernel
theorem dX7_findClasses_37 : decode cX7_findClasses 37 = .ok (.aload_n 0, 1) := by decide +kernel
theorem dX7_findClasses_38 : decode cX7_findClasses 38 = .ok (.getfield 34, 3) := by decide +kernel
theorem dX7_findClasses_41 : decode cX7_findClasses 41 = .ok (.iconst 0, 1) := by decide +kernel
theorem dX7_findClasses_42 : decode cX7_findClasses 42 = .ok (.aload_n 0, 1) := by decide +kernel
theorem dX7_findClasses_43 : decode cX7_findClasses 43 = .ok (.getfield 43, 3) := by decide +kernel
theorem dX7_findClasses_46 : decode cX7_findClasses 46 = .ok (.iconst 0, 1) := by decide +kernel
theorem dX7_findClasses_47 : decode cX7_findClasses 47 = .ok (.bipush 40, 2) := by decide +kernel
theorem dX7_findClasses_49 : decode cX7_findClasses 49 = .ok (.invokestatic 119, 3) := by decide +kernel
theorem dX7_findClasses_52 : decode cX7_findClasses 52 = .ok (.aload_n 0, 1) := by decide +kernel
theorem dX7_findClasses_53 : decode cX7_findClasses 53 = .ok (.iload_n 2, 1) := by decide +kernel
theorem dX7_findClasses_54 : decode cX7_findClasses 54 = .ok (.invokevirtual 125, 3) := by decide +kernel
theorem dX7_findClasses_57 : decode cX7_findClasses 57 = .ok (.aload_n 0, 1) := by decide +kernel
theorem dX7_findClasses_58 : decode cX7_findClasses 58 = .ok (.getfield 113, 3) := by decide +kernel
theorem dX7_findClasses_61 : decode cX7_findClasses 61 = .ok (.iload_n 3, 1) := by decide +kernel
theorem dX7_findClasses_62 : decode cX7_findClasses 62 = .ok (.if_icmp .le 7, 3) := by decide +kernel
theorem dX7_findClasses_65 : decode cX7_findClasses 65 = .ok (.iconst 1, 1) := by decide +kernel
theorem dX7_findClasses_66 : decode cX7_findClasses 66 = .ok (.goto 4, 3) := by decide +kernel
theorem dX7_findClasses_69 : decode cX7_findClasses 69 = .ok (.iconst 0, 1) := by decide +kernel
theorem dX7_findClasses_70 : decode cX7_findClasses 70 = .ok (.istore_n 1, 1) := by decide +kernel
theorem dX7_findClasses_71 : decode cX7_findClasses 71 = .ok (.iload_n 1, 1) := by decide +kernel
theorem dX7_findClasses_72 : decode cX7_findClasses 72 = .ok (.ifCond .eq 13, 3) := by decide +kernel
theorem dX7_findClasses_75 : decode cX7_findClasses 75 = .ok (.aload_n 0, 1) := by decide +kernel
theorem dX7_findClasses_76 : decode cX7_findClasses 76 = .ok (.iload_n 2, 1) := by decide +kernel
theorem dX7_findClasses_77 : decode cX7_findClasses 77 = .ok (.putfield 116, 3) := by decide +kernel
theorem dX7_findClasses_80 : decode cX7_findClasses 80 = .ok (.aload_n 0, 1) := by decide +kernel
theorem dX7_findClasses_81 : decode cX7_findClasses 81 = .ok (.iload_n 2, 1) := by decide +kernel
theorem dX7_findClasses_82 : decode cX7_findClasses 82 = .ok (.invokevirtual 129, 3) := by decide +kernel
theorem dX7_findClasses_85 : decode cX7_findClasses 85 = .ok (.iinc 2 1, 3) := by decide +kernel
theorem dX7_findClasses_88 : decode cX7_findClasses 88 = .ok (.goto (-66), 3) := by decide +kernel
theorem dX7_findClasses_91 : decode cX7_findClasses 91 = .ok (.return_, 1) := by decide +kernel
theorem dX7_partSheaves_0 : decode cX7_partSheaves 0 = .ok (.aload_n 0, 1) := by decide +kernel
theorem dX7_partSheaves_1 : decode cX7_partSheaves 1 = .ok (.iconst 0, 1) := by decide +kernel
theorem dX7_partSheaves_2 : decode cX7_partSheaves 2 = .ok (.putfield 113, 3) := by decide +kernel
theorem dX7_partSheaves_5 : decode cX7_partSheaves 5 = .ok (.iconst 0, 1) := by decide +kernel
theorem dX7_partSheaves_6 : decode cX7_partSheaves 6 = .ok (.istore_n 2, 1) := by decide +kernel
theorem dX7_partSheaves_7 : decode cX7_partSheaves 7 = .ok (.iload_n 2, 1) := by decide +kernel
theorem dX7_partSheaves_8 : decode cX7_partSheaves 8 = .ok (.aload_n 0, 1) := by decide +kernel
theorem dX7_partSheaves_9 : decode cX7_partSheaves 9 = .ok (.getfield 57, 3) := by decide +kernel
theorem dX7_partSheaves_12 : decode cX7_partSheaves 12 = .ok (.if_icmp .ge 72, 3) := by decide +kernel
theorem dX7_partSheaves_15 : decode cX7_partSheaves 15 = .ok (.iconst 0, 1) := by decide +kernel
theorem dX7_partSheaves_16 : decode cX7_partSheaves 16 = .ok (.istore_n 3, 1) := by decide +kernel
theorem dX7_partSheaves_17 : decode cX7_partSheaves 17 = .ok (.iload_n 3, 1) := by decide +kernel
theorem dX7_partSheaves_18 : decode cX7_partSheaves 18 = .ok (.aload_n 0, 1) := by decide +kernel
theorem dX7_partSheaves_19 : decode cX7_partSheaves 19 = .ok (.getfield 113, 3) := by decide +kernel
theorem dX7_partSheaves_22 : decode cX7_partSheaves 22 = .ok (.if_icmp .ge 24, 3) := by decide +kernel
theorem dX7_partSheaves_25 : decode cX7_partSheaves 25 = .ok (.aload_n 0, 1) := by decide +kernel
theorem dX7_partSheaves_26 : decode cX7_partSheaves 26 = .ok (.iload_n 2, 1) := by decide +kernel
theorem dX7_partSheaves_27 : decode cX7_partSheaves 27 = .ok (.aload_n 0, 1) := by decide +kernel
theorem dX7_partSheaves_28 : decode cX7_partSheaves 28 = .ok (.getfield 37, 3) := by decide +kernel
theorem dX7_partSheaves_31 : decode cX7_partSheaves 31 = .ok (.iload_n 3, 1) := by decide +kernel
theorem dX7_partSheaves_32 : decode cX7_partSheaves 32 = .ok (.iaload, 1) := by decide +kernel
theorem dX7_partSheaves_33 : decode cX7_partSheaves 33 = .ok (.iload_n 1, 1) := by decide +kernel
theorem dX7_partSheaves_34 : decode cX7_partSheaves 34 = .ok (.invokevirtual 132, 3) := by decide +kernel
theorem dX7_partSheaves_37 : decode cX7_partSheaves 37 = .ok (.ifCond .ne 9, 3) := by decide +kernel
theorem dX7_partSheaves_40 : decode cX7_partSheaves 40 = .ok (.iinc 3 1, 3) := by decide +kernel
theorem dX7_partSheaves_43 : decode cX7_partSheaves 43 = .ok (.goto (-26), 3) := by decide +kernel
theorem dX7_partSheaves_46 : decode cX7_partSheaves 46 = .ok (.iload_n 3, 1) := by decide +kernel
theorem dX7_partSheaves_47 : decode cX7_partSheaves 47 = .ok (.aload_n 0, 1) := by decide +kernel
theorem dX7_partSheaves_48 : decode cX7_partSheaves 48 = .ok (.getfield 113, 3) := by decide +kernel
theorem dX7_partSheaves_51 : decode cX7_partSheaves 51 = .ok (.if_icmp .ne 20, 3) := by decide +kernel
theorem dX7_partSheaves_54 : decode cX7_partSheaves 54 = .ok (.aload_n 0, 1) := by decide +kernel
theorem dX7_partSheaves_55 : decode cX7_partSheaves 55 = .ok (.getfield 37, 3) := by decide +kernel
theorem dX7_partSheaves_58 : decode cX7_partSheaves 58 = .ok (.iload_n 3, 1) := by decide +kernel
theorem dX7_partSheaves_59 : decode cX7_partSheaves 59 = .ok (.iload_n 2, 1) := by decide +kernel
theorem dX7_partSheaves_60 : decode cX7_partSheaves 60 = .ok (.iastore, 1) := by decide +kernel
theorem dX7_partSheaves_61 : decode cX7_partSheaves 61 = .ok (.aload_n 0, 1) := by decide +kernel
theorem dX7_partSheaves_62 : decode cX7_partSheaves 62 = .ok (.dup, 1) := by decide +kernel
theorem dX7_partSheaves_63 : decode cX7_partSheaves 63 = .ok (.getfield 113, 3) := by decide +kernel
theorem dX7_partSheaves_66 : decode cX7_partSheaves 66 = .ok (.iconst 1, 1) := by decide +kernel
theorem dX7_partSheaves_67 : decode cX7_partSheaves 67 = .ok (.iadd, 1) := by decide +kernel
theorem dX7_partSheaves_68 : decode cX7_partSheaves 68 = .ok (.putfield 113, 3) := by decide +kernel
theorem dX7_partSheaves_71 : decode cX7_partSheaves 71 = .ok (.aload_n 0, 1) := by decide +kernel
theorem dX7_partSheaves_72 : decode cX7_partSheaves 72 = .ok (.getfield 34, 3) := by decide +kernel
theorem dX7_partSheaves_75 : decode cX7_partSheaves 75 = .ok (.iload_n 2, 1) := by decide +kernel
theorem dX7_partSheaves_76 : decode cX7_partSheaves 76 = .ok (.iload_n 3, 1) := by decide +kernel
theorem dX7_partSheaves_77 : decode cX7_partSheaves 77 = .ok (.iastore, 1) := by decide +kernel
theorem dX7_partSheaves_78 : decode cX7_partSheaves 78 = .ok (.iinc 2 1, 3) := by decide +kernel
theorem dX7_partSheaves_81 : decode cX7_partSheaves 81 = .ok (.goto (-74), 3) := by decide +kernel
theorem dX7_partSheaves_84 : decode cX7_partSheaves 84 = .ok (.return_, 1) := by decide +kernel
theorem dX7_areAlike_0 : decode cX7_areAlike 0 = .ok (.iload_n 3, 1) := by decide +kernel
theorem dX7_areAlike_1 : decode cX7_areAlike 1 = .ok (.ifCond .ne 22, 3) := by decide +kernel
theorem dX7_areAlike_4 : decode cX7_areAlike 4 = .ok (.aload_n 0, 1) := by decide +kernel
theorem dX7_areAlike_5 : decode cX7_areAlike 5 = .ok (.iload_n 1, 1) := by decide +kernel
theorem dX7_areAlike_6 : decode cX7_areAlike 6 = .ok (.invokevirtual 136, 3) := by decide +kernel
theorem dX7_areAlike_9 : decode cX7_areAlike 9 = .ok (.aload_n 0, 1) := by decide +kernel
theorem dX7_areAlike_10 : decode cX7_areAlike 10 = .ok (.iload_n 2, 1) := by decide +kernel
theorem dX7_areAlike_11 : decode cX7_areAlike 11 = .ok (.invokevirtual 136, 3) := by decide +kernel
theorem dX7_areAlike_14 : decode cX7_areAlike 14 = .ok (.if_icmp .ne 7, 3) := by decide +kernel
theorem dX7_areAlike_17 : decode cX7_areAlike 17 = .ok (.iconst 1, 1) := by decide +kernel
theorem dX7_areAlike_18 : decode cX7_areAlike 18 = .ok (.goto 4, 3) := by decide +kernel
theorem dX7_areAlike_21 : decode cX7_areAlike 21 = .ok (.iconst 0, 1) := by decide +kernel
theorem dX7_areAlike_22 : decode cX7_areAlike 22 = .ok (.ireturn, 1) := by decide +kernel
theorem dX7_areAlike_23 : decode cX7_areAlike 23 = .ok (.aload_n 0, 1) := by decide +kernel
theorem dX7_areAlike_24 : decode cX7_areAlike 24 = .ok (.getfield 43, 3) := by decide +kernel
theorem dX7_areAlike_27 : decode cX7_areAlike 27 = .ok (.iload_n 1, 1) := by decide +kernel
theorem dX7_areAlike_28 : decode cX7_areAlike 28 = .ok (.iaload, 1) := by decide +kernel
theorem dX7_areAlike_29 : decode cX7_areAlike 29 = .ok (.aload_n 0, 1) := by decide +kernel
theorem dX7_areAlike_30 : decode cX7_areAlike 30 = .ok (.getfield 43, 3) := by decide +kernel
theorem dX7_areAlike_33 : decode cX7_areAlike 33 = .ok (.iload_n 2, 1) := by decide +kernel
theorem dX7_areAlike_34 : decode cX7_areAlike 34 = .ok (.iaload, 1) := by decide +kernel
theorem dX7_areAlike_35 : decode cX7_areAlike 35 = .ok (.if_icmp .ne 7, 3) := by decide +kernel
theorem dX7_areAlike_38 : decode cX7_areAlike 38 = .ok (.iconst 1, 1) := by decide +kernel
theorem dX7_areAlike_39 : decode cX7_areAlike 39 = .ok (.goto 4, 3) := by decide +kernel
theorem dX7_areAlike_42 : decode cX7_areAlike 42 = .ok (.iconst 0, 1) := by decide +kernel
theorem dX7_areAlike_43 : decode cX7_areAlike 43 = .ok (.istore 4, 2) := by decide +kernel
theorem dX7_areAlike_45 : decode cX7_areAlike 45 = .ok (.iconst 0, 1) := by decide +kernel
theorem dX7_areAlike_46 : decode cX7_areAlike 46 = .ok (.istore 5, 2) := by decide +kernel
theorem dX7_areAlike_48 : decode cX7_areAlike 48 = .ok (.iload 4, 2) := by decide +kernel
theorem dX7_areAlike_50 : decode cX7_areAlike 50 = .ok (.ifCond .eq 52, 3) := by decide +kernel
theorem dX7_areAlike_53 : decode cX7_areAlike 53 = .ok (.iload 5, 2) := by decide +kernel
theorem dX7_areAlike_55 : decode cX7_areAlike 55 = .ok (.aload_n 0, 1) := by decide +kernel
theorem dX7_areAlike_56 : decode cX7_areAlike 56 = .ok (.getfield 52, 3) := by decide +kernel
theorem dX7_areAlike_59 : decode cX7_areAlike 59 = .ok (.if_icmp .ge 43, 3) := by decide +kernel
theorem dX7_areAlike_62 : decode cX7_areAlike 62 = .ok (.aload_n 0, 1) := by decide +kernel
theorem dX7_areAlike_63 : decode cX7_areAlike 63 = .ok (.getfield 43, 3) := by decide +kernel
theorem dX7_areAlike_66 : decode cX7_areAlike 66 = .ok (.aload_n 0, 1) := by decide +kernel
theorem dX7_areAlike_67 : decode cX7_areAlike 67 = .ok (.iload_n 1, 1) := by decide +kernel
theorem dX7_areAlike_68 : decode cX7_areAlike 68 = .ok (.iload 5, 2) := by decide +kernel
theorem dX7_areAlike_70 : decode cX7_areAlike 70 = .ok (.invokevirtual 140, 3) := by decide +kernel
theorem dX7_areAlike_73 : decode cX7_areAlike 73 = .ok (.iaload, 1) := by decide +kernel
theorem dX7_areAlike_74 : decode cX7_areAlike 74 = .ok (.aload_n 0, 1) := by decide +kernel
theorem dX7_areAlike_75 : decode cX7_areAlike 75 = .ok (.getfield 43, 3) := by decide +kernel
theorem dX7_areAlike_78 : decode cX7_areAlike 78 = .ok (.aload_n 0, 1) := by decide +kernel
theorem dX7_areAlike_79 : decode cX7_areAlike 79 = .ok (.iload_n 2, 1) := by decide +kernel
theorem dX7_areAlike_80 : decode cX7_areAlike 80 = .ok (.iload 5, 2) := by decide +kernel
theorem dX7_areAlike_82 : decode cX7_areAlike 82 = .ok (.invokevirtual 140, 3) := by decide +kernel
theorem dX7_areAlike_85 : decode cX7_areAlike 85 = .ok (.iaload, 1) := by decide +kernel
theorem dX7_areAlike_86 : decode cX7_areAlike 86 = .ok (.if_icmp .ne 7, 3) := by decide +kernel
theorem dX7_areAlike_89 : decode cX7_areAlike 89 = .ok (.iconst 1, 1) := by decide +kernel
theorem dX7_areAlike_90 : decode cX7_areAlike 90 = .ok (.goto 4, 3) := by decide +kernel
theorem dX7_areAlike_93 : decode cX7_areAlike 93 = .ok (.iconst 0, 1) := by decide +kernel
theorem dX7_areAlike_94 : decode cX7_areAlike 94 = .ok (.istore 4, 2) := by decide +kernel
theorem dX7_areAlike_96 : decode cX7_areAlike 96 = .ok (.iinc 5 1, 3) := by decide +kernel
theorem dX7_areAlike_99 : decode cX7_areAlike 99 = .ok (.goto (-51), 3) := by decide +kernel
theorem dX7_areAlike_102 : decode cX7_areAlike 102 = .ok (.iload 4, 2) := by decide +kernel
theorem dX7_areAlike_104 : decode cX7_areAlike 104 = .ok (.ireturn, 1) := by decide +kernel
theorem dX7_noteApart_0 : decode cX7_noteApart 0 = .ok (.iconst 0, 1) := by decide +kernel
theorem dX7_noteApart_1 : decode cX7_noteApart 1 = .ok (.istore_n 2, 1) := by decide +kernel
theorem dX7_noteApart_2 : decode cX7_noteApart 2 = .ok (.iload_n 2, 1) := by decide +kernel
theorem dX7_noteApart_3 : decode cX7_noteApart 3 = .ok (.aload_n 0, 1) := by decide +kernel
theorem dX7_noteApart_4 : decode cX7_noteApart 4 = .ok (.getfield 57, 3) := by decide +kernel
theorem dX7_noteApart_7 : decode cX7_noteApart 7 = .ok (.if_icmp .ge 67, 3) := by decide +kernel
theorem dX7_noteApart_10 : decode cX7_noteApart 10 = .ok (.iconst 0, 1) := by decide +kernel
theorem dX7_noteApart_11 : decode cX7_noteApart 11 = .ok (.istore_n 3, 1) := by decide +kernel
theorem dX7_noteApart_12 : decode cX7_noteApart 12 = .ok (.iload_n 3, 1) := by decide +kernel
theorem dX7_noteApart_13 : decode cX7_noteApart 13 = .ok (.aload_n 0, 1) := by decide +kernel
theorem dX7_noteApart_14 : decode cX7_noteApart 14 = .ok (.getfield 57, 3) := by decide +kernel
theorem dX7_noteApart_17 : decode cX7_noteApart 17 = .ok (.if_icmp .ge 51, 3) := by decide +kernel
theorem dX7_noteApart_20 : decode cX7_noteApart 20 = .ok (.aload_n 0, 1) := by decide +kernel
theorem dX7_noteApart_21 : decode cX7_noteApart 21 = .ok (.getfield 34, 3) := by decide +kernel
theorem dX7_noteApart_24 : decode cX7_noteApart 24 = .ok (.iload_n 2, 1) := by decide +kernel
theorem dX7_noteApart_25 : decode cX7_noteApart 25 = .ok (.iaload, 1) := by decide +kernel
theorem dX7_noteApart_26 : decode cX7_noteApart 26 = .ok (.aload_n 0, 1) := by decide +kernel
theorem dX7_noteApart_27 : decode cX7_noteApart 27 = .ok (.getfield 34, 3) := by decide +kernel
theorem dX7_noteApart_30 : decode cX7_noteApart 30 = .ok (.iload_n 3, 1) := by decide +kernel
theorem dX7_noteApart_31 : decode cX7_noteApart 31 = .ok (.iaload, 1) := by decide +kernel
theorem dX7_noteApart_32 : decode cX7_noteApart 32 = .ok (.if_icmp .eq 30, 3) := by decide +kernel
theorem dX7_noteApart_35 : decode cX7_noteApart 35 = .ok (.aload_n 0, 1) := by decide +kernel
theorem dX7_noteApart_36 : decode cX7_noteApart 36 = .ok (.getfield 40, 3) := by decide +kernel
theorem dX7_noteApart_39 : decode cX7_noteApart 39 = .ok (.iload_n 2, 1) := by decide +kernel
theorem dX7_noteApart_40 : decode cX7_noteApart 40 = .ok (.bipush 40, 2) := by decide +kernel
theorem dX7_noteApart_42 : decode cX7_noteApart 42 = .ok (.imul, 1) := by decide +kernel
theorem dX7_noteApart_43 : decode cX7_noteApart 43 = .ok (.iload_n 3, 1) := by decide +kernel
theorem dX7_noteApart_44 : decode cX7_noteApart 44 = .ok (.iadd, 1) := by decide +kernel
theorem dX7_noteApart_45 : decode cX7_noteApart 45 = .ok (.iaload, 1) := by decide +kernel
theorem dX7_noteApart_46 : decode cX7_noteApart 46 = .ok (.iconst (-1), 1) := by decide +kernel
theorem dX7_noteApart_47 : decode cX7_noteApart 47 = .ok (.if_icmp .ne 15, 3) := by decide +kernel
theorem dX7_noteApart_50 : decode cX7_noteApart 50 = .ok (.aload_n 0, 1) := by decide +kernel
theorem dX7_noteApart_51 : decode cX7_noteApart 51 = .ok (.getfield 40, 3) := by decide +kernel
theorem dX7_noteApart_54 : decode cX7_noteApart 54 = .ok (.iload_n 2, 1) := by decide +kernel
theorem dX7_noteApart_55 : decode cX7_noteApart 55 = .ok (.bipush 40, 2) := by decide +kernel
theorem dX7_noteApart_57 : decode cX7_noteApart 57 = .ok (.imul, 1) := by decide +kernel
theorem dX7_noteApart_58 : decode cX7_noteApart 58 = .ok (.iload_n 3, 1) := by decide +kernel
theorem dX7_noteApart_59 : decode cX7_noteApart 59 = .ok (.iadd, 1) := by decide +kernel
theorem dX7_noteApart_60 : decode cX7_noteApart 60 = .ok (.iload_n 1, 1) := by decide +kernel
theorem dX7_noteApart_61 : decode cX7_noteApart 61 = .ok (.iastore, 1) := by decide +kernel
theorem dX7_noteApart_62 : decode cX7_noteApart 62 = .ok (.iinc 3 1, 3) := by decide +kernel
theorem dX7_noteApart_65 : decode cX7_noteApart 65 = .ok (.goto (-53), 3) := by decide +kernel
theorem dX7_noteApart_68 : decode cX7_noteApart 68 = .ok (.iinc 2 1, 3) := by decide +kernel
theorem dX7_noteApart_71 : decode cX7_noteApart 71 = .ok (.goto (-69), 3) := by decide +kernel
theorem dX7_noteApart_74 : decode cX7_noteApart 74 = .ok (.return_, 1) := by decide +kernel
theorem dX7_sheafStep_0 : decode cX7_sheafStep 0 = .ok (.aload_n 0, 1) := by decide +kernel
theorem dX7_sheafStep_1 : decode cX7_sheafStep 1 = .ok (.getfield 15, 3) := by decide +kernel
theorem dX7_sheafStep_4 : decode cX7_sheafStep 4 = .ok (.iload_n 1, 1) := by decide +kernel
theorem dX7_sheafStep_5 : decode cX7_sheafStep 5 = .ok (.sipush 128, 3) := by decide +kernel
theorem dX7_sheafStep_8 : decode cX7_sheafStep 8 = .ok (.imul, 1) := by decide +kernel
theorem dX7_sheafStep_9 : decode cX7_sheafStep 9 = .ok (.iload_n 2, 1) := by decide +kernel
theorem dX7_sheafStep_10 : decode cX7_sheafStep 10 = .ok (.iadd, 1) := by decide +kernel
theorem dX7_sheafStep_11 : decode cX7_sheafStep 11 = .ok (.iaload, 1) := by decide +kernel
theorem dX7_sheafStep_12 : decode cX7_sheafStep 12 = .ok (.ireturn, 1) := by decide +kernel
theorem dX7_sheafTakes_0 : decode cX7_sheafTakes 0 = .ok (.aload_n 0, 1) := by decide +kernel
theorem dX7_sheafTakes_1 : decode cX7_sheafTakes 1 = .ok (.getfield 60, 3) := by decide +kernel
theorem dX7_sheafTakes_4 : decode cX7_sheafTakes 4 = .ok (.iload_n 1, 1) := by decide +kernel
theorem dX7_sheafTakes_5 : decode cX7_sheafTakes 5 = .ok (.lushr, 1) := by decide +kernel
theorem dX7_sheafTakes_6 : decode cX7_sheafTakes 6 = .ok (.lconst 1, 1) := by decide +kernel
theorem dX7_sheafTakes_7 : decode cX7_sheafTakes 7 = .ok (.land, 1) := by decide +kernel
theorem dX7_sheafTakes_8 : decode cX7_sheafTakes 8 = .ok (.lconst 1, 1) := by decide +kernel
theorem dX7_sheafTakes_9 : decode cX7_sheafTakes 9 = .ok (.lcmp, 1) := by decide +kernel
theorem dX7_sheafTakes_10 : decode cX7_sheafTakes 10 = .ok (.ifCond .ne 7, 3) := by decide +kernel
theorem dX7_sheafTakes_13 : decode cX7_sheafTakes 13 = .ok (.iconst 1, 1) := by decide +kernel
theorem dX7_sheafTakes_14 : decode cX7_sheafTakes 14 = .ok (.goto 4, 3) := by decide +kernel
theorem dX7_sheafTakes_17 : decode cX7_sheafTakes 17 = .ok (.iconst 0, 1) := by decide +kernel
theorem dX7_sheafTakes_18 : decode cX7_sheafTakes 18 = .ok (.ireturn, 1) := by decide +kernel
theorem dX7_classStep_0 : decode cX7_classStep 0 = .ok (.aload_n 0, 1) := by decide +kernel
theorem dX7_classStep_1 : decode cX7_classStep 1 = .ok (.getfield 34, 3) := by decide +kernel
theorem dX7_classStep_4 : decode cX7_classStep 4 = .ok (.aload_n 0, 1) := by decide +kernel
theorem dX7_classStep_5 : decode cX7_classStep 5 = .ok (.aload_n 0, 1) := by decide +kernel
theorem dX7_classStep_6 : decode cX7_classStep 6 = .ok (.getfield 37, 3) := by decide +kernel
theorem dX7_classStep_9 : decode cX7_classStep 9 = .ok (.iload_n 1, 1) := by decide +kernel
theorem dX7_classStep_10 : decode cX7_classStep 10 = .ok (.iaload, 1) := by decide +kernel
theorem dX7_classStep_11 : decode cX7_classStep 11 = .ok (.iload_n 2, 1) := by decide +kernel
theorem dX7_classStep_12 : decode cX7_classStep 12 = .ok (.invokevirtual 140, 3) := by decide +kernel
theorem dX7_classStep_15 : decode cX7_classStep 15 = .ok (.iaload, 1) := by decide +kernel
theorem dX7_classStep_16 : decode cX7_classStep 16 = .ok (.ireturn, 1) := by decide +kernel
theorem dX7_classTakes_0 : decode cX7_classTakes 0 = .ok (.aload_n 0, 1) := by decide +kernel
theorem dX7_classTakes_1 : decode cX7_classTakes 1 = .ok (.aload_n 0, 1) := by decide +kernel
theorem dX7_classTakes_2 : decode cX7_classTakes 2 = .ok (.getfield 37, 3) := by decide +kernel
theorem dX7_classTakes_5 : decode cX7_classTakes 5 = .ok (.iload_n 1, 1) := by decide +kernel
theorem dX7_classTakes_6 : decode cX7_classTakes 6 = .ok (.iaload, 1) := by decide +kernel
theorem dX7_classTakes_7 : decode cX7_classTakes 7 = .ok (.invokevirtual 136, 3) := by decide +kernel
theorem dX7_classTakes_10 : decode cX7_classTakes 10 = .ok (.ireturn, 1) := by decide +kernel
theorem dX7_classesApart_0 : decode cX7_classesApart 0 = .ok (.aload_n 0, 1) := by decide +kernel
theorem dX7_classesApart_1 : decode cX7_classesApart 1 = .ok (.getfield 40, 3) := by decide +kernel
theorem dX7_classesApart_4 : decode cX7_classesApart 4 = .ok (.aload_n 0, 1) := by decide +kernel
theorem dX7_classesApart_5 : decode cX7_classesApart 5 = .ok (.getfield 37, 3) := by decide +kernel
theorem dX7_classesApart_8 : decode cX7_classesApart 8 = .ok (.iload_n 1, 1) := by decide +kernel
theorem dX7_classesApart_9 : decode cX7_classesApart 9 = .ok (.iaload, 1) := by decide +kernel
theorem dX7_classesApart_10 : decode cX7_classesApart 10 = .ok (.bipush 40, 2) := by decide +kernel
theorem dX7_classesApart_12 : decode cX7_classesApart 12 = .ok (.imul, 1) := by decide +kernel
theorem dX7_classesApart_13 : decode cX7_classesApart 13 = .ok (.aload_n 0, 1) := by decide +kernel
theorem dX7_classesApart_14 : decode cX7_classesApart 14 = .ok (.getfield 37, 3) := by decide +kernel
theorem dX7_classesApart_17 : decode cX7_classesApart 17 = .ok (.iload_n 2, 1) := by decide +kernel
theorem dX7_classesApart_18 : decode cX7_classesApart 18 = .ok (.iaload, 1) := by decide +kernel
theorem dX7_classesApart_19 : decode cX7_classesApart 19 = .ok (.iadd, 1) := by decide +kernel
theorem dX7_classesApart_20 : decode cX7_classesApart 20 = .ok (.iaload, 1) := by decide +kernel
theorem dX7_classesApart_21 : decode cX7_classesApart 21 = .ok (.ireturn, 1) := by decide +kernel
theorem dX7_deadClass_0 : decode cX7_deadClass 0 = .ok (.iconst 0, 1) := by decide +kernel
theorem dX7_deadClass_1 : decode cX7_deadClass 1 = .ok (.istore_n 1, 1) := by decide +kernel
theorem dX7_deadClass_2 : decode cX7_deadClass 2 = .ok (.iload_n 1, 1) := by decide +kernel
theorem dX7_deadClass_3 : decode cX7_deadClass 3 = .ok (.aload_n 0, 1) := by decide +kernel
theorem dX7_deadClass_4 : decode cX7_deadClass 4 = .ok (.getfield 113, 3) := by decide +kernel
theorem dX7_deadClass_7 : decode cX7_deadClass 7 = .ok (.if_icmp .ge 33, 3) := by decide +kernel
theorem dX7_deadClass_10 : decode cX7_deadClass 10 = .ok (.aload_n 0, 1) := by decide +kernel
theorem dX7_deadClass_11 : decode cX7_deadClass 11 = .ok (.iload_n 1, 1) := by decide +kernel
theorem dX7_deadClass_12 : decode cX7_deadClass 12 = .ok (.invokevirtual 144, 3) := by decide +kernel
theorem dX7_deadClass_15 : decode cX7_deadClass 15 = .ok (.ifCond .ne 19, 3) := by decide +kernel
theorem dX7_deadClass_18 : decode cX7_deadClass 18 = .ok (.aload_n 0, 1) := by decide +kernel
theorem dX7_deadClass_19 : decode cX7_deadClass 19 = .ok (.lconst 1, 1) := by decide +kernel
theorem dX7_deadClass_20 : decode cX7_deadClass 20 = .ok (.iload_n 1, 1) := by decide +kernel
theorem dX7_deadClass_21 : decode cX7_deadClass 21 = .ok (.lshl, 1) := by decide +kernel
theorem dX7_deadClass_22 : decode cX7_deadClass 22 = .ok (.invokevirtual 147, 3) := by decide +kernel
theorem dX7_deadClass_25 : decode cX7_deadClass 25 = .ok (.lconst 1, 1) := by decide +kernel
theorem dX7_deadClass_26 : decode cX7_deadClass 26 = .ok (.iload_n 1, 1) := by decide +kernel
theorem dX7_deadClass_27 : decode cX7_deadClass 27 = .ok (.lshl, 1) := by decide +kernel
theorem dX7_deadClass_28 : decode cX7_deadClass 28 = .ok (.lcmp, 1) := by decide +kernel
theorem dX7_deadClass_29 : decode cX7_deadClass 29 = .ok (.ifCond .ne 5, 3) := by decide +kernel
theorem dX7_deadClass_32 : decode cX7_deadClass 32 = .ok (.iload_n 1, 1) := by decide +kernel
theorem dX7_deadClass_33 : decode cX7_deadClass 33 = .ok (.ireturn, 1) := by decide +kernel
theorem dX7_deadClass_34 : decode cX7_deadClass 34 = .ok (.iinc 1 1, 3) := by decide +kernel
theorem dX7_deadClass_37 : decode cX7_deadClass 37 = .ok (.goto (-35), 3) := by decide +kernel
theorem dX7_deadClass_40 : decode cX7_deadClass 40 = .ok (.bipush (-2), 2) := by decide +kernel
theorem dX7_deadClass_42 : decode cX7_deadClass 42 = .ok (.ireturn, 1) := by decide +kernel
theorem dX7_classesAfter_0 : decode cX7_classesAfter 0 = .ok (.lconst 0, 1) := by decide +kernel
theorem dX7_classesAfter_1 : decode cX7_classesAfter 1 = .ok (.lstore_n 3, 1) := by decide +kernel
theorem dX7_classesAfter_2 : decode cX7_classesAfter 2 = .ok (.iconst 0, 1) := by decide +kernel
theorem dX7_classesAfter_3 : decode cX7_classesAfter 3 = .ok (.istore 5, 2) := by decide +kernel
theorem dX7_classesAfter_5 : decode cX7_classesAfter 5 = .ok (.iload 5, 2) := by decide +kernel
theorem dX7_classesAfter_7 : decode cX7_classesAfter 7 = .ok (.aload_n 0, 1) := by decide +kernel
theorem dX7_classesAfter_8 : decode cX7_classesAfter 8 = .ok (.getfield 113, 3) := by decide +kernel
theorem dX7_classesAfter_11 : decode cX7_classesAfter 11 = .ok (.if_icmp .ge 51, 3) := by decide +kernel
theorem dX7_classesAfter_14 : decode cX7_classesAfter 14 = .ok (.iconst 0, 1) := by decide +kernel
theorem dX7_classesAfter_15 : decode cX7_classesAfter 15 = .ok (.istore 6, 2) := by decide +kernel
theorem dX7_classesAfter_17 : decode cX7_classesAfter 17 = .ok (.lload_n 1, 1) := by decide +kernel
theorem dX7_classesAfter_18 : decode cX7_classesAfter 18 = .ok (.iload 5, 2) := by decide +kernel
theorem dX7_classesAfter_20 : decode cX7_classesAfter 20 = .ok (.lushr, 1) := by decide +kernel
theorem dX7_classesAfter_21 : decode cX7_classesAfter 21 = .ok (.lconst 1, 1) := by decide +kernel
theorem dX7_classesAfter_22 : decode cX7_classesAfter 22 = .ok (.land, 1) := by decide +kernel
theorem dX7_classesAfter_23 : decode cX7_classesAfter 23 = .ok (.lconst 1, 1) := by decide +kernel
theorem dX7_classesAfter_24 : decode cX7_classesAfter 24 = .ok (.lcmp, 1) := by decide +kernel
theorem dX7_classesAfter_25 : decode cX7_classesAfter 25 = .ok (.ifCond .ne 31, 3) := by decide +kernel
theorem dX7_classesAfter_28 : decode cX7_classesAfter 28 = .ok (.iload 6, 2) := by decide +kernel
theorem dX7_classesAfter_30 : decode cX7_classesAfter 30 = .ok (.aload_n 0, 1) := by decide +kernel
theorem dX7_classesAfter_31 : decode cX7_classesAfter 31 = .ok (.getfield 52, 3) := by decide +kernel
theorem dX7_classesAfter_34 : decode cX7_classesAfter 34 = .ok (.if_icmp .ge 22, 3) := by decide +kernel
theorem dX7_classesAfter_37 : decode cX7_classesAfter 37 = .ok (.lload_n 3, 1) := by decide +kernel
theorem dX7_classesAfter_38 : decode cX7_classesAfter 38 = .ok (.lconst 1, 1) := by decide +kernel
theorem dX7_classesAfter_39 : decode cX7_classesAfter 39 = .ok (.aload_n 0, 1) := by decide +kernel
theorem dX7_classesAfter_40 : decode cX7_classesAfter 40 = .ok (.iload 5, 2) := by decide +kernel
theorem dX7_classesAfter_42 : decode cX7_classesAfter 42 = .ok (.iload 6, 2) := by decide +kernel
theorem dX7_classesAfter_44 : decode cX7_classesAfter 44 = .ok (.invokevirtual 151, 3) := by decide +kernel
theorem dX7_classesAfter_47 : decode cX7_classesAfter 47 = .ok (.lshl, 1) := by decide +kernel
theorem dX7_classesAfter_48 : decode cX7_classesAfter 48 = .ok (.lor, 1) := by decide +kernel
theorem dX7_classesAfter_49 : decode cX7_classesAfter 49 = .ok (.lstore_n 3, 1) := by decide +kernel
theorem dX7_classesAfter_50 : decode cX7_classesAfter 50 = .ok (.iinc 6 1, 3) := by decide +kernel
theorem dX7_classesAfter_53 : decode cX7_classesAfter 53 = .ok (.goto (-36), 3) := by decide +kernel
theorem dX7_classesAfter_56 : decode cX7_classesAfter 56 = .ok (.iinc 5 1, 3) := by decide +kernel
theorem dX7_classesAfter_59 : decode cX7_classesAfter 59 = .ok (.goto (-54), 3) := by decide +kernel
theorem dX7_classesAfter_62 : decode cX7_classesAfter 62 = .ok (.lload_n 3, 1) := by decide +kernel
theorem dX7_classesAfter_63 : decode cX7_classesAfter 63 = .ok (.lreturn, 1) := by decide +kernel
theorem dX7_blockOnWay_0 : decode cX7_blockOnWay 0 = .ok (.iload_n 1, 1) := by decide +kernel
theorem dX7_blockOnWay_1 : decode cX7_blockOnWay 1 = .ok (.istore_n 3, 1) := by decide +kernel
theorem dX7_blockOnWay_2 : decode cX7_blockOnWay 2 = .ok (.aload_n 0, 1) := by decide +kernel
theorem dX7_blockOnWay_3 : decode cX7_blockOnWay 3 = .ok (.getfield 25, 3) := by decide +kernel
theorem dX7_blockOnWay_6 : decode cX7_blockOnWay 6 = .ok (.iload_n 1, 1) := by decide +kernel
theorem dX7_blockOnWay_7 : decode cX7_blockOnWay 7 = .ok (.iaload, 1) := by decide +kernel
theorem dX7_blockOnWay_8 : decode cX7_blockOnWay 8 = .ok (.iconst 1, 1) := by decide +kernel
theorem dX7_blockOnWay_9 : decode cX7_blockOnWay 9 = .ok (.isub, 1) := by decide +kernel
theorem dX7_blockOnWay_10 : decode cX7_blockOnWay 10 = .ok (.istore 4, 2) := by decide +kernel
theorem dX7_blockOnWay_12 : decode cX7_blockOnWay 12 = .ok (.iload 4, 2) := by decide +kernel
theorem dX7_blockOnWay_14 : decode cX7_blockOnWay 14 = .ok (.iload_n 2, 1) := by decide +kernel
theorem dX7_blockOnWay_15 : decode cX7_blockOnWay 15 = .ok (.if_icmp .le 25, 3) := by decide +kernel
theorem dX7_blockOnWay_18 : decode cX7_blockOnWay 18 = .ok (.aload_n 0, 1) := by decide +kernel
theorem dX7_blockOnWay_19 : decode cX7_blockOnWay 19 = .ok (.getfield 19, 3) := by decide +kernel
theorem dX7_blockOnWay_22 : decode cX7_blockOnWay 22 = .ok (.iload_n 3, 1) := by decide +kernel
theorem dX7_blockOnWay_23 : decode cX7_blockOnWay 23 = .ok (.iaload, 1) := by decide +kernel
theorem dX7_blockOnWay_24 : decode cX7_blockOnWay 24 = .ok (.ifCond .lt 16, 3) := by decide +kernel
theorem dX7_blockOnWay_27 : decode cX7_blockOnWay 27 = .ok (.aload_n 0, 1) := by decide +kernel
theorem dX7_blockOnWay_28 : decode cX7_blockOnWay 28 = .ok (.getfield 19, 3) := by decide +kernel
theorem dX7_blockOnWay_31 : decode cX7_blockOnWay 31 = .ok (.iload_n 3, 1) := by decide +kernel
theorem dX7_blockOnWay_32 : decode cX7_blockOnWay 32 = .ok (.iaload, 1) := by decide +kernel
theorem dX7_blockOnWay_33 : decode cX7_blockOnWay 33 = .ok (.istore_n 3, 1) := by decide +kernel
theorem dX7_blockOnWay_34 : decode cX7_blockOnWay 34 = .ok (.iinc 4 (-1), 3) := by decide +kernel
theorem dX7_blockOnWay_37 : decode cX7_blockOnWay 37 = .ok (.goto (-25), 3) := by decide +kernel
theorem dX7_blockOnWay_40 : decode cX7_blockOnWay 40 = .ok (.aload_n 0, 1) := by decide +kernel
theorem dX7_blockOnWay_41 : decode cX7_blockOnWay 41 = .ok (.getfield 22, 3) := by decide +kernel
theorem dX7_blockOnWay_44 : decode cX7_blockOnWay 44 = .ok (.iload_n 3, 1) := by decide +kernel
theorem dX7_blockOnWay_45 : decode cX7_blockOnWay 45 = .ok (.iaload, 1) := by decide +kernel
theorem dX7_blockOnWay_46 : decode cX7_blockOnWay 46 = .ok (.iconst 0, 1) := by decide +kernel
theorem dX7_blockOnWay_47 : decode cX7_blockOnWay 47 = .ok (.invokestatic 154, 3) := by decide +kernel
theorem dX7_blockOnWay_50 : decode cX7_blockOnWay 50 = .ok (.ireturn, 1) := by decide +kernel
theorem dX7_partingBlock_0 : decode cX7_partingBlock 0 = .ok (.aload_n 0, 1) := by decide +kernel
theorem dX7_partingBlock_1 : decode cX7_partingBlock 1 = .ok (.getfield 37, 3) := by decide +kernel
theorem dX7_partingBlock_4 : decode cX7_partingBlock 4 = .ok (.iload_n 1, 1) := by decide +kernel
theorem dX7_partingBlock_5 : decode cX7_partingBlock 5 = .ok (.iaload, 1) := by decide +kernel
theorem dX7_partingBlock_6 : decode cX7_partingBlock 6 = .ok (.istore 4, 2) := by decide +kernel
theorem dX7_partingBlock_8 : decode cX7_partingBlock 8 = .ok (.aload_n 0, 1) := by decide +kernel
theorem dX7_partingBlock_9 : decode cX7_partingBlock 9 = .ok (.getfield 37, 3) := by decide +kernel
theorem dX7_partingBlock_12 : decode cX7_partingBlock 12 = .ok (.iload_n 2, 1) := by decide +kernel
theorem dX7_partingBlock_13 : decode cX7_partingBlock 13 = .ok (.iaload, 1) := by decide +kernel
theorem dX7_partingBlock_14 : decode cX7_partingBlock 14 = .ok (.istore 5, 2) := by decide +kernel
theorem dX7_partingBlock_16 : decode cX7_partingBlock 16 = .ok (.iconst 0, 1) := by decide +kernel
theorem dX7_partingBlock_17 : decode cX7_partingBlock 17 = .ok (.istore 6, 2) := by decide +kernel
theorem dX7_partingBlock_19 : decode cX7_partingBlock 19 = .ok (.iconst 0, 1) := by decide +kernel
theorem dX7_partingBlock_20 : decode cX7_partingBlock 20 = .ok (.istore 7, 2) := by decide +kernel
theorem dX7_partingBlock_22 : decode cX7_partingBlock 22 = .ok (.iload 7, 2) := by decide +kernel
theorem dX7_partingBlock_24 : decode cX7_partingBlock 24 = .ok (.iload_n 3, 1) := by decide +kernel
theorem dX7_partingBlock_25 : decode cX7_partingBlock 25 = .ok (.if_icmp .gt 103, 3) := by decide +kernel
theorem dX7_partingBlock_28 : decode cX7_partingBlock 28 = .ok (.iload 7, 2) := by decide +kernel
theorem dX7_partingBlock_30 : decode cX7_partingBlock 30 = .ok (.bipush 40, 2) := by decide +kernel
theorem dX7_partingBlock_32 : decode cX7_partingBlock 32 = .ok (.if_icmp .ge 96, 3) := by decide +kernel
theorem dX7_partingBlock_35 : decode cX7_partingBlock 35 = .ok (.aload_n 0, 1) := by decide +kernel
theorem dX7_partingBlock_36 : decode cX7_partingBlock 36 = .ok (.getfield 40, 3) := by decide +kernel
theorem dX7_partingBlock_39 : decode cX7_partingBlock 39 = .ok (.iload 4, 2) := by decide +kernel
theorem dX7_partingBlock_41 : decode cX7_partingBlock 41 = .ok (.bipush 40, 2) := by decide +kernel
theorem dX7_partingBlock_43 : decode cX7_partingBlock 43 = .ok (.imul, 1) := by decide +kernel
theorem dX7_partingBlock_44 : decode cX7_partingBlock 44 = .ok (.iload 5, 2) := by decide +kernel
theorem dX7_partingBlock_46 : decode cX7_partingBlock 46 = .ok (.iadd, 1) := by decide +kernel
theorem dX7_partingBlock_47 : decode cX7_partingBlock 47 = .ok (.iaload, 1) := by decide +kernel
theorem dX7_partingBlock_48 : decode cX7_partingBlock 48 = .ok (.iconst 1, 1) := by decide +kernel
theorem dX7_partingBlock_49 : decode cX7_partingBlock 49 = .ok (.isub, 1) := by decide +kernel
theorem dX7_partingBlock_50 : decode cX7_partingBlock 50 = .ok (.istore 8, 2) := by decide +kernel
theorem dX7_partingBlock_52 : decode cX7_partingBlock 52 = .ok (.iconst 0, 1) := by decide +kernel
theorem dX7_partingBlock_53 : decode cX7_partingBlock 53 = .ok (.istore 6, 2) := by decide +kernel
theorem dX7_partingBlock_55 : decode cX7_partingBlock 55 = .ok (.iload 6, 2) := by decide +kernel
theorem dX7_partingBlock_57 : decode cX7_partingBlock 57 = .ok (.iconst 1, 1) := by decide +kernel
theorem dX7_partingBlock_58 : decode cX7_partingBlock 58 = .ok (.iadd, 1) := by decide +kernel
theorem dX7_partingBlock_59 : decode cX7_partingBlock 59 = .ok (.aload_n 0, 1) := by decide +kernel
theorem dX7_partingBlock_60 : decode cX7_partingBlock 60 = .ok (.getfield 52, 3) := by decide +kernel
theorem dX7_partingBlock_63 : decode cX7_partingBlock 63 = .ok (.if_icmp .ge 39, 3) := by decide +kernel
theorem dX7_partingBlock_66 : decode cX7_partingBlock 66 = .ok (.aload_n 0, 1) := by decide +kernel
theorem dX7_partingBlock_67 : decode cX7_partingBlock 67 = .ok (.getfield 40, 3) := by decide +kernel
theorem dX7_partingBlock_70 : decode cX7_partingBlock 70 = .ok (.aload_n 0, 1) := by decide +kernel
theorem dX7_partingBlock_71 : decode cX7_partingBlock 71 = .ok (.iload 4, 2) := by decide +kernel
theorem dX7_partingBlock_73 : decode cX7_partingBlock 73 = .ok (.iload 6, 2) := by decide +kernel
theorem dX7_partingBlock_75 : decode cX7_partingBlock 75 = .ok (.invokevirtual 140, 3) := by decide +kernel
theorem dX7_partingBlock_78 : decode cX7_partingBlock 78 = .ok (.bipush 40, 2) := by decide +kernel
theorem dX7_partingBlock_80 : decode cX7_partingBlock 80 = .ok (.imul, 1) := by decide +kernel
theorem dX7_partingBlock_81 : decode cX7_partingBlock 81 = .ok (.aload_n 0, 1) := by decide +kernel
theorem dX7_partingBlock_82 : decode cX7_partingBlock 82 = .ok (.iload 5, 2) := by decide +kernel
theorem dX7_partingBlock_84 : decode cX7_partingBlock 84 = .ok (.iload 6, 2) := by decide +kernel
theorem dX7_partingBlock_86 : decode cX7_partingBlock 86 = .ok (.invokevirtual 140, 3) := by decide +kernel
theorem dX7_partingBlock_89 : decode cX7_partingBlock 89 = .ok (.iadd, 1) := by decide +kernel
theorem dX7_partingBlock_90 : decode cX7_partingBlock 90 = .ok (.iaload, 1) := by decide +kernel
theorem dX7_partingBlock_91 : decode cX7_partingBlock 91 = .ok (.iload 8, 2) := by decide +kernel
theorem dX7_partingBlock_93 : decode cX7_partingBlock 93 = .ok (.if_icmp .eq 9, 3) := by decide +kernel
theorem dX7_partingBlock_96 : decode cX7_partingBlock 96 = .ok (.iinc 6 1, 3) := by decide +kernel
theorem dX7_partingBlock_99 : decode cX7_partingBlock 99 = .ok (.goto (-44), 3) := by decide +kernel
theorem dX7_partingBlock_102 : decode cX7_partingBlock 102 = .ok (.aload_n 0, 1) := by decide +kernel
theorem dX7_partingBlock_103 : decode cX7_partingBlock 103 = .ok (.iload 4, 2) := by decide +kernel
theorem dX7_partingBlock_105 : decode cX7_partingBlock 105 = .ok (.iload 6, 2) := by decide +kernel
theorem dX7_partingBlock_107 : decode cX7_partingBlock 107 = .ok (.invokevirtual 140, 3) := by decide +kernel
theorem dX7_partingBlock_110 : decode cX7_partingBlock 110 = .ok (.istore 4, 2) := by decide +kernel
theorem dX7_partingBlock_112 : decode cX7_partingBlock 112 = .ok (.aload_n 0, 1) := by decide +kernel
theorem dX7_partingBlock_113 : decode cX7_partingBlock 113 = .ok (.iload 5, 2) := by decide +kernel
theorem dX7_partingBlock_115 : decode cX7_partingBlock 115 = .ok (.iload 6, 2) := by decide +kernel
theorem dX7_partingBlock_117 : decode cX7_partingBlock 117 = .ok (.invokevirtual 140, 3) := by decide +kernel
theorem dX7_partingBlock_120 : decode cX7_partingBlock 120 = .ok (.istore 5, 2) := by decide +kernel
theorem dX7_partingBlock_122 : decode cX7_partingBlock 122 = .ok (.iinc 7 1, 3) := by decide +kernel
theorem dX7_partingBlock_125 : decode cX7_partingBlock 125 = .ok (.goto (-103), 3) := by decide +kernel
theorem dX7_partingBlock_128 : decode cX7_partingBlock 128 = .ok (.iload 6, 2) := by decide +kernel
theorem dX7_partingBlock_130 : decode cX7_partingBlock 130 = .ok (.ireturn, 1) := by decide +kernel
theorem dX7_longestTaken_0 : decode cX7_longestTaken 0 = .ok (.aload_n 0, 1) := by decide +kernel
theorem dX7_longestTaken_1 : decode cX7_longestTaken 1 = .ok (.invokevirtual 159, 3) := by decide +kernel
theorem dX7_longestTaken_4 : decode cX7_longestTaken 4 = .ok (.istore_n 1, 1) := by decide +kernel
theorem dX7_longestTaken_5 : decode cX7_longestTaken 5 = .ok (.iload_n 1, 1) := by decide +kernel
theorem dX7_longestTaken_6 : decode cX7_longestTaken 6 = .ok (.ifCond .ge 9, 3) := by decide +kernel
theorem dX7_longestTaken_9 : decode cX7_longestTaken 9 = .ok (.ldc2_w 163, 3) := by decide +kernel
theorem dX7_longestTaken_12 : decode cX7_longestTaken 12 = .ok (.goto 10, 3) := by decide +kernel
theorem dX7_longestTaken_15 : decode cX7_longestTaken 15 = .ok (.lconst 1, 1) := by decide +kernel
theorem dX7_longestTaken_16 : decode cX7_longestTaken 16 = .ok (.iload_n 1, 1) := by decide +kernel
theorem dX7_longestTaken_17 : decode cX7_longestTaken 17 = .ok (.lshl, 1) := by decide +kernel
theorem dX7_longestTaken_18 : decode cX7_longestTaken 18 = .ok (.ldc2_w 163, 3) := by decide +kernel
theorem dX7_longestTaken_21 : decode cX7_longestTaken 21 = .ok (.lxor, 1) := by decide +kernel
theorem dX7_longestTaken_22 : decode cX7_longestTaken 22 = .ok (.lstore_n 2, 1) := by decide +kernel
theorem dX7_longestTaken_23 : decode cX7_longestTaken 23 = .ok (.bipush (-2), 2) := by decide +kernel
theorem dX7_longestTaken_25 : decode cX7_longestTaken 25 = .ok (.istore 4, 2) := by decide +kernel
theorem dX7_longestTaken_27 : decode cX7_longestTaken 27 = .ok (.lconst 1, 1) := by decide +kernel
theorem dX7_longestTaken_28 : decode cX7_longestTaken 28 = .ok (.lstore 5, 2) := by decide +kernel
theorem dX7_longestTaken_30 : decode cX7_longestTaken 30 = .ok (.iconst 0, 1) := by decide +kernel
theorem dX7_longestTaken_31 : decode cX7_longestTaken 31 = .ok (.istore 7, 2) := by decide +kernel
theorem dX7_longestTaken_33 : decode cX7_longestTaken 33 = .ok (.iload 7, 2) := by decide +kernel
theorem dX7_longestTaken_35 : decode cX7_longestTaken 35 = .ok (.aload_n 0, 1) := by decide +kernel
theorem dX7_longestTaken_36 : decode cX7_longestTaken 36 = .ok (.getfield 113, 3) := by decide +kernel
theorem dX7_longestTaken_39 : decode cX7_longestTaken 39 = .ok (.if_icmp .ge 60, 3) := by decide +kernel
theorem dX7_longestTaken_42 : decode cX7_longestTaken 42 = .ok (.iconst 0, 1) := by decide +kernel
theorem dX7_longestTaken_43 : decode cX7_longestTaken 43 = .ok (.istore 8, 2) := by decide +kernel
theorem dX7_longestTaken_45 : decode cX7_longestTaken 45 = .ok (.iload 8, 2) := by decide +kernel
theorem dX7_longestTaken_47 : decode cX7_longestTaken 47 = .ok (.aload_n 0, 1) := by decide +kernel
theorem dX7_longestTaken_48 : decode cX7_longestTaken 48 = .ok (.getfield 113, 3) := by decide +kernel
theorem dX7_longestTaken_51 : decode cX7_longestTaken 51 = .ok (.if_icmp .ge 34, 3) := by decide +kernel
theorem dX7_longestTaken_54 : decode cX7_longestTaken 54 = .ok (.lload 5, 2) := by decide +kernel
theorem dX7_longestTaken_56 : decode cX7_longestTaken 56 = .ok (.iload 8, 2) := by decide +kernel
theorem dX7_longestTaken_58 : decode cX7_longestTaken 58 = .ok (.lushr, 1) := by decide +kernel
theorem dX7_longestTaken_59 : decode cX7_longestTaken 59 = .ok (.lconst 1, 1) := by decide +kernel
theorem dX7_longestTaken_60 : decode cX7_longestTaken 60 = .ok (.land, 1) := by decide +kernel
theorem dX7_longestTaken_61 : decode cX7_longestTaken 61 = .ok (.lconst 1, 1) := by decide +kernel
theorem dX7_longestTaken_62 : decode cX7_longestTaken 62 = .ok (.lcmp, 1) := by decide +kernel
theorem dX7_longestTaken_63 : decode cX7_longestTaken 63 = .ok (.ifCond .ne 16, 3) := by decide +kernel
theorem dX7_longestTaken_66 : decode cX7_longestTaken 66 = .ok (.aload_n 0, 1) := by decide +kernel
theorem dX7_longestTaken_67 : decode cX7_longestTaken 67 = .ok (.iload 8, 2) := by decide +kernel
theorem dX7_longestTaken_69 : decode cX7_longestTaken 69 = .ok (.invokevirtual 144, 3) := by decide +kernel
theorem dX7_longestTaken_72 : decode cX7_longestTaken 72 = .ok (.ifCond .eq 7, 3) := by decide +kernel
theorem dX7_longestTaken_75 : decode cX7_longestTaken 75 = .ok (.iload 7, 2) := by decide +kernel
theorem dX7_longestTaken_77 : decode cX7_longestTaken 77 = .ok (.istore 4, 2) := by decide +kernel
theorem dX7_longestTaken_79 : decode cX7_longestTaken 79 = .ok (.iinc 8 1, 3) := by decide +kernel
theorem dX7_longestTaken_82 : decode cX7_longestTaken 82 = .ok (.goto (-37), 3) := by decide +kernel
theorem dX7_longestTaken_85 : decode cX7_longestTaken 85 = .ok (.aload_n 0, 1) := by decide +kernel
theorem dX7_longestTaken_86 : decode cX7_longestTaken 86 = .ok (.lload 5, 2) := by decide +kernel
theorem dX7_longestTaken_88 : decode cX7_longestTaken 88 = .ok (.invokevirtual 147, 3) := by decide +kernel
theorem dX7_longestTaken_91 : decode cX7_longestTaken 91 = .ok (.lstore 5, 2) := by decide +kernel
theorem dX7_longestTaken_93 : decode cX7_longestTaken 93 = .ok (.iinc 7 1, 3) := by decide +kernel
theorem dX7_longestTaken_96 : decode cX7_longestTaken 96 = .ok (.goto (-63), 3) := by decide +kernel
theorem dX7_longestTaken_99 : decode cX7_longestTaken 99 = .ok (.lload 5, 2) := by decide +kernel
theorem dX7_longestTaken_101 : decode cX7_longestTaken 101 = .ok (.lload_n 2, 1) := by decide +kernel
theorem dX7_longestTaken_102 : decode cX7_longestTaken 102 = .ok (.land, 1) := by decide +kernel
theorem dX7_longestTaken_103 : decode cX7_longestTaken 103 = .ok (.lconst 0, 1) := by decide +kernel
theorem dX7_longestTaken_104 : decode cX7_longestTaken 104 = .ok (.lcmp, 1) := by decide +kernel
theorem dX7_longestTaken_105 : decode cX7_longestTaken 105 = .ok (.ifCond .eq 8, 3) := by decide +kernel
theorem dX7_longestTaken_108 : decode cX7_longestTaken 108 = .ok (.bipush (-3), 2) := by decide +kernel
theorem dX7_longestTaken_110 : decode cX7_longestTaken 110 = .ok (.goto 5, 3) := by decide +kernel
theorem dX7_longestTaken_113 : decode cX7_longestTaken 113 = .ok (.iload 4, 2) := by decide +kernel
theorem dX7_longestTaken_115 : decode cX7_longestTaken 115 = .ok (.ireturn, 1) := by decide +kernel
theorem dX8_readBench_0 : decode cX8_readBench 0 = .ok (.aload_n 0, 1) := by decide +kernel
theorem dX8_readBench_1 : decode cX8_readBench 1 = .ok (.getfield 12, 3) := by decide +kernel
theorem dX8_readBench_4 : decode cX8_readBench 4 = .ok (.aload_n 1, 1) := by decide +kernel
theorem dX8_readBench_5 : decode cX8_readBench 5 = .ok (.iload_n 2, 1) := by decide +kernel
theorem dX8_readBench_6 : decode cX8_readBench 6 = .ok (.invokevirtual 54, 3) := by decide +kernel
theorem dX8_readBench_9 : decode cX8_readBench 9 = .ok (.aload_n 0, 1) := by decide +kernel
theorem dX8_readBench_10 : decode cX8_readBench 10 = .ok (.getfield 42, 3) := by decide +kernel
theorem dX8_readBench_13 : decode cX8_readBench 13 = .ok (.iconst 0, 1) := by decide +kernel
theorem dX8_readBench_14 : decode cX8_readBench 14 = .ok (.putfield 58, 3) := by decide +kernel
theorem dX8_readBench_17 : decode cX8_readBench 17 = .ok (.aload_n 0, 1) := by decide +kernel
theorem dX8_readBench_18 : decode cX8_readBench 18 = .ok (.iconst 0, 1) := by decide +kernel
theorem dX8_readBench_19 : decode cX8_readBench 19 = .ok (.putfield 62, 3) := by decide +kernel
theorem dX8_readBench_22 : decode cX8_readBench 22 = .ok (.aload_n 0, 1) := by decide +kernel
theorem dX8_readBench_23 : decode cX8_readBench 23 = .ok (.iconst 0, 1) := by decide +kernel
theorem dX8_readBench_24 : decode cX8_readBench 24 = .ok (.putfield 65, 3) := by decide +kernel
theorem dX8_readBench_27 : decode cX8_readBench 27 = .ok (.iconst 1, 1) := by decide +kernel
theorem dX8_readBench_28 : decode cX8_readBench 28 = .ok (.istore_n 3, 1) := by decide +kernel
theorem dX8_readBench_29 : decode cX8_readBench 29 = .ok (.iconst 0, 1) := by decide +kernel
theorem dX8_readBench_30 : decode cX8_readBench 30 = .ok (.istore 4, 2) := by decide +kernel
theorem dX8_readBench_32 : decode cX8_readBench 32 = .ok (.iload_n 3, 1) := by decide +kernel
theorem dX8_readBench_33 : decode cX8_readBench 33 = .ok (.ifCond .eq 164, 3) := by decide +kernel
theorem dX8_readBench_36 : decode cX8_readBench 36 = .ok (.iload 4, 2) := by decide +kernel
theorem dX8_readBench_38 : decode cX8_readBench 38 = .ok (.sipush 900, 3) := by decide +kernel
theorem dX8_readBench_41 : decode cX8_readBench 41 = .ok (.if_icmp .gt 156, 3) := by decide +kernel
theorem dX8_readBench_44 : decode cX8_readBench 44 = .ok (.aload_n 0, 1) := by decide +kernel
theorem dX8_readBench_45 : decode cX8_readBench 45 = .ok (.getfield 12, 3) := by decide +kernel
theorem dX8_readBench_48 : decode cX8_readBench 48 = .ok (.getfield 69, 3) := by decide +kernel
theorem dX8_readBench_51 : decode cX8_readBench 51 = .ok (.bipush 6, 2) := by decide +kernel
theorem dX8_readBench_53 : decode cX8_readBench 53 = .ok (.if_icmp .ne 7, 3) := by decide +kernel
theorem dX8_readBench_56 : decode cX8_readBench 56 = .ok (.aload_n 0, 1) := by decide +kernel
theorem dX8_readBench_57 : decode cX8_readBench 57 = .ok (.invokevirtual 72, 3) := by decide +kernel
theorem dX8_readBench_60 : decode cX8_readBench 60 = .ok (.aload_n 0, 1) := by decide +kernel
theorem dX8_readBench_61 : decode cX8_readBench 61 = .ok (.getfield 12, 3) := by decide +kernel
theorem dX8_readBench_64 : decode cX8_readBench 64 = .ok (.getfield 69, 3) := by decide +kernel
theorem dX8_readBench_67 : decode cX8_readBench 67 = .ok (.tableswitch 78 5 9 #[33, 42, 51, 60, 69], 33) := by decide +kernel
theorem dX8_readBench_100 : decode cX8_readBench 100 = .ok (.aload_n 0, 1) := by decide +kernel
theorem dX8_readBench_101 : decode cX8_readBench 101 = .ok (.invokevirtual 75, 3) := by decide +kernel
theorem dX8_readBench_104 : decode cX8_readBench 104 = .ok (.istore 5, 2) := by decide +kernel
theorem dX8_readBench_106 : decode cX8_readBench 106 = .ok (.goto 49, 3) := by decide +kernel
theorem dX8_readBench_109 : decode cX8_readBench 109 = .ok (.aload_n 0, 1) := by decide +kernel
theorem dX8_readBench_110 : decode cX8_readBench 110 = .ok (.invokevirtual 79, 3) := by decide +kernel
theorem dX8_readBench_113 : decode cX8_readBench 113 = .ok (.istore 5, 2) := by decide +kernel
theorem dX8_readBench_115 : decode cX8_readBench 115 = .ok (.goto 40, 3) := by decide +kernel
theorem dX8_readBench_118 : decode cX8_readBench 118 = .ok (.aload_n 0, 1) := by decide +kernel
theorem dX8_readBench_119 : decode cX8_readBench 119 = .ok (.invokevirtual 82, 3) := by decide +kernel
theorem dX8_readBench_122 : decode cX8_readBench 122 = .ok (.istore 5, 2) := by decide +kernel
theorem dX8_readBench_124 : decode cX8_readBench 124 = .ok (.goto 31, 3) := by decide +kernel
theorem dX8_readBench_127 : decode cX8_readBench 127 = .ok (.aload_n 0, 1) := by decide +kernel
theorem dX8_readBench_128 : decode cX8_readBench 128 = .ok (.invokevirtual 85, 3) := by decide +kernel
theorem dX8_readBench_131 : decode cX8_readBench 131 = .ok (.istore 5, 2) := by decide +kernel
theorem dX8_readBench_133 : decode cX8_readBench 133 = .ok (.goto 22, 3) := by decide +kernel
theorem dX8_readBench_136 : decode cX8_readBench 136 = .ok (.aload_n 0, 1) := by decide +kernel
theorem dX8_readBench_137 : decode cX8_readBench 137 = .ok (.invokevirtual 88, 3) := by decide +kernel
theorem dX8_readBench_140 : decode cX8_readBench 140 = .ok (.istore 5, 2) := by decide +kernel
theorem dX8_readBench_142 : decode cX8_readBench 142 = .ok (.goto 13, 3) := by decide +kernel
theorem dX8_readBench_145 : decode cX8_readBench 145 = .ok (.aload_n 0, 1) := by decide +kernel
theorem dX8_readBench_146 : decode cX8_readBench 146 = .ok (.getfield 12, 3) := by decide +kernel
theorem dX8_readBench_149 : decode cX8_readBench 149 = .ok (.iconst 1, 1) := by decide +kernel
theorem dX8_readBench_150 : decode cX8_readBench 150 = .ok (.invokevirtual 91, 3) := by decide +kernel
theorem dX8_readBench_153 : decode cX8_readBench 153 = .ok (.istore 5, 2) := by decide +kernel
theorem dX8_readBench_155 : decode cX8_readBench 155 = .ok (.iload 5, 2) := by decide +kernel
theorem dX8_readBench_157 : decode cX8_readBench 157 = .ok (.ifCond .ne 5, 3) := by decide +kernel
theorem dX8_readBench_160 : decode cX8_readBench 160 = .ok (.iconst 0, 1) := by decide +kernel
theorem dX8_readBench_161 : decode cX8_readBench 161 = .ok (.ireturn, 1) := by decide +kernel
theorem dX8_readBench_162 : decode cX8_readBench 162 = .ok (.aload_n 0, 1) := by decide +kernel
theorem dX8_readBench_163 : decode cX8_readBench 163 = .ok (.getfield 12, 3) := by decide +kernel
theorem dX8_readBench_166 : decode cX8_readBench 166 = .ok (.getfield 69, 3) := by decide +kernel
theorem dX8_readBench_169 : decode cX8_readBench 169 = .ok (.bipush 59, 2) := by decide +kernel
theorem dX8_readBench_171 : decode cX8_readBench 171 = .ok (.if_icmp .ne 7, 3) := by decide +kernel
theorem dX8_readBench_174 : decode cX8_readBench 174 = .ok (.iconst 1, 1) := by decide +kernel
theorem dX8_readBench_175 : decode cX8_readBench 175 = .ok (.goto 4, 3) := by decide +kernel
theorem dX8_readBench_178 : decode cX8_readBench 178 = .ok (.iconst 0, 1) := by decide +kernel
theorem dX8_readBench_179 : decode cX8_readBench 179 = .ok (.istore_n 3, 1) := by decide +kernel
theorem dX8_readBench_180 : decode cX8_readBench 180 = .ok (.iload_n 3, 1) := by decide +kernel
theorem dX8_readBench_181 : decode cX8_readBench 181 = .ok (.ifCond .eq 10, 3) := by decide +kernel
theorem dX8_readBench_184 : decode cX8_readBench 184 = .ok (.aload_n 0, 1) := by decide +kernel
theorem dX8_readBench_185 : decode cX8_readBench 185 = .ok (.getfield 12, 3) := by decide +kernel
theorem dX8_readBench_188 : decode cX8_readBench 188 = .ok (.invokevirtual 95, 3) := by decide +kernel
theorem dX8_readBench_191 : decode cX8_readBench 191 = .ok (.iinc 4 1, 3) := by decide +kernel
theorem dX8_readBench_194 : decode cX8_readBench 194 = .ok (.goto (-162), 3) := by decide +kernel
theorem dX8_readBench_197 : decode cX8_readBench 197 = .ok (.aload_n 0, 1) := by decide +kernel
theorem dX8_readBench_198 : decode cX8_readBench 198 = .ok (.getfield 12, 3) := by decide +kernel
theorem dX8_readBench_201 : decode cX8_readBench 201 = .ok (.getfield 69, 3) := by decide +kernel
theorem dX8_readBench_204 : decode cX8_readBench 204 = .ok (.ifCond .eq 12, 3) := by decide +kernel
theorem dX8_readBench_207 : decode cX8_readBench 207 = .ok (.aload_n 0, 1) := by decide +kernel
theorem dX8_readBench_208 : decode cX8_readBench 208 = .ok (.getfield 12, 3) := by decide +kernel
theorem dX8_readBench_211 : decode cX8_readBench 211 = .ok (.iconst 1, 1) := by decide +kernel
theorem dX8_readBench_212 : decode cX8_readBench 212 = .ok (.invokevirtual 91, 3) := by decide +kernel
theorem dX8_readBench_215 : decode cX8_readBench 215 = .ok (.ireturn, 1) := by decide +kernel
theorem dX8_readBench_216 : decode cX8_readBench 216 = .ok (.aload_n 0, 1) := by decide +kernel
theorem dX8_readBench_217 : decode cX8_readBench 217 = .ok (.getfield 62, 3) := by decide +kernel
theorem dX8_readBench_220 : decode cX8_readBench 220 = .ok (.ifCond .ne 13, 3) := by decide +kernel
theorem dX8_readBench_223 : decode cX8_readBench 223 = .ok (.aload_n 0, 1) := by decide +kernel
theorem dX8_readBench_224 : decode cX8_readBench 224 = .ok (.getfield 12, 3) := by decide +kernel
theorem dX8_readBench_227 : decode cX8_readBench 227 = .ok (.bipush 7, 2) := by decide +kernel
theorem dX8_readBench_229 : decode cX8_readBench 229 = .ok (.invokevirtual 91, 3) := by decide +kernel
theorem dX8_readBench_232 : decode cX8_readBench 232 = .ok (.ireturn, 1) := by decide +kernel
theorem dX8_readBench_233 : decode cX8_readBench 233 = .ok (.aload_n 0, 1) := by decide +kernel
theorem dX8_readBench_234 : decode cX8_readBench 234 = .ok (.invokevirtual 72, 3) := by decide +kernel
theorem dX8_readBench_237 : decode cX8_readBench 237 = .ok (.aload_n 0, 1) := by decide +kernel
theorem dX8_readBench_238 : decode cX8_readBench 238 = .ok (.getfield 65, 3) := by decide +kernel
theorem dX8_readBench_241 : decode cX8_readBench 241 = .ok (.ifCond .eq 15, 3) := by decide +kernel
theorem dX8_readBench_244 : decode cX8_readBench 244 = .ok (.aload_n 0, 1) := by decide +kernel
theorem dX8_readBench_245 : decode cX8_readBench 245 = .ok (.getfield 12, 3) := by decide +kernel
theorem dX8_readBench_248 : decode cX8_readBench 248 = .ok (.bipush 8, 2) := by decide +kernel
theorem dX8_readBench_250 : decode cX8_readBench 250 = .ok (.invokevirtual 91, 3) := by decide +kernel
theorem dX8_readBench_253 : decode cX8_readBench 253 = .ok (.ifCond .eq 7, 3) := by decide +kernel
theorem dX8_readBench_256 : decode cX8_readBench 256 = .ok (.iconst 1, 1) := by decide +kernel
theorem dX8_readBench_257 : decode cX8_readBench 257 = .ok (.goto 4, 3) := by decide +kernel
theorem dX8_readBench_260 : decode cX8_readBench 260 = .ok (.iconst 0, 1) := by decide +kernel
theorem dX8_readBench_261 : decode cX8_readBench 261 = .ok (.ireturn, 1) := by decide +kernel
theorem dX8_readSet_0 : decode cX8_readSet 0 = .ok (.aload_n 0, 1) := by decide +kernel
theorem dX8_readSet_1 : decode cX8_readSet 1 = .ok (.getfield 42, 3) := by decide +kernel
theorem dX8_readSet_4 : decode cX8_readSet 4 = .ok (.getfield 58, 3) := by decide +kernel
theorem dX8_readSet_7 : decode cX8_readSet 7 = .ok (.bipush 12, 2) := by decide +kernel
theorem dX8_readSet_9 : decode cX8_readSet 9 = .ok (.if_icmp .lt 12, 3) := by decide +kernel
theorem dX8_readSet_12 : decode cX8_readSet 12 = .ok (.aload_n 0, 1) := by decide +kernel
theorem dX8_readSet_13 : decode cX8_readSet 13 = .ok (.getfield 12, 3) := by decide +kernel
theorem dX8_readSet_16 : decode cX8_readSet 16 = .ok (.iconst 5, 1) := by decide +kernel
theorem dX8_readSet_17 : decode cX8_readSet 17 = .ok (.invokevirtual 91, 3) := by decide +kernel
theorem dX8_readSet_20 : decode cX8_readSet 20 = .ok (.ireturn, 1) := by decide +kernel
theorem dX8_readSet_21 : decode cX8_readSet 21 = .ok (.aload_n 0, 1) := by decide +kernel
theorem dX8_readSet_22 : decode cX8_readSet 22 = .ok (.getfield 12, 3) := by decide +kernel
theorem dX8_readSet_25 : decode cX8_readSet 25 = .ok (.invokevirtual 95, 3) := by decide +kernel
theorem dX8_readSet_28 : decode cX8_readSet 28 = .ok (.aload_n 0, 1) := by decide +kernel
theorem dX8_readSet_29 : decode cX8_readSet 29 = .ok (.getfield 12, 3) := by decide +kernel
theorem dX8_readSet_32 : decode cX8_readSet 32 = .ok (.getfield 69, 3) := by decide +kernel
theorem dX8_readSet_35 : decode cX8_readSet 35 = .ok (.iconst 2, 1) := by decide +kernel
theorem dX8_readSet_36 : decode cX8_readSet 36 = .ok (.if_icmp .eq 12, 3) := by decide +kernel
theorem dX8_readSet_39 : decode cX8_readSet 39 = .ok (.aload_n 0, 1) := by decide +kernel
theorem dX8_readSet_40 : decode cX8_readSet 40 = .ok (.getfield 12, 3) := by decide +kernel
theorem dX8_readSet_43 : decode cX8_readSet 43 = .ok (.iconst 1, 1) := by decide +kernel
theorem dX8_readSet_44 : decode cX8_readSet 44 = .ok (.invokevirtual 91, 3) := by decide +kernel
theorem dX8_readSet_47 : decode cX8_readSet 47 = .ok (.ireturn, 1) := by decide +kernel
theorem dX8_readSet_48 : decode cX8_readSet 48 = .ok (.aload_n 0, 1) := by decide +kernel
theorem dX8_readSet_49 : decode cX8_readSet 49 = .ok (.getfield 12, 3) := by decide +kernel
theorem dX8_readSet_52 : decode cX8_readSet 52 = .ok (.getfield 98, 3) := by decide +kernel
theorem dX8_readSet_55 : decode cX8_readSet 55 = .ok (.lstore_n 1, 1) := by decide +kernel
theorem dX8_readSet_56 : decode cX8_readSet 56 = .ok (.aload_n 0, 1) := by decide +kernel
theorem dX8_readSet_57 : decode cX8_readSet 57 = .ok (.getfield 42, 3) := by decide +kernel
theorem dX8_readSet_60 : decode cX8_readSet 60 = .ok (.lload_n 1, 1) := by decide +kernel
theorem dX8_readSet_61 : decode cX8_readSet 61 = .ok (.invokevirtual 102, 3) := by decide +kernel
theorem dX8_readSet_64 : decode cX8_readSet 64 = .ok (.iconst (-1), 1) := by decide +kernel
theorem dX8_readSet_65 : decode cX8_readSet 65 = .ok (.if_icmp .eq 12, 3) := by decide +kernel
theorem dX8_readSet_68 : decode cX8_readSet 68 = .ok (.aload_n 0, 1) := by decide +kernel
theorem dX8_readSet_69 : decode cX8_readSet 69 = .ok (.getfield 12, 3) := by decide +kernel
theorem dX8_readSet_72 : decode cX8_readSet 72 = .ok (.iconst 3, 1) := by decide +kernel
theorem dX8_readSet_73 : decode cX8_readSet 73 = .ok (.invokevirtual 91, 3) := by decide +kernel
theorem dX8_readSet_76 : decode cX8_readSet 76 = .ok (.ireturn, 1) := by decide +kernel
theorem dX8_readSet_77 : decode cX8_readSet 77 = .ok (.aload_n 0, 1) := by decide +kernel
theorem dX8_readSet_78 : decode cX8_readSet 78 = .ok (.getfield 12, 3) := by decide +kernel
theorem dX8_readSet_81 : decode cX8_readSet 81 = .ok (.invokevirtual 95, 3) := by decide +kernel
theorem dX8_readSet_84 : decode cX8_readSet 84 = .ok (.aload_n 0, 1) := by decide +kernel
theorem dX8_readSet_85 : decode cX8_readSet 85 = .ok (.getfield 23, 3) := by decide +kernel
theorem dX8_readSet_88 : decode cX8_readSet 88 = .ok (.aload_n 0, 1) := by decide +kernel
theorem dX8_readSet_89 : decode cX8_readSet 89 = .ok (.getfield 42, 3) := by decide +kernel
theorem dX8_readSet_92 : decode cX8_readSet 92 = .ok (.aload_n 0, 1) := by decide +kernel
theorem dX8_readSet_93 : decode cX8_readSet 93 = .ok (.getfield 42, 3) := by decide +kernel
theorem dX8_readSet_96 : decode cX8_readSet 96 = .ok (.getfield 106, 3) := by decide +kernel
theorem dX8_readSet_99 : decode cX8_readSet 99 = .ok (.aload_n 0, 1) := by decide +kernel
theorem dX8_readSet_100 : decode cX8_readSet 100 = .ok (.getfield 42, 3) := by decide +kernel
theorem dX8_readSet_103 : decode cX8_readSet 103 = .ok (.getfield 58, 3) := by decide +kernel
theorem dX8_readSet_106 : decode cX8_readSet 106 = .ok (.aaload, 1) := by decide +kernel
theorem dX8_readSet_107 : decode cX8_readSet 107 = .ok (.invokevirtual 108, 3) := by decide +kernel
theorem dX8_readSet_110 : decode cX8_readSet 110 = .ok (.ifCond .ne 5, 3) := by decide +kernel
theorem dX8_readSet_113 : decode cX8_readSet 113 = .ok (.iconst 0, 1) := by decide +kernel
theorem dX8_readSet_114 : decode cX8_readSet 114 = .ok (.ireturn, 1) := by decide +kernel
theorem dX8_readSet_115 : decode cX8_readSet 115 = .ok (.aload_n 0, 1) := by decide +kernel
theorem dX8_readSet_116 : decode cX8_readSet 116 = .ok (.getfield 42, 3) := by decide +kernel
theorem dX8_readSet_119 : decode cX8_readSet 119 = .ok (.getfield 112, 3) := by decide +kernel
theorem dX8_readSet_122 : decode cX8_readSet 122 = .ok (.aload_n 0, 1) := by decide +kernel
theorem dX8_readSet_123 : decode cX8_readSet 123 = .ok (.getfield 42, 3) := by decide +kernel
theorem dX8_readSet_126 : decode cX8_readSet 126 = .ok (.getfield 58, 3) := by decide +kernel
theorem dX8_readSet_129 : decode cX8_readSet 129 = .ok (.lload_n 1, 1) := by decide +kernel
theorem dX8_readSet_130 : decode cX8_readSet 130 = .ok (.lastore, 1) := by decide +kernel
theorem dX8_readSet_131 : decode cX8_readSet 131 = .ok (.aload_n 0, 1) := by decide +kernel
theorem dX8_readSet_132 : decode cX8_readSet 132 = .ok (.getfield 42, 3) := by decide +kernel
theorem dX8_readSet_135 : decode cX8_readSet 135 = .ok (.dup, 1) := by decide +kernel
theorem dX8_readSet_136 : decode cX8_readSet 136 = .ok (.getfield 58, 3) := by decide +kernel
theorem dX8_readSet_139 : decode cX8_readSet 139 = .ok (.iconst 1, 1) := by decide +kernel
theorem dX8_readSet_140 : decode cX8_readSet 140 = .ok (.iadd, 1) := by decide +kernel
theorem dX8_readSet_141 : decode cX8_readSet 141 = .ok (.putfield 58, 3) := by decide +kernel
theorem dX8_readSet_144 : decode cX8_readSet 144 = .ok (.iconst 1, 1) := by decide +kernel
theorem dX8_readSet_145 : decode cX8_readSet 145 = .ok (.ireturn, 1) := by decide +kernel
theorem dX8_readMachine_0 : decode cX8_readMachine 0 = .ok (.aload_n 0, 1) := by decide +kernel
theorem dX8_readMachine_1 : decode cX8_readMachine 1 = .ok (.getfield 62, 3) := by decide +kernel
theorem dX8_readMachine_4 : decode cX8_readMachine 4 = .ok (.iconst 4, 1) := by decide +kernel
theorem dX8_readMachine_5 : decode cX8_readMachine 5 = .ok (.if_icmp .lt 12, 3) := by decide +kernel
theorem dX8_readMachine_8 : decode cX8_readMachine 8 = .ok (.aload_n 0, 1) := by decide +kernel
theorem dX8_readMachine_9 : decode cX8_readMachine 9 = .ok (.getfield 12, 3) := by decide +kernel
theorem dX8_readMachine_12 : decode cX8_readMachine 12 = .ok (.iconst 5, 1) := by decide +kernel
theorem dX8_readMachine_13 : decode cX8_readMachine 13 = .ok (.invokevirtual 91, 3) := by decide +kernel
theorem dX8_readMachine_16 : decode cX8_readMachine 16 = .ok (.ireturn, 1) := by decide +kernel
theorem dX8_readMachine_17 : decode cX8_readMachine 17 = .ok (.aload_n 0, 1) := by decide +kernel
theorem dX8_readMachine_18 : decode cX8_readMachine 18 = .ok (.getfield 12, 3) := by decide +kernel
theorem dX8_readMachine_21 : decode cX8_readMachine 21 = .ok (.invokevirtual 95, 3) := by decide +kernel
theorem dX8_readMachine_24 : decode cX8_readMachine 24 = .ok (.aload_n 0, 1) := by decide +kernel
theorem dX8_readMachine_25 : decode cX8_readMachine 25 = .ok (.getfield 12, 3) := by decide +kernel
theorem dX8_readMachine_28 : decode cX8_readMachine 28 = .ok (.getfield 69, 3) := by decide +kernel
theorem dX8_readMachine_31 : decode cX8_readMachine 31 = .ok (.iconst 3, 1) := by decide +kernel
theorem dX8_readMachine_32 : decode cX8_readMachine 32 = .ok (.if_icmp .eq 12, 3) := by decide +kernel
theorem dX8_readMachine_35 : decode cX8_readMachine 35 = .ok (.aload_n 0, 1) := by decide +kernel
theorem dX8_readMachine_36 : decode cX8_readMachine 36 = .ok (.getfield 12, 3) := by decide +kernel
theorem dX8_readMachine_39 : decode cX8_readMachine 39 = .ok (.iconst 1, 1) := by decide +kernel
theorem dX8_readMachine_40 : decode cX8_readMachine 40 = .ok (.invokevirtual 91, 3) := by decide +kernel
theorem dX8_readMachine_43 : decode cX8_readMachine 43 = .ok (.ireturn, 1) := by decide +kernel
theorem dX8_readMachine_44 : decode cX8_readMachine 44 = .ok (.aload_n 0, 1) := by decide +kernel
theorem dX8_readMachine_45 : decode cX8_readMachine 45 = .ok (.getfield 12, 3) := by decide +kernel
theorem dX8_readMachine_48 : decode cX8_readMachine 48 = .ok (.getfield 98, 3) := by decide +kernel
theorem dX8_readMachine_51 : decode cX8_readMachine 51 = .ok (.lstore_n 1, 1) := by decide +kernel
theorem dX8_readMachine_52 : decode cX8_readMachine 52 = .ok (.lload_n 1, 1) := by decide +kernel
theorem dX8_readMachine_53 : decode cX8_readMachine 53 = .ok (.lconst 1, 1) := by decide +kernel
theorem dX8_readMachine_54 : decode cX8_readMachine 54 = .ok (.lcmp, 1) := by decide +kernel
theorem dX8_readMachine_55 : decode cX8_readMachine 55 = .ok (.ifCond .lt 11, 3) := by decide +kernel
theorem dX8_readMachine_58 : decode cX8_readMachine 58 = .ok (.lload_n 1, 1) := by decide +kernel
theorem dX8_readMachine_59 : decode cX8_readMachine 59 = .ok (.ldc2_w 116, 3) := by decide +kernel
theorem dX8_readMachine_62 : decode cX8_readMachine 62 = .ok (.lcmp, 1) := by decide +kernel
theorem dX8_readMachine_63 : decode cX8_readMachine 63 = .ok (.ifCond .le 12, 3) := by decide +kernel
theorem dX8_readMachine_66 : decode cX8_readMachine 66 = .ok (.aload_n 0, 1) := by decide +kernel
theorem dX8_readMachine_67 : decode cX8_readMachine 67 = .ok (.getfield 12, 3) := by decide +kernel
theorem dX8_readMachine_70 : decode cX8_readMachine 70 = .ok (.iconst 4, 1) := by decide +kernel
theorem dX8_readMachine_71 : decode cX8_readMachine 71 = .ok (.invokevirtual 91, 3) := by decide +kernel
theorem dX8_readMachine_74 : decode cX8_readMachine 74 = .ok (.ireturn, 1) := by decide +kernel
theorem dX8_readMachine_75 : decode cX8_readMachine 75 = .ok (.aload_n 0, 1) := by decide +kernel
theorem dX8_readMachine_76 : decode cX8_readMachine 76 = .ok (.getfield 12, 3) := by decide +kernel
theorem dX8_readMachine_79 : decode cX8_readMachine 79 = .ok (.invokevirtual 95, 3) := by decide +kernel
theorem dX8_readMachine_82 : decode cX8_readMachine 82 = .ok (.aload_n 0, 1) := by decide +kernel
theorem dX8_readMachine_83 : decode cX8_readMachine 83 = .ok (.getfield 46, 3) := by decide +kernel
theorem dX8_readMachine_86 : decode cX8_readMachine 86 = .ok (.lload_n 1, 1) := by decide +kernel
theorem dX8_readMachine_87 : decode cX8_readMachine 87 = .ok (.l2i, 1) := by decide +kernel
theorem dX8_readMachine_88 : decode cX8_readMachine 88 = .ok (.invokevirtual 118, 3) := by decide +kernel
theorem dX8_readMachine_91 : decode cX8_readMachine 91 = .ok (.aload_n 0, 1) := by decide +kernel
theorem dX8_readMachine_92 : decode cX8_readMachine 92 = .ok (.dup, 1) := by decide +kernel
theorem dX8_readMachine_93 : decode cX8_readMachine 93 = .ok (.getfield 62, 3) := by decide +kernel
theorem dX8_readMachine_96 : decode cX8_readMachine 96 = .ok (.iconst 1, 1) := by decide +kernel
theorem dX8_readMachine_97 : decode cX8_readMachine 97 = .ok (.iadd, 1) := by decide +kernel
theorem dX8_readMachine_98 : decode cX8_readMachine 98 = .ok (.putfield 62, 3) := by decide +kernel
theorem dX8_readMachine_101 : decode cX8_readMachine 101 = .ok (.iconst 1, 1) := by decide +kernel
theorem dX8_readMachine_102 : decode cX8_readMachine 102 = .ok (.ireturn, 1) := by decide +kernel
theorem dX8_readEdge_0 : decode cX8_readEdge 0 = .ok (.aload_n 0, 1) := by decide +kernel
theorem dX8_readEdge_1 : decode cX8_readEdge 1 = .ok (.getfield 62, 3) := by decide +kernel
theorem dX8_readEdge_4 : decode cX8_readEdge 4 = .ok (.ifCond .ne 13, 3) := by decide +kernel
theorem dX8_readEdge_7 : decode cX8_readEdge 7 = .ok (.aload_n 0, 1) := by decide +kernel
theorem dX8_readEdge_8 : decode cX8_readEdge 8 = .ok (.getfield 12, 3) := by decide +kernel
theorem dX8_readEdge_11 : decode cX8_readEdge 11 = .ok (.bipush 7, 2) := by decide +kernel
theorem dX8_readEdge_13 : decode cX8_readEdge 13 = .ok (.invokevirtual 91, 3) := by decide +kernel
theorem dX8_readEdge_16 : decode cX8_readEdge 16 = .ok (.ireturn, 1) := by decide +kernel
theorem dX8_readEdge_17 : decode cX8_readEdge 17 = .ok (.aload_n 0, 1) := by decide +kernel
theorem dX8_readEdge_18 : decode cX8_readEdge 18 = .ok (.getfield 46, 3) := by decide +kernel
theorem dX8_readEdge_21 : decode cX8_readEdge 21 = .ok (.getfield 123, 3) := by decide +kernel
theorem dX8_readEdge_24 : decode cX8_readEdge 24 = .ok (.bipush 24, 2) := by decide +kernel
theorem dX8_readEdge_26 : decode cX8_readEdge 26 = .ok (.if_icmp .lt 12, 3) := by decide +kernel
theorem dX8_readEdge_29 : decode cX8_readEdge 29 = .ok (.aload_n 0, 1) := by decide +kernel
theorem dX8_readEdge_30 : decode cX8_readEdge 30 = .ok (.getfield 12, 3) := by decide +kernel
theorem dX8_readEdge_33 : decode cX8_readEdge 33 = .ok (.iconst 5, 1) := by decide +kernel
theorem dX8_readEdge_34 : decode cX8_readEdge 34 = .ok (.invokevirtual 91, 3) := by decide +kernel
theorem dX8_readEdge_37 : decode cX8_readEdge 37 = .ok (.ireturn, 1) := by decide +kernel
theorem dX8_readEdge_38 : decode cX8_readEdge 38 = .ok (.aload_n 0, 1) := by decide +kernel
theorem dX8_readEdge_39 : decode cX8_readEdge 39 = .ok (.getfield 12, 3) := by decide +kernel
theorem dX8_readEdge_42 : decode cX8_readEdge 42 = .ok (.invokevirtual 95, 3) := by decide +kernel
theorem dX8_readEdge_45 : decode cX8_readEdge 45 = .ok (.aload_n 0, 1) := by decide +kernel
theorem dX8_readEdge_46 : decode cX8_readEdge 46 = .ok (.invokevirtual 126, 3) := by decide +kernel
theorem dX8_readEdge_49 : decode cX8_readEdge 49 = .ok (.istore_n 1, 1) := by decide +kernel
theorem dX8_readEdge_50 : decode cX8_readEdge 50 = .ok (.iload_n 1, 1) := by decide +kernel
theorem dX8_readEdge_51 : decode cX8_readEdge 51 = .ok (.ifCond .ge 7, 3) := by decide +kernel
theorem dX8_readEdge_54 : decode cX8_readEdge 54 = .ok (.iconst (-1), 1) := by decide +kernel
theorem dX8_readEdge_55 : decode cX8_readEdge 55 = .ok (.goto 7, 3) := by decide +kernel
theorem dX8_readEdge_58 : decode cX8_readEdge 58 = .ok (.aload_n 0, 1) := by decide +kernel
theorem dX8_readEdge_59 : decode cX8_readEdge 59 = .ok (.invokevirtual 126, 3) := by decide +kernel
theorem dX8_readEdge_62 : decode cX8_readEdge 62 = .ok (.istore_n 2, 1) := by decide +kernel
theorem dX8_readEdge_63 : decode cX8_readEdge 63 = .ok (.iload_n 2, 1) := by decide +kernel
theorem dX8_readEdge_64 : decode cX8_readEdge 64 = .ok (.ifCond .lt 29, 3) := by decide +kernel
theorem dX8_readEdge_67 : decode cX8_readEdge 67 = .ok (.aload_n 0, 1) := by decide +kernel
theorem dX8_readEdge_68 : decode cX8_readEdge 68 = .ok (.getfield 23, 3) := by decide +kernel
theorem dX8_readEdge_71 : decode cX8_readEdge 71 = .ok (.aload_n 0, 1) := by decide +kernel
theorem dX8_readEdge_72 : decode cX8_readEdge 72 = .ok (.getfield 42, 3) := by decide +kernel
theorem dX8_readEdge_75 : decode cX8_readEdge 75 = .ok (.aload_n 0, 1) := by decide +kernel
theorem dX8_readEdge_76 : decode cX8_readEdge 76 = .ok (.getfield 29, 3) := by decide +kernel
theorem dX8_readEdge_79 : decode cX8_readEdge 79 = .ok (.aload_n 0, 1) := by decide +kernel
theorem dX8_readEdge_80 : decode cX8_readEdge 80 = .ok (.getfield 46, 3) := by decide +kernel
theorem dX8_readEdge_83 : decode cX8_readEdge 83 = .ok (.getfield 123, 3) := by decide +kernel
theorem dX8_readEdge_86 : decode cX8_readEdge 86 = .ok (.aaload, 1) := by decide +kernel
theorem dX8_readEdge_87 : decode cX8_readEdge 87 = .ok (.invokevirtual 108, 3) := by decide +kernel
theorem dX8_readEdge_90 : decode cX8_readEdge 90 = .ok (.ifCond .ne 5, 3) := by decide +kernel
theorem dX8_readEdge_93 : decode cX8_readEdge 93 = .ok (.iconst 0, 1) := by decide +kernel
theorem dX8_readEdge_94 : decode cX8_readEdge 94 = .ok (.ireturn, 1) := by decide +kernel
theorem dX8_readEdge_95 : decode cX8_readEdge 95 = .ok (.aload_n 0, 1) := by decide +kernel
theorem dX8_readEdge_96 : decode cX8_readEdge 96 = .ok (.getfield 46, 3) := by decide +kernel
theorem dX8_readEdge_99 : decode cX8_readEdge 99 = .ok (.iload_n 1, 1) := by decide +kernel
theorem dX8_readEdge_100 : decode cX8_readEdge 100 = .ok (.iload_n 2, 1) := by decide +kernel
theorem dX8_readEdge_101 : decode cX8_readEdge 101 = .ok (.invokevirtual 130, 3) := by decide +kernel
theorem dX8_readEdge_104 : decode cX8_readEdge 104 = .ok (.pop, 1) := by decide +kernel
theorem dX8_readEdge_105 : decode cX8_readEdge 105 = .ok (.iconst 1, 1) := by decide +kernel
theorem dX8_readEdge_106 : decode cX8_readEdge 106 = .ok (.ireturn, 1) := by decide +kernel
theorem dX8_readFree_0 : decode cX8_readFree 0 = .ok (.aload_n 0, 1) := by decide +kernel
theorem dX8_readFree_1 : decode cX8_readFree 1 = .ok (.getfield 62, 3) := by decide +kernel
theorem dX8_readFree_4 : decode cX8_readFree 4 = .ok (.ifCond .ne 13, 3) := by decide +kernel
theorem dX8_readFree_7 : decode cX8_readFree 7 = .ok (.aload_n 0, 1) := by decide +kernel
theorem dX8_readFree_8 : decode cX8_readFree 8 = .ok (.getfield 12, 3) := by decide +kernel
theorem dX8_readFree_11 : decode cX8_readFree 11 = .ok (.bipush 7, 2) := by decide +kernel
theorem dX8_readFree_13 : decode cX8_readFree 13 = .ok (.invokevirtual 91, 3) := by decide +kernel
theorem dX8_readFree_16 : decode cX8_readFree 16 = .ok (.ireturn, 1) := by decide +kernel
theorem dX8_readFree_17 : decode cX8_readFree 17 = .ok (.aload_n 0, 1) := by decide +kernel
theorem dX8_readFree_18 : decode cX8_readFree 18 = .ok (.getfield 46, 3) := by decide +kernel
theorem dX8_readFree_21 : decode cX8_readFree 21 = .ok (.getfield 134, 3) := by decide +kernel
theorem dX8_readFree_24 : decode cX8_readFree 24 = .ok (.bipush 8, 2) := by decide +kernel
theorem dX8_readFree_26 : decode cX8_readFree 26 = .ok (.if_icmp .lt 12, 3) := by decide +kernel
theorem dX8_readFree_29 : decode cX8_readFree 29 = .ok (.aload_n 0, 1) := by decide +kernel
theorem dX8_readFree_30 : decode cX8_readFree 30 = .ok (.getfield 12, 3) := by decide +kernel
theorem dX8_readFree_33 : decode cX8_readFree 33 = .ok (.iconst 5, 1) := by decide +kernel
theorem dX8_readFree_34 : decode cX8_readFree 34 = .ok (.invokevirtual 91, 3) := by decide +kernel
theorem dX8_readFree_37 : decode cX8_readFree 37 = .ok (.ireturn, 1) := by decide +kernel
theorem dX8_readFree_38 : decode cX8_readFree 38 = .ok (.aload_n 0, 1) := by decide +kernel
theorem dX8_readFree_39 : decode cX8_readFree 39 = .ok (.getfield 12, 3) := by decide +kernel
theorem dX8_readFree_42 : decode cX8_readFree 42 = .ok (.invokevirtual 95, 3) := by decide +kernel
theorem dX8_readFree_45 : decode cX8_readFree 45 = .ok (.aload_n 0, 1) := by decide +kernel
theorem dX8_readFree_46 : decode cX8_readFree 46 = .ok (.invokevirtual 126, 3) := by decide +kernel
theorem dX8_readFree_49 : decode cX8_readFree 49 = .ok (.istore_n 1, 1) := by decide +kernel
theorem dX8_readFree_50 : decode cX8_readFree 50 = .ok (.iload_n 1, 1) := by decide +kernel
theorem dX8_readFree_51 : decode cX8_readFree 51 = .ok (.ifCond .ge 7, 3) := by decide +kernel
theorem dX8_readFree_54 : decode cX8_readFree 54 = .ok (.iconst (-1), 1) := by decide +kernel
theorem dX8_readFree_55 : decode cX8_readFree 55 = .ok (.goto 7, 3) := by decide +kernel
theorem dX8_readFree_58 : decode cX8_readFree 58 = .ok (.aload_n 0, 1) := by decide +kernel
theorem dX8_readFree_59 : decode cX8_readFree 59 = .ok (.invokevirtual 126, 3) := by decide +kernel
theorem dX8_readFree_62 : decode cX8_readFree 62 = .ok (.istore_n 2, 1) := by decide +kernel
theorem dX8_readFree_63 : decode cX8_readFree 63 = .ok (.iload_n 2, 1) := by decide +kernel
theorem dX8_readFree_64 : decode cX8_readFree 64 = .ok (.ifCond .ge 5, 3) := by decide +kernel
theorem dX8_readFree_67 : decode cX8_readFree 67 = .ok (.iconst 0, 1) := by decide +kernel
theorem dX8_readFree_68 : decode cX8_readFree 68 = .ok (.ireturn, 1) := by decide +kernel
theorem dX8_readFree_69 : decode cX8_readFree 69 = .ok (.aload_n 0, 1) := by decide +kernel
theorem dX8_readFree_70 : decode cX8_readFree 70 = .ok (.getfield 46, 3) := by decide +kernel
theorem dX8_readFree_73 : decode cX8_readFree 73 = .ok (.iload_n 1, 1) := by decide +kernel
theorem dX8_readFree_74 : decode cX8_readFree 74 = .ok (.iload_n 2, 1) := by decide +kernel
theorem dX8_readFree_75 : decode cX8_readFree 75 = .ok (.invokevirtual 137, 3) := by decide +kernel
theorem dX8_readFree_78 : decode cX8_readFree 78 = .ok (.iconst 1, 1) := by decide +kernel
theorem dX8_readFree_79 : decode cX8_readFree 79 = .ok (.ireturn, 1) := by decide +kernel
theorem dX8_readEnd_0 : decode cX8_readEnd 0 = .ok (.aload_n 0, 1) := by decide +kernel
theorem dX8_readEnd_1 : decode cX8_readEnd 1 = .ok (.getfield 62, 3) := by decide +kernel
theorem dX8_readEnd_4 : decode cX8_readEnd 4 = .ok (.ifCond .ne 13, 3) := by decide +kernel
theorem dX8_readEnd_7 : decode cX8_readEnd 7 = .ok (.aload_n 0, 1) := by decide +kernel
theorem dX8_readEnd_8 : decode cX8_readEnd 8 = .ok (.getfield 12, 3) := by decide +kernel
theorem dX8_readEnd_11 : decode cX8_readEnd 11 = .ok (.bipush 7, 2) := by decide +kernel
theorem dX8_readEnd_13 : decode cX8_readEnd 13 = .ok (.invokevirtual 91, 3) := by decide +kernel
theorem dX8_readEnd_16 : decode cX8_readEnd 16 = .ok (.ireturn, 1) := by decide +kernel
theorem dX8_readEnd_17 : decode cX8_readEnd 17 = .ok (.aload_n 0, 1) := by decide +kernel
theorem dX8_readEnd_18 : decode cX8_readEnd 18 = .ok (.getfield 12, 3) := by decide +kernel
theorem dX8_readEnd_21 : decode cX8_readEnd 21 = .ok (.invokevirtual 95, 3) := by decide +kernel
theorem dX8_readEnd_24 : decode cX8_readEnd 24 = .ok (.aload_n 0, 1) := by decide +kernel
theorem dX8_readEnd_25 : decode cX8_readEnd 25 = .ok (.getfield 12, 3) := by decide +kernel
theorem dX8_readEnd_28 : decode cX8_readEnd 28 = .ok (.getfield 141, 3) := by decide +kernel
theorem dX8_readEnd_31 : decode cX8_readEnd 31 = .ok (.istore_n 1, 1) := by decide +kernel
theorem dX8_readEnd_32 : decode cX8_readEnd 32 = .ok (.aload_n 0, 1) := by decide +kernel
theorem dX8_readEnd_33 : decode cX8_readEnd 33 = .ok (.invokevirtual 126, 3) := by decide +kernel
theorem dX8_readEnd_36 : decode cX8_readEnd 36 = .ok (.istore_n 2, 1) := by decide +kernel
theorem dX8_readEnd_37 : decode cX8_readEnd 37 = .ok (.iload_n 2, 1) := by decide +kernel
theorem dX8_readEnd_38 : decode cX8_readEnd 38 = .ok (.ifCond .ge 5, 3) := by decide +kernel
theorem dX8_readEnd_41 : decode cX8_readEnd 41 = .ok (.iconst 0, 1) := by decide +kernel
theorem dX8_readEnd_42 : decode cX8_readEnd 42 = .ok (.ireturn, 1) := by decide +kernel
theorem dX8_readEnd_43 : decode cX8_readEnd 43 = .ok (.aload_n 0, 1) := by decide +kernel
theorem dX8_readEnd_44 : decode cX8_readEnd 44 = .ok (.getfield 46, 3) := by decide +kernel
theorem dX8_readEnd_47 : decode cX8_readEnd 47 = .ok (.getfield 144, 3) := by decide +kernel
theorem dX8_readEnd_50 : decode cX8_readEnd 50 = .ok (.iload_n 2, 1) := by decide +kernel
theorem dX8_readEnd_51 : decode cX8_readEnd 51 = .ok (.lushr, 1) := by decide +kernel
theorem dX8_readEnd_52 : decode cX8_readEnd 52 = .ok (.lconst 1, 1) := by decide +kernel
theorem dX8_readEnd_53 : decode cX8_readEnd 53 = .ok (.land, 1) := by decide +kernel
theorem dX8_readEnd_54 : decode cX8_readEnd 54 = .ok (.lconst 1, 1) := by decide +kernel
theorem dX8_readEnd_55 : decode cX8_readEnd 55 = .ok (.lcmp, 1) := by decide +kernel
theorem dX8_readEnd_56 : decode cX8_readEnd 56 = .ok (.ifCond .ne 13, 3) := by decide +kernel
theorem dX8_readEnd_59 : decode cX8_readEnd 59 = .ok (.aload_n 0, 1) := by decide +kernel
theorem dX8_readEnd_60 : decode cX8_readEnd 60 = .ok (.getfield 12, 3) := by decide +kernel
theorem dX8_readEnd_63 : decode cX8_readEnd 63 = .ok (.iconst 3, 1) := by decide +kernel
theorem dX8_readEnd_64 : decode cX8_readEnd 64 = .ok (.iload_n 1, 1) := by decide +kernel
theorem dX8_readEnd_65 : decode cX8_readEnd 65 = .ok (.invokevirtual 147, 3) := by decide +kernel
theorem dX8_readEnd_68 : decode cX8_readEnd 68 = .ok (.ireturn, 1) := by decide +kernel
theorem dX8_readEnd_69 : decode cX8_readEnd 69 = .ok (.aload_n 0, 1) := by decide +kernel
theorem dX8_readEnd_70 : decode cX8_readEnd 70 = .ok (.getfield 46, 3) := by decide +kernel
theorem dX8_readEnd_73 : decode cX8_readEnd 73 = .ok (.dup, 1) := by decide +kernel
theorem dX8_readEnd_74 : decode cX8_readEnd 74 = .ok (.getfield 144, 3) := by decide +kernel
theorem dX8_readEnd_77 : decode cX8_readEnd 77 = .ok (.lconst 1, 1) := by decide +kernel
theorem dX8_readEnd_78 : decode cX8_readEnd 78 = .ok (.iload_n 2, 1) := by decide +kernel
theorem dX8_readEnd_79 : decode cX8_readEnd 79 = .ok (.lshl, 1) := by decide +kernel
theorem dX8_readEnd_80 : decode cX8_readEnd 80 = .ok (.lor, 1) := by decide +kernel
theorem dX8_readEnd_81 : decode cX8_readEnd 81 = .ok (.putfield 144, 3) := by decide +kernel
theorem dX8_readEnd_84 : decode cX8_readEnd 84 = .ok (.iconst 1, 1) := by decide +kernel
theorem dX8_readEnd_85 : decode cX8_readEnd 85 = .ok (.ireturn, 1) := by decide +kernel
theorem dX8_readState_0 : decode cX8_readState 0 = .ok (.aload_n 0, 1) := by decide +kernel
theorem dX8_readState_1 : decode cX8_readState 1 = .ok (.getfield 12, 3) := by decide +kernel
theorem dX8_readState_4 : decode cX8_readState 4 = .ok (.getfield 69, 3) := by decide +kernel
theorem dX8_readState_7 : decode cX8_readState 7 = .ok (.iconst 3, 1) := by decide +kernel
theorem dX8_readState_8 : decode cX8_readState 8 = .ok (.if_icmp .eq 14, 3) := by decide +kernel
theorem dX8_readState_11 : decode cX8_readState 11 = .ok (.aload_n 0, 1) := by decide +kernel
theorem dX8_readState_12 : decode cX8_readState 12 = .ok (.getfield 12, 3) := by decide +kernel
theorem dX8_readState_15 : decode cX8_readState 15 = .ok (.iconst 1, 1) := by decide +kernel
theorem dX8_readState_16 : decode cX8_readState 16 = .ok (.invokevirtual 91, 3) := by decide +kernel
theorem dX8_readState_19 : decode cX8_readState 19 = .ok (.pop, 1) := by decide +kernel
theorem dX8_readState_20 : decode cX8_readState 20 = .ok (.iconst (-1), 1) := by decide +kernel
theorem dX8_readState_21 : decode cX8_readState 21 = .ok (.ireturn, 1) := by decide +kernel
theorem dX8_readState_22 : decode cX8_readState 22 = .ok (.aload_n 0, 1) := by decide +kernel
theorem dX8_readState_23 : decode cX8_readState 23 = .ok (.getfield 12, 3) := by decide +kernel
theorem dX8_readState_26 : decode cX8_readState 26 = .ok (.getfield 98, 3) := by decide +kernel
theorem dX8_readState_29 : decode cX8_readState 29 = .ok (.lstore_n 1, 1) := by decide +kernel
theorem dX8_readState_30 : decode cX8_readState 30 = .ok (.lload_n 1, 1) := by decide +kernel
theorem dX8_readState_31 : decode cX8_readState 31 = .ok (.aload_n 0, 1) := by decide +kernel
theorem dX8_readState_32 : decode cX8_readState 32 = .ok (.getfield 46, 3) := by decide +kernel
theorem dX8_readState_35 : decode cX8_readState 35 = .ok (.getfield 151, 3) := by decide +kernel
theorem dX8_readState_38 : decode cX8_readState 38 = .ok (.i2l, 1) := by decide +kernel
theorem dX8_readState_39 : decode cX8_readState 39 = .ok (.lcmp, 1) := by decide +kernel
theorem dX8_readState_40 : decode cX8_readState 40 = .ok (.ifCond .lt 14, 3) := by decide +kernel
theorem dX8_readState_43 : decode cX8_readState 43 = .ok (.aload_n 0, 1) := by decide +kernel
theorem dX8_readState_44 : decode cX8_readState 44 = .ok (.getfield 12, 3) := by decide +kernel
theorem dX8_readState_47 : decode cX8_readState 47 = .ok (.iconst 2, 1) := by decide +kernel
theorem dX8_readState_48 : decode cX8_readState 48 = .ok (.invokevirtual 91, 3) := by decide +kernel
theorem dX8_readState_51 : decode cX8_readState 51 = .ok (.pop, 1) := by decide +kernel
theorem dX8_readState_52 : decode cX8_readState 52 = .ok (.iconst (-1), 1) := by decide +kernel
theorem dX8_readState_53 : decode cX8_readState 53 = .ok (.ireturn, 1) := by decide +kernel
theorem dX8_readState_54 : decode cX8_readState 54 = .ok (.aload_n 0, 1) := by decide +kernel
theorem dX8_readState_55 : decode cX8_readState 55 = .ok (.getfield 12, 3) := by decide +kernel
theorem dX8_readState_58 : decode cX8_readState 58 = .ok (.invokevirtual 95, 3) := by decide +kernel
theorem dX8_readState_61 : decode cX8_readState 61 = .ok (.lload_n 1, 1) := by decide +kernel
theorem dX8_readState_62 : decode cX8_readState 62 = .ok (.l2i, 1) := by decide +kernel
theorem dX8_readState_63 : decode cX8_readState 63 = .ok (.ireturn, 1) := by decide +kernel
theorem dX8_closeMachine_0 : decode cX8_closeMachine 0 = .ok (.aload_n 0, 1) := by decide +kernel
theorem dX8_closeMachine_1 : decode cX8_closeMachine 1 = .ok (.getfield 62, 3) := by decide +kernel
theorem dX8_closeMachine_4 : decode cX8_closeMachine 4 = .ok (.iconst 1, 1) := by decide +kernel
theorem dX8_closeMachine_5 : decode cX8_closeMachine 5 = .ok (.isub, 1) := by decide +kernel
theorem dX8_closeMachine_6 : decode cX8_closeMachine 6 = .ok (.istore_n 1, 1) := by decide +kernel
theorem dX8_closeMachine_7 : decode cX8_closeMachine 7 = .ok (.iload_n 1, 1) := by decide +kernel
theorem dX8_closeMachine_8 : decode cX8_closeMachine 8 = .ok (.iconst 4, 1) := by decide +kernel
theorem dX8_closeMachine_9 : decode cX8_closeMachine 9 = .ok (.invokestatic 154, 3) := by decide +kernel
theorem dX8_closeMachine_12 : decode cX8_closeMachine 12 = .ok (.ifCond .ne 4, 3) := by decide +kernel
theorem dX8_closeMachine_15 : decode cX8_closeMachine 15 = .ok (.return_, 1) := by decide +kernel
theorem dX8_closeMachine_16 : decode cX8_closeMachine 16 = .ok (.aload_n 0, 1) := by decide +kernel
theorem dX8_closeMachine_17 : decode cX8_closeMachine 17 = .ok (.getfield 46, 3) := by decide +kernel
theorem dX8_closeMachine_20 : decode cX8_closeMachine 20 = .ok (.getfield 123, 3) := by decide +kernel
theorem dX8_closeMachine_23 : decode cX8_closeMachine 23 = .ok (.bipush 24, 2) := by decide +kernel
theorem dX8_closeMachine_25 : decode cX8_closeMachine 25 = .ok (.invokestatic 157, 3) := by decide +kernel
theorem dX8_closeMachine_28 : decode cX8_closeMachine 28 = .ok (.istore_n 2, 1) := by decide +kernel
theorem dX8_closeMachine_29 : decode cX8_closeMachine 29 = .ok (.iconst 0, 1) := by decide +kernel
theorem dX8_closeMachine_30 : decode cX8_closeMachine 30 = .ok (.istore_n 3, 1) := by decide +kernel
theorem dX8_closeMachine_31 : decode cX8_closeMachine 31 = .ok (.iload_n 3, 1) := by decide +kernel
theorem dX8_closeMachine_32 : decode cX8_closeMachine 32 = .ok (.iload_n 2, 1) := by decide +kernel
theorem dX8_closeMachine_33 : decode cX8_closeMachine 33 = .ok (.if_icmp .ge 22, 3) := by decide +kernel
theorem dX8_closeMachine_36 : decode cX8_closeMachine 36 = .ok (.aload_n 0, 1) := by decide +kernel
theorem dX8_closeMachine_37 : decode cX8_closeMachine 37 = .ok (.getfield 46, 3) := by decide +kernel
theorem dX8_closeMachine_40 : decode cX8_closeMachine 40 = .ok (.aload_n 0, 1) := by decide +kernel
theorem dX8_closeMachine_41 : decode cX8_closeMachine 41 = .ok (.getfield 29, 3) := by decide +kernel
theorem dX8_closeMachine_44 : decode cX8_closeMachine 44 = .ok (.iload_n 3, 1) := by decide +kernel
theorem dX8_closeMachine_45 : decode cX8_closeMachine 45 = .ok (.aaload, 1) := by decide +kernel
theorem dX8_closeMachine_46 : decode cX8_closeMachine 46 = .ok (.invokevirtual 162, 3) := by decide +kernel
theorem dX8_closeMachine_49 : decode cX8_closeMachine 49 = .ok (.iinc 3 1, 3) := by decide +kernel
theorem dX8_closeMachine_52 : decode cX8_closeMachine 52 = .ok (.goto (-21), 3) := by decide +kernel
theorem dX8_closeMachine_55 : decode cX8_closeMachine 55 = .ok (.iconst 0, 1) := by decide +kernel
theorem dX8_closeMachine_56 : decode cX8_closeMachine 56 = .ok (.istore_n 3, 1) := by decide +kernel
theorem dX8_closeMachine_57 : decode cX8_closeMachine 57 = .ok (.iload_n 3, 1) := by decide +kernel
theorem dX8_closeMachine_58 : decode cX8_closeMachine 58 = .ok (.iload_n 2, 1) := by decide +kernel
theorem dX8_closeMachine_59 : decode cX8_closeMachine 59 = .ok (.if_icmp .ge 23, 3) := by decide +kernel
theorem dX8_closeMachine_62 : decode cX8_closeMachine 62 = .ok (.aload_n 0, 1) := by decide +kernel
theorem dX8_closeMachine_63 : decode cX8_closeMachine 63 = .ok (.getfield 46, 3) := by decide +kernel
theorem dX8_closeMachine_66 : decode cX8_closeMachine 66 = .ok (.iload_n 3, 1) := by decide +kernel
theorem dX8_closeMachine_67 : decode cX8_closeMachine 67 = .ok (.aload_n 0, 1) := by decide +kernel
theorem dX8_closeMachine_68 : decode cX8_closeMachine 68 = .ok (.getfield 29, 3) := by decide +kernel
theorem dX8_closeMachine_71 : decode cX8_closeMachine 71 = .ok (.iload_n 3, 1) := by decide +kernel
theorem dX8_closeMachine_72 : decode cX8_closeMachine 72 = .ok (.aaload, 1) := by decide +kernel
theorem dX8_closeMachine_73 : decode cX8_closeMachine 73 = .ok (.invokevirtual 166, 3) := by decide +kernel
theorem dX8_closeMachine_76 : decode cX8_closeMachine 76 = .ok (.iinc 3 1, 3) := by decide +kernel
theorem dX8_closeMachine_79 : decode cX8_closeMachine 79 = .ok (.goto (-22), 3) := by decide +kernel
theorem dX8_closeMachine_82 : decode cX8_closeMachine 82 = .ok (.aload_n 0, 1) := by decide +kernel
theorem dX8_closeMachine_83 : decode cX8_closeMachine 83 = .ok (.getfield 35, 3) := by decide +kernel
theorem dX8_closeMachine_86 : decode cX8_closeMachine 86 = .ok (.iload_n 1, 1) := by decide +kernel
theorem dX8_closeMachine_87 : decode cX8_closeMachine 87 = .ok (.aaload, 1) := by decide +kernel
theorem dX8_closeMachine_88 : decode cX8_closeMachine 88 = .ok (.aload_n 0, 1) := by decide +kernel
theorem dX8_closeMachine_89 : decode cX8_closeMachine 89 = .ok (.getfield 46, 3) := by decide +kernel
theorem dX8_closeMachine_92 : decode cX8_closeMachine 92 = .ok (.invokevirtual 170, 3) := by decide +kernel
theorem dX8_closeMachine_95 : decode cX8_closeMachine 95 = .ok (.ifCond .ne 8, 3) := by decide +kernel
theorem dX8_closeMachine_98 : decode cX8_closeMachine 98 = .ok (.aload_n 0, 1) := by decide +kernel
theorem dX8_closeMachine_99 : decode cX8_closeMachine 99 = .ok (.iconst 1, 1) := by decide +kernel
theorem dX8_closeMachine_100 : decode cX8_closeMachine 100 = .ok (.putfield 65, 3) := by decide +kernel
theorem dX8_closeMachine_103 : decode cX8_closeMachine 103 = .ok (.return_, 1) := by decide +kernel
theorem dX9_numberOf_0 : decode cX9_numberOf 0 = .ok (.iconst 0, 1) := by decide +kernel
theorem dX9_numberOf_1 : decode cX9_numberOf 1 = .ok (.istore_n 3, 1) := by decide +kernel
theorem dX9_numberOf_2 : decode cX9_numberOf 2 = .ok (.iload_n 3, 1) := by decide +kernel
theorem dX9_numberOf_3 : decode cX9_numberOf 3 = .ok (.aload_n 0, 1) := by decide +kernel
theorem dX9_numberOf_4 : decode cX9_numberOf 4 = .ok (.getfield 24, 3) := by decide +kernel
theorem dX9_numberOf_7 : decode cX9_numberOf 7 = .ok (.if_icmp .ge 28, 3) := by decide +kernel
theorem dX9_numberOf_10 : decode cX9_numberOf 10 = .ok (.iload_n 3, 1) := by decide +kernel
theorem dX9_numberOf_11 : decode cX9_numberOf 11 = .ok (.bipush 12, 2) := by decide +kernel
theorem dX9_numberOf_13 : decode cX9_numberOf 13 = .ok (.if_icmp .ge 22, 3) := by decide +kernel
theorem dX9_numberOf_16 : decode cX9_numberOf 16 = .ok (.aload_n 0, 1) := by decide +kernel
theorem dX9_numberOf_17 : decode cX9_numberOf 17 = .ok (.getfield 17, 3) := by decide +kernel
theorem dX9_numberOf_20 : decode cX9_numberOf 20 = .ok (.iload_n 3, 1) := by decide +kernel
theorem dX9_numberOf_21 : decode cX9_numberOf 21 = .ok (.laload, 1) := by decide +kernel
theorem dX9_numberOf_22 : decode cX9_numberOf 22 = .ok (.lload_n 1, 1) := by decide +kernel
theorem dX9_numberOf_23 : decode cX9_numberOf 23 = .ok (.lcmp, 1) := by decide +kernel
theorem dX9_numberOf_24 : decode cX9_numberOf 24 = .ok (.ifCond .ne 5, 3) := by decide +kernel
theorem dX9_numberOf_27 : decode cX9_numberOf 27 = .ok (.iload_n 3, 1) := by decide +kernel
theorem dX9_numberOf_28 : decode cX9_numberOf 28 = .ok (.ireturn, 1) := by decide +kernel
theorem dX9_numberOf_29 : decode cX9_numberOf 29 = .ok (.iinc 3 1, 3) := by decide +kernel
theorem dX9_numberOf_32 : decode cX9_numberOf 32 = .ok (.goto (-30), 3) := by decide +kernel
theorem dX9_numberOf_35 : decode cX9_numberOf 35 = .ok (.iconst (-1), 1) := by decide +kernel
theorem dX9_numberOf_36 : decode cX9_numberOf 36 = .ok (.ireturn, 1) := by decide +kernel
theorem dX10_split_0 : decode cX10_split 0 = .ok (.aload_n 0, 1) := by decide +kernel
theorem dX10_split_1 : decode cX10_split 1 = .ok (.iconst 0, 1) := by decide +kernel
theorem dX10_split_2 : decode cX10_split 2 = .ok (.putfield 22, 3) := by decide +kernel
theorem dX10_split_5 : decode cX10_split 5 = .ok (.aload_n 0, 1) := by decide +kernel
theorem dX10_split_6 : decode cX10_split 6 = .ok (.iconst 0, 1) := by decide +kernel
theorem dX10_split_7 : decode cX10_split 7 = .ok (.putfield 26, 3) := by decide +kernel
theorem dX10_split_10 : decode cX10_split 10 = .ok (.aload_n 0, 1) := by decide +kernel
theorem dX10_split_11 : decode cX10_split 11 = .ok (.iconst (-1), 1) := by decide +kernel
theorem dX10_split_12 : decode cX10_split 12 = .ok (.putfield 29, 3) := by decide +kernel
theorem dX10_split_15 : decode cX10_split 15 = .ok (.iconst 0, 1) := by decide +kernel
theorem dX10_split_16 : decode cX10_split 16 = .ok (.istore_n 3, 1) := by decide +kernel
theorem dX10_split_17 : decode cX10_split 17 = .ok (.iconst 0, 1) := by decide +kernel
theorem dX10_split_18 : decode cX10_split 18 = .ok (.istore 4, 2) := by decide +kernel
theorem dX10_split_20 : decode cX10_split 20 = .ok (.iload 4, 2) := by decide +kernel
theorem dX10_split_22 : decode cX10_split 22 = .ok (.iload_n 2, 1) := by decide +kernel
theorem dX10_split_23 : decode cX10_split 23 = .ok (.if_icmp .ge 48, 3) := by decide +kernel
theorem dX10_split_26 : decode cX10_split 26 = .ok (.iload_n 3, 1) := by decide +kernel
theorem dX10_split_27 : decode cX10_split 27 = .ok (.iload_n 2, 1) := by decide +kernel
theorem dX10_split_28 : decode cX10_split 28 = .ok (.if_icmp .ge 43, 3) := by decide +kernel
theorem dX10_split_31 : decode cX10_split 31 = .ok (.aload_n 1, 1) := by decide +kernel
theorem dX10_split_32 : decode cX10_split 32 = .ok (.iload_n 3, 1) := by decide +kernel
theorem dX10_split_33 : decode cX10_split 33 = .ok (.baload, 1) := by decide +kernel
theorem dX10_split_34 : decode cX10_split 34 = .ok (.bipush 32, 2) := by decide +kernel
theorem dX10_split_36 : decode cX10_split 36 = .ok (.if_icmp .ne 7, 3) := by decide +kernel
theorem dX10_split_39 : decode cX10_split 39 = .ok (.iconst 1, 1) := by decide +kernel
theorem dX10_split_40 : decode cX10_split 40 = .ok (.goto 10, 3) := by decide +kernel
theorem dX10_split_43 : decode cX10_split 43 = .ok (.aload_n 0, 1) := by decide +kernel
theorem dX10_split_44 : decode cX10_split 44 = .ok (.aload_n 1, 1) := by decide +kernel
theorem dX10_split_45 : decode cX10_split 45 = .ok (.iload_n 3, 1) := by decide +kernel
theorem dX10_split_46 : decode cX10_split 46 = .ok (.iload_n 2, 1) := by decide +kernel
theorem dX10_split_47 : decode cX10_split 47 = .ok (.invokevirtual 32, 3) := by decide +kernel
theorem dX10_split_50 : decode cX10_split 50 = .ok (.istore 5, 2) := by decide +kernel
theorem dX10_split_52 : decode cX10_split 52 = .ok (.iload 5, 2) := by decide +kernel
theorem dX10_split_54 : decode cX10_split 54 = .ok (.ifCond .ne 6, 3) := by decide +kernel
theorem dX10_split_57 : decode cX10_split 57 = .ok (.goto 14, 3) := by decide +kernel
theorem dX10_split_60 : decode cX10_split 60 = .ok (.iload_n 3, 1) := by decide +kernel
theorem dX10_split_61 : decode cX10_split 61 = .ok (.iload 5, 2) := by decide +kernel
theorem dX10_split_63 : decode cX10_split 63 = .ok (.iadd, 1) := by decide +kernel
theorem dX10_split_64 : decode cX10_split 64 = .ok (.istore_n 3, 1) := by decide +kernel
theorem dX10_split_65 : decode cX10_split 65 = .ok (.iinc 4 1, 3) := by decide +kernel
theorem dX10_split_68 : decode cX10_split 68 = .ok (.goto (-48), 3) := by decide +kernel
theorem dX10_split_71 : decode cX10_split 71 = .ok (.aload_n 0, 1) := by decide +kernel
theorem dX10_split_72 : decode cX10_split 72 = .ok (.iload_n 3, 1) := by decide +kernel
theorem dX10_split_73 : decode cX10_split 73 = .ok (.iload_n 2, 1) := by decide +kernel
theorem dX10_split_74 : decode cX10_split 74 = .ok (.if_icmp .ge 7, 3) := by decide +kernel
theorem dX10_split_77 : decode cX10_split 77 = .ok (.iconst 1, 1) := by decide +kernel
theorem dX10_split_78 : decode cX10_split 78 = .ok (.goto 4, 3) := by decide +kernel
theorem dX10_split_81 : decode cX10_split 81 = .ok (.iconst 0, 1) := by decide +kernel
theorem dX10_split_82 : decode cX10_split 82 = .ok (.iload_n 3, 1) := by decide +kernel
theorem dX10_split_83 : decode cX10_split 83 = .ok (.lconst 0, 1) := by decide +kernel
theorem dX10_split_84 : decode cX10_split 84 = .ok (.invokevirtual 36, 3) := by decide +kernel
theorem dX10_split_87 : decode cX10_split 87 = .ok (.aload_n 0, 1) := by decide +kernel
theorem dX10_split_88 : decode cX10_split 88 = .ok (.iconst (-1), 1) := by decide +kernel
theorem dX10_split_89 : decode cX10_split 89 = .ok (.putfield 40, 3) := by decide +kernel
theorem dX10_split_92 : decode cX10_split 92 = .ok (.aload_n 0, 1) := by decide +kernel
theorem dX10_split_93 : decode cX10_split 93 = .ok (.invokevirtual 43, 3) := by decide +kernel
theorem dX10_split_96 : decode cX10_split 96 = .ok (.return_, 1) := by decide +kernel
theorem dX10_step_0 : decode cX10_step 0 = .ok (.aload_n 0, 1) := by decide +kernel
theorem dX10_step_1 : decode cX10_step 1 = .ok (.getfield 40, 3) := by decide +kernel
theorem dX10_step_4 : decode cX10_step 4 = .ok (.iconst 1, 1) := by decide +kernel
theorem dX10_step_5 : decode cX10_step 5 = .ok (.iadd, 1) := by decide +kernel
theorem dX10_step_6 : decode cX10_step 6 = .ok (.aload_n 0, 1) := by decide +kernel
theorem dX10_step_7 : decode cX10_step 7 = .ok (.getfield 22, 3) := by decide +kernel
theorem dX10_step_10 : decode cX10_step 10 = .ok (.if_icmp .ge 52, 3) := by decide +kernel
theorem dX10_step_13 : decode cX10_step 13 = .ok (.aload_n 0, 1) := by decide +kernel
theorem dX10_step_14 : decode cX10_step 14 = .ok (.dup, 1) := by decide +kernel
theorem dX10_step_15 : decode cX10_step 15 = .ok (.getfield 40, 3) := by decide +kernel
theorem dX10_step_18 : decode cX10_step 18 = .ok (.iconst 1, 1) := by decide +kernel
theorem dX10_step_19 : decode cX10_step 19 = .ok (.iadd, 1) := by decide +kernel
theorem dX10_step_20 : decode cX10_step 20 = .ok (.putfield 40, 3) := by decide +kernel
theorem dX10_step_23 : decode cX10_step 23 = .ok (.aload_n 0, 1) := by decide +kernel
theorem dX10_step_24 : decode cX10_step 24 = .ok (.aload_n 0, 1) := by decide +kernel
theorem dX10_step_25 : decode cX10_step 25 = .ok (.getfield 9, 3) := by decide +kernel
theorem dX10_step_28 : decode cX10_step 28 = .ok (.aload_n 0, 1) := by decide +kernel
theorem dX10_step_29 : decode cX10_step 29 = .ok (.getfield 40, 3) := by decide +kernel
theorem dX10_step_32 : decode cX10_step 32 = .ok (.iaload, 1) := by decide +kernel
theorem dX10_step_33 : decode cX10_step 33 = .ok (.putfield 46, 3) := by decide +kernel
theorem dX10_step_36 : decode cX10_step 36 = .ok (.aload_n 0, 1) := by decide +kernel
theorem dX10_step_37 : decode cX10_step 37 = .ok (.aload_n 0, 1) := by decide +kernel
theorem dX10_step_38 : decode cX10_step 38 = .ok (.getfield 15, 3) := by decide +kernel
theorem dX10_step_41 : decode cX10_step 41 = .ok (.aload_n 0, 1) := by decide +kernel
theorem dX10_step_42 : decode cX10_step 42 = .ok (.getfield 40, 3) := by decide +kernel
theorem dX10_step_45 : decode cX10_step 45 = .ok (.iaload, 1) := by decide +kernel
theorem dX10_step_46 : decode cX10_step 46 = .ok (.putfield 49, 3) := by decide +kernel
theorem dX10_step_49 : decode cX10_step 49 = .ok (.aload_n 0, 1) := by decide +kernel
theorem dX10_step_50 : decode cX10_step 50 = .ok (.aload_n 0, 1) := by decide +kernel
theorem dX10_step_51 : decode cX10_step 51 = .ok (.getfield 18, 3) := by decide +kernel
theorem dX10_step_54 : decode cX10_step 54 = .ok (.aload_n 0, 1) := by decide +kernel
theorem dX10_step_55 : decode cX10_step 55 = .ok (.getfield 40, 3) := by decide +kernel
theorem dX10_step_58 : decode cX10_step 58 = .ok (.laload, 1) := by decide +kernel
theorem dX10_step_59 : decode cX10_step 59 = .ok (.putfield 52, 3) := by decide +kernel
theorem dX10_step_62 : decode cX10_step 62 = .ok (.return_, 1) := by decide +kernel
theorem dX10_fail_0 : decode cX10_fail 0 = .ok (.aload_n 0, 1) := by decide +kernel
theorem dX10_fail_1 : decode cX10_fail 1 = .ok (.iload_n 1, 1) := by decide +kernel
theorem dX10_fail_2 : decode cX10_fail 2 = .ok (.putfield 26, 3) := by decide +kernel
theorem dX10_fail_5 : decode cX10_fail 5 = .ok (.aload_n 0, 1) := by decide +kernel
theorem dX10_fail_6 : decode cX10_fail 6 = .ok (.aload_n 0, 1) := by decide +kernel
theorem dX10_fail_7 : decode cX10_fail 7 = .ok (.getfield 49, 3) := by decide +kernel
theorem dX10_fail_10 : decode cX10_fail 10 = .ok (.putfield 29, 3) := by decide +kernel
theorem dX10_fail_13 : decode cX10_fail 13 = .ok (.iconst 0, 1) := by decide +kernel
theorem dX10_fail_14 : decode cX10_fail 14 = .ok (.ireturn, 1) := by decide +kernel
theorem dX10_failAt_0 : decode cX10_failAt 0 = .ok (.aload_n 0, 1) := by decide +kernel
theorem dX10_failAt_1 : decode cX10_failAt 1 = .ok (.iload_n 1, 1) := by decide +kernel
theorem dX10_failAt_2 : decode cX10_failAt 2 = .ok (.putfield 26, 3) := by decide +kernel
theorem dX10_failAt_5 : decode cX10_failAt 5 = .ok (.aload_n 0, 1) := by decide +kernel
theorem dX10_failAt_6 : decode cX10_failAt 6 = .ok (.iload_n 2, 1) := by decide +kernel
theorem dX10_failAt_7 : decode cX10_failAt 7 = .ok (.putfield 29, 3) := by decide +kernel
theorem dX10_failAt_10 : decode cX10_failAt 10 = .ok (.iconst 0, 1) := by decide +kernel
theorem dX10_failAt_11 : decode cX10_failAt 11 = .ok (.ireturn, 1) := by decide +kernel
theorem dX10_addToken_0 : decode cX10_addToken 0 = .ok (.aload_n 1, 1) := by decide +kernel
theorem dX10_addToken_1 : decode cX10_addToken 1 = .ok (.iload_n 2, 1) := by decide +kernel
theorem dX10_addToken_2 : decode cX10_addToken 2 = .ok (.iload_n 3, 1) := by decide +kernel
theorem dX10_addToken_3 : decode cX10_addToken 3 = .ok (.bipush 97, 2) := by decide +kernel
theorem dX10_addToken_5 : decode cX10_addToken 5 = .ok (.bipush 122, 2) := by decide +kernel
theorem dX10_addToken_7 : decode cX10_addToken 7 = .ok (.invokestatic 56, 3) := by decide +kernel
theorem dX10_addToken_10 : decode cX10_addToken 10 = .ok (.istore 4, 2) := by decide +kernel
theorem dX10_addToken_12 : decode cX10_addToken 12 = .ok (.iload 4, 2) := by decide +kernel
theorem dX10_addToken_14 : decode cX10_addToken 14 = .ok (.ifCond .le 38, 3) := by decide +kernel
theorem dX10_addToken_17 : decode cX10_addToken 17 = .ok (.iload 4, 2) := by decide +kernel
theorem dX10_addToken_19 : decode cX10_addToken 19 = .ok (.bipush 7, 2) := by decide +kernel
theorem dX10_addToken_21 : decode cX10_addToken 21 = .ok (.if_icmp .gt 31, 3) := by decide +kernel
theorem dX10_addToken_24 : decode cX10_addToken 24 = .ok (.aload_n 1, 1) := by decide +kernel
theorem dX10_addToken_25 : decode cX10_addToken 25 = .ok (.iload_n 2, 1) := by decide +kernel
theorem dX10_addToken_26 : decode cX10_addToken 26 = .ok (.iload 4, 2) := by decide +kernel
theorem dX10_addToken_28 : decode cX10_addToken 28 = .ok (.bipush 96, 2) := by decide +kernel
theorem dX10_addToken_30 : decode cX10_addToken 30 = .ok (.bipush 32, 2) := by decide +kernel
theorem dX10_addToken_32 : decode cX10_addToken 32 = .ok (.invokestatic 60, 3) := by decide +kernel
theorem dX10_addToken_35 : decode cX10_addToken 35 = .ok (.lstore 5, 2) := by decide +kernel
theorem dX10_addToken_37 : decode cX10_addToken 37 = .ok (.aload_n 0, 1) := by decide +kernel
theorem dX10_addToken_38 : decode cX10_addToken 38 = .ok (.lload 5, 2) := by decide +kernel
theorem dX10_addToken_40 : decode cX10_addToken 40 = .ok (.invokestatic 64, 3) := by decide +kernel
theorem dX10_addToken_43 : decode cX10_addToken 43 = .ok (.iload_n 2, 1) := by decide +kernel
theorem dX10_addToken_44 : decode cX10_addToken 44 = .ok (.lload 5, 2) := by decide +kernel
theorem dX10_addToken_46 : decode cX10_addToken 46 = .ok (.invokevirtual 36, 3) := by decide +kernel
theorem dX10_addToken_49 : decode cX10_addToken 49 = .ok (.iload 4, 2) := by decide +kernel
theorem dX10_addToken_51 : decode cX10_addToken 51 = .ok (.ireturn, 1) := by decide +kernel
theorem dX10_addToken_52 : decode cX10_addToken 52 = .ok (.aload_n 1, 1) := by decide +kernel
theorem dX10_addToken_53 : decode cX10_addToken 53 = .ok (.iload_n 2, 1) := by decide +kernel
theorem dX10_addToken_54 : decode cX10_addToken 54 = .ok (.iload_n 3, 1) := by decide +kernel
theorem dX10_addToken_55 : decode cX10_addToken 55 = .ok (.bipush 48, 2) := by decide +kernel
theorem dX10_addToken_57 : decode cX10_addToken 57 = .ok (.bipush 57, 2) := by decide +kernel
theorem dX10_addToken_59 : decode cX10_addToken 59 = .ok (.invokestatic 56, 3) := by decide +kernel
theorem dX10_addToken_62 : decode cX10_addToken 62 = .ok (.istore 5, 2) := by decide +kernel
theorem dX10_addToken_64 : decode cX10_addToken 64 = .ok (.iload 5, 2) := by decide +kernel
theorem dX10_addToken_66 : decode cX10_addToken 66 = .ok (.ifCond .le 29, 3) := by decide +kernel
theorem dX10_addToken_69 : decode cX10_addToken 69 = .ok (.iload 5, 2) := by decide +kernel
theorem dX10_addToken_71 : decode cX10_addToken 71 = .ok (.iconst 5, 1) := by decide +kernel
theorem dX10_addToken_72 : decode cX10_addToken 72 = .ok (.if_icmp .gt 23, 3) := by decide +kernel
theorem dX10_addToken_75 : decode cX10_addToken 75 = .ok (.aload_n 0, 1) := by decide +kernel
theorem dX10_addToken_76 : decode cX10_addToken 76 = .ok (.iconst 3, 1) := by decide +kernel
theorem dX10_addToken_77 : decode cX10_addToken 77 = .ok (.iload_n 2, 1) := by decide +kernel
theorem dX10_addToken_78 : decode cX10_addToken 78 = .ok (.aload_n 1, 1) := by decide +kernel
theorem dX10_addToken_79 : decode cX10_addToken 79 = .ok (.iload_n 2, 1) := by decide +kernel
theorem dX10_addToken_80 : decode cX10_addToken 80 = .ok (.iload 5, 2) := by decide +kernel
theorem dX10_addToken_82 : decode cX10_addToken 82 = .ok (.bipush 48, 2) := by decide +kernel
theorem dX10_addToken_84 : decode cX10_addToken 84 = .ok (.bipush 10, 2) := by decide +kernel
theorem dX10_addToken_86 : decode cX10_addToken 86 = .ok (.invokestatic 60, 3) := by decide +kernel
theorem dX10_addToken_89 : decode cX10_addToken 89 = .ok (.invokevirtual 36, 3) := by decide +kernel
theorem dX10_addToken_92 : decode cX10_addToken 92 = .ok (.iload 5, 2) := by decide +kernel
theorem dX10_addToken_94 : decode cX10_addToken 94 = .ok (.ireturn, 1) := by decide +kernel
theorem dX10_addToken_95 : decode cX10_addToken 95 = .ok (.aload_n 1, 1) := by decide +kernel
theorem dX10_addToken_96 : decode cX10_addToken 96 = .ok (.iload_n 2, 1) := by decide +kernel
theorem dX10_addToken_97 : decode cX10_addToken 97 = .ok (.iload_n 3, 1) := by decide +kernel
theorem dX10_addToken_98 : decode cX10_addToken 98 = .ok (.bipush 46, 2) := by decide +kernel
theorem dX10_addToken_100 : decode cX10_addToken 100 = .ok (.bipush 46, 2) := by decide +kernel
theorem dX10_addToken_102 : decode cX10_addToken 102 = .ok (.invokestatic 56, 3) := by decide +kernel
theorem dX10_addToken_105 : decode cX10_addToken 105 = .ok (.iconst 2, 1) := by decide +kernel
theorem dX10_addToken_106 : decode cX10_addToken 106 = .ok (.if_icmp .lt 12, 3) := by decide +kernel
theorem dX10_addToken_109 : decode cX10_addToken 109 = .ok (.aload_n 0, 1) := by decide +kernel
theorem dX10_addToken_110 : decode cX10_addToken 110 = .ok (.iconst 4, 1) := by decide +kernel
theorem dX10_addToken_111 : decode cX10_addToken 111 = .ok (.iload_n 2, 1) := by decide +kernel
theorem dX10_addToken_112 : decode cX10_addToken 112 = .ok (.lconst 0, 1) := by decide +kernel
theorem dX10_addToken_113 : decode cX10_addToken 113 = .ok (.invokevirtual 36, 3) := by decide +kernel
theorem dX10_addToken_116 : decode cX10_addToken 116 = .ok (.iconst 2, 1) := by decide +kernel
theorem dX10_addToken_117 : decode cX10_addToken 117 = .ok (.ireturn, 1) := by decide +kernel
theorem dX10_addToken_118 : decode cX10_addToken 118 = .ok (.aload_n 1, 1) := by decide +kernel
theorem dX10_addToken_119 : decode cX10_addToken 119 = .ok (.iload_n 2, 1) := by decide +kernel
theorem dX10_addToken_120 : decode cX10_addToken 120 = .ok (.baload, 1) := by decide +kernel
theorem dX10_addToken_121 : decode cX10_addToken 121 = .ok (.istore 6, 2) := by decide +kernel
theorem dX10_addToken_123 : decode cX10_addToken 123 = .ok (.iload 6, 2) := by decide +kernel
theorem dX10_addToken_125 : decode cX10_addToken 125 = .ok (.ifCond .le 24, 3) := by decide +kernel
theorem dX10_addToken_128 : decode cX10_addToken 128 = .ok (.ldc 68, 2) := by decide +kernel
theorem dX10_addToken_130 : decode cX10_addToken 130 = .ok (.iload 6, 2) := by decide +kernel
theorem dX10_addToken_132 : decode cX10_addToken 132 = .ok (.i2c, 1) := by decide +kernel
theorem dX10_addToken_133 : decode cX10_addToken 133 = .ok (.invokevirtual 70, 3) := by decide +kernel
theorem dX10_addToken_136 : decode cX10_addToken 136 = .ok (.ifCond .lt 13, 3) := by decide +kernel
theorem dX10_addToken_139 : decode cX10_addToken 139 = .ok (.aload_n 0, 1) := by decide +kernel
theorem dX10_addToken_140 : decode cX10_addToken 140 = .ok (.iload 6, 2) := by decide +kernel
theorem dX10_addToken_142 : decode cX10_addToken 142 = .ok (.iload_n 2, 1) := by decide +kernel
theorem dX10_addToken_143 : decode cX10_addToken 143 = .ok (.lconst 0, 1) := by decide +kernel
theorem dX10_addToken_144 : decode cX10_addToken 144 = .ok (.invokevirtual 36, 3) := by decide +kernel
theorem dX10_addToken_147 : decode cX10_addToken 147 = .ok (.iconst 1, 1) := by decide +kernel
theorem dX10_addToken_148 : decode cX10_addToken 148 = .ok (.ireturn, 1) := by decide +kernel
theorem dX10_addToken_149 : decode cX10_addToken 149 = .ok (.iconst 0, 1) := by decide +kernel
theorem dX10_addToken_150 : decode cX10_addToken 150 = .ok (.ireturn, 1) := by decide +kernel
theorem dX10_runOf_0 : decode cX10_runOf 0 = .ok (.iconst 0, 1) := by decide +kernel
theorem dX10_runOf_1 : decode cX10_runOf 1 = .ok (.istore 5, 2) := by decide +kernel
theorem dX10_runOf_3 : decode cX10_runOf 3 = .ok (.iload_n 1, 1) := by decide +kernel
theorem dX10_runOf_4 : decode cX10_runOf 4 = .ok (.iload 5, 2) := by decide +kernel
theorem dX10_runOf_6 : decode cX10_runOf 6 = .ok (.iadd, 1) := by decide +kernel
theorem dX10_runOf_7 : decode cX10_runOf 7 = .ok (.iload_n 2, 1) := by decide +kernel
theorem dX10_runOf_8 : decode cX10_runOf 8 = .ok (.if_icmp .ge 30, 3) := by decide +kernel
theorem dX10_runOf_11 : decode cX10_runOf 11 = .ok (.aload_n 0, 1) := by decide +kernel
theorem dX10_runOf_12 : decode cX10_runOf 12 = .ok (.iload_n 1, 1) := by decide +kernel
theorem dX10_runOf_13 : decode cX10_runOf 13 = .ok (.iload 5, 2) := by decide +kernel
theorem dX10_runOf_15 : decode cX10_runOf 15 = .ok (.iadd, 1) := by decide +kernel
theorem dX10_runOf_16 : decode cX10_runOf 16 = .ok (.baload, 1) := by decide +kernel
theorem dX10_runOf_17 : decode cX10_runOf 17 = .ok (.iload_n 3, 1) := by decide +kernel
theorem dX10_runOf_18 : decode cX10_runOf 18 = .ok (.if_icmp .lt 20, 3) := by decide +kernel
theorem dX10_runOf_21 : decode cX10_runOf 21 = .ok (.aload_n 0, 1) := by decide +kernel
theorem dX10_runOf_22 : decode cX10_runOf 22 = .ok (.iload_n 1, 1) := by decide +kernel
theorem dX10_runOf_23 : decode cX10_runOf 23 = .ok (.iload 5, 2) := by decide +kernel
theorem dX10_runOf_25 : decode cX10_runOf 25 = .ok (.iadd, 1) := by decide +kernel
theorem dX10_runOf_26 : decode cX10_runOf 26 = .ok (.baload, 1) := by decide +kernel
theorem dX10_runOf_27 : decode cX10_runOf 27 = .ok (.iload 4, 2) := by decide +kernel
theorem dX10_runOf_29 : decode cX10_runOf 29 = .ok (.if_icmp .gt 9, 3) := by decide +kernel
theorem dX10_runOf_32 : decode cX10_runOf 32 = .ok (.iinc 5 1, 3) := by decide +kernel
theorem dX10_runOf_35 : decode cX10_runOf 35 = .ok (.goto (-32), 3) := by decide +kernel
theorem dX10_runOf_38 : decode cX10_runOf 38 = .ok (.iload 5, 2) := by decide +kernel
theorem dX10_runOf_40 : decode cX10_runOf 40 = .ok (.ireturn, 1) := by decide +kernel
theorem dX10_valueOf_0 : decode cX10_valueOf 0 = .ok (.lconst 0, 1) := by decide +kernel
theorem dX10_valueOf_1 : decode cX10_valueOf 1 = .ok (.lstore 5, 2) := by decide +kernel
theorem dX10_valueOf_3 : decode cX10_valueOf 3 = .ok (.iload_n 1, 1) := by decide +kernel
theorem dX10_valueOf_4 : decode cX10_valueOf 4 = .ok (.istore 7, 2) := by decide +kernel
theorem dX10_valueOf_6 : decode cX10_valueOf 6 = .ok (.iload 7, 2) := by decide +kernel
theorem dX10_valueOf_8 : decode cX10_valueOf 8 = .ok (.iload_n 1, 1) := by decide +kernel
theorem dX10_valueOf_9 : decode cX10_valueOf 9 = .ok (.iload_n 2, 1) := by decide +kernel
theorem dX10_valueOf_10 : decode cX10_valueOf 10 = .ok (.iadd, 1) := by decide +kernel
theorem dX10_valueOf_11 : decode cX10_valueOf 11 = .ok (.if_icmp .ge 26, 3) := by decide +kernel
theorem dX10_valueOf_14 : decode cX10_valueOf 14 = .ok (.lload 5, 2) := by decide +kernel
theorem dX10_valueOf_16 : decode cX10_valueOf 16 = .ok (.iload 4, 2) := by decide +kernel
theorem dX10_valueOf_18 : decode cX10_valueOf 18 = .ok (.i2l, 1) := by decide +kernel
theorem dX10_valueOf_19 : decode cX10_valueOf 19 = .ok (.lmul, 1) := by decide +kernel
theorem dX10_valueOf_20 : decode cX10_valueOf 20 = .ok (.aload_n 0, 1) := by decide +kernel
theorem dX10_valueOf_21 : decode cX10_valueOf 21 = .ok (.iload 7, 2) := by decide +kernel
theorem dX10_valueOf_23 : decode cX10_valueOf 23 = .ok (.baload, 1) := by decide +kernel
theorem dX10_valueOf_24 : decode cX10_valueOf 24 = .ok (.i2l, 1) := by decide +kernel
theorem dX10_valueOf_25 : decode cX10_valueOf 25 = .ok (.ladd, 1) := by decide +kernel
theorem dX10_valueOf_26 : decode cX10_valueOf 26 = .ok (.iload_n 3, 1) := by decide +kernel
theorem dX10_valueOf_27 : decode cX10_valueOf 27 = .ok (.i2l, 1) := by decide +kernel
theorem dX10_valueOf_28 : decode cX10_valueOf 28 = .ok (.lsub, 1) := by decide +kernel
theorem dX10_valueOf_29 : decode cX10_valueOf 29 = .ok (.lstore 5, 2) := by decide +kernel
theorem dX10_valueOf_31 : decode cX10_valueOf 31 = .ok (.iinc 7 1, 3) := by decide +kernel
theorem dX10_valueOf_34 : decode cX10_valueOf 34 = .ok (.goto (-28), 3) := by decide +kernel
theorem dX10_valueOf_37 : decode cX10_valueOf 37 = .ok (.lload 5, 2) := by decide +kernel
theorem dX10_valueOf_39 : decode cX10_valueOf 39 = .ok (.lreturn, 1) := by decide +kernel
theorem dX10_kindOf_0 : decode cX10_kindOf 0 = .ok (.lload_n 0, 1) := by decide +kernel
theorem dX10_kindOf_1 : decode cX10_kindOf 1 = .ok (.ldc 76, 2) := by decide +kernel
theorem dX10_kindOf_3 : decode cX10_kindOf 3 = .ok (.invokestatic 78, 3) := by decide +kernel
theorem dX10_kindOf_6 : decode cX10_kindOf 6 = .ok (.lcmp, 1) := by decide +kernel
theorem dX10_kindOf_7 : decode cX10_kindOf 7 = .ok (.ifCond .ne 7, 3) := by decide +kernel
theorem dX10_kindOf_10 : decode cX10_kindOf 10 = .ok (.iconst 5, 1) := by decide +kernel
theorem dX10_kindOf_11 : decode cX10_kindOf 11 = .ok (.goto 79, 3) := by decide +kernel
theorem dX10_kindOf_14 : decode cX10_kindOf 14 = .ok (.lload_n 0, 1) := by decide +kernel
theorem dX10_kindOf_15 : decode cX10_kindOf 15 = .ok (.ldc 82, 2) := by decide +kernel
theorem dX10_kindOf_17 : decode cX10_kindOf 17 = .ok (.invokestatic 78, 3) := by decide +kernel
theorem dX10_kindOf_20 : decode cX10_kindOf 20 = .ok (.lcmp, 1) := by decide +kernel
theorem dX10_kindOf_21 : decode cX10_kindOf 21 = .ok (.ifCond .ne 8, 3) := by decide +kernel
theorem dX10_kindOf_24 : decode cX10_kindOf 24 = .ok (.bipush 6, 2) := by decide +kernel
theorem dX10_kindOf_26 : decode cX10_kindOf 26 = .ok (.goto 64, 3) := by decide +kernel
theorem dX10_kindOf_29 : decode cX10_kindOf 29 = .ok (.lload_n 0, 1) := by decide +kernel
theorem dX10_kindOf_30 : decode cX10_kindOf 30 = .ok (.ldc 84, 2) := by decide +kernel
theorem dX10_kindOf_32 : decode cX10_kindOf 32 = .ok (.invokestatic 78, 3) := by decide +kernel
theorem dX10_kindOf_35 : decode cX10_kindOf 35 = .ok (.lcmp, 1) := by decide +kernel
theorem dX10_kindOf_36 : decode cX10_kindOf 36 = .ok (.ifCond .ne 8, 3) := by decide +kernel
theorem dX10_kindOf_39 : decode cX10_kindOf 39 = .ok (.bipush 7, 2) := by decide +kernel
theorem dX10_kindOf_41 : decode cX10_kindOf 41 = .ok (.goto 49, 3) := by decide +kernel
theorem dX10_kindOf_44 : decode cX10_kindOf 44 = .ok (.lload_n 0, 1) := by decide +kernel
theorem dX10_kindOf_45 : decode cX10_kindOf 45 = .ok (.ldc 86, 2) := by decide +kernel
theorem dX10_kindOf_47 : decode cX10_kindOf 47 = .ok (.invokestatic 78, 3) := by decide +kernel
theorem dX10_kindOf_50 : decode cX10_kindOf 50 = .ok (.lcmp, 1) := by decide +kernel
theorem dX10_kindOf_51 : decode cX10_kindOf 51 = .ok (.ifCond .ne 8, 3) := by decide +kernel
theorem dX10_kindOf_54 : decode cX10_kindOf 54 = .ok (.bipush 8, 2) := by decide +kernel
theorem dX10_kindOf_56 : decode cX10_kindOf 56 = .ok (.goto 34, 3) := by decide +kernel
theorem dX10_kindOf_59 : decode cX10_kindOf 59 = .ok (.lload_n 0, 1) := by decide +kernel
theorem dX10_kindOf_60 : decode cX10_kindOf 60 = .ok (.ldc 88, 2) := by decide +kernel
theorem dX10_kindOf_62 : decode cX10_kindOf 62 = .ok (.invokestatic 78, 3) := by decide +kernel
theorem dX10_kindOf_65 : decode cX10_kindOf 65 = .ok (.lcmp, 1) := by decide +kernel
theorem dX10_kindOf_66 : decode cX10_kindOf 66 = .ok (.ifCond .ne 8, 3) := by decide +kernel
theorem dX10_kindOf_69 : decode cX10_kindOf 69 = .ok (.bipush 9, 2) := by decide +kernel
theorem dX10_kindOf_71 : decode cX10_kindOf 71 = .ok (.goto 19, 3) := by decide +kernel
theorem dX10_kindOf_74 : decode cX10_kindOf 74 = .ok (.lload_n 0, 1) := by decide +kernel
theorem dX10_kindOf_75 : decode cX10_kindOf 75 = .ok (.ldc 90, 2) := by decide +kernel
theorem dX10_kindOf_77 : decode cX10_kindOf 77 = .ok (.invokestatic 78, 3) := by decide +kernel
theorem dX10_kindOf_80 : decode cX10_kindOf 80 = .ok (.lcmp, 1) := by decide +kernel
theorem dX10_kindOf_81 : decode cX10_kindOf 81 = .ok (.ifCond .ne 8, 3) := by decide +kernel
theorem dX10_kindOf_84 : decode cX10_kindOf 84 = .ok (.bipush 10, 2) := by decide +kernel
theorem dX10_kindOf_86 : decode cX10_kindOf 86 = .ok (.goto 4, 3) := by decide +kernel
theorem dX10_kindOf_89 : decode cX10_kindOf 89 = .ok (.iconst 2, 1) := by decide +kernel
theorem dX10_kindOf_90 : decode cX10_kindOf 90 = .ok (.ireturn, 1) := by decide +kernel
theorem dX10_codeOf_0 : decode cX10_codeOf 0 = .ok (.lconst 0, 1) := by decide +kernel
theorem dX10_codeOf_1 : decode cX10_codeOf 1 = .ok (.lstore_n 1, 1) := by decide +kernel
theorem dX10_codeOf_2 : decode cX10_codeOf 2 = .ok (.iconst 0, 1) := by decide +kernel
theorem dX10_codeOf_3 : decode cX10_codeOf 3 = .ok (.istore_n 3, 1) := by decide +kernel
theorem dX10_codeOf_4 : decode cX10_codeOf 4 = .ok (.iload_n 3, 1) := by decide +kernel
theorem dX10_codeOf_5 : decode cX10_codeOf 5 = .ok (.aload_n 0, 1) := by decide +kernel
theorem dX10_codeOf_6 : decode cX10_codeOf 6 = .ok (.invokevirtual 92, 3) := by decide +kernel
theorem dX10_codeOf_9 : decode cX10_codeOf 9 = .ok (.if_icmp .ge 26, 3) := by decide +kernel
theorem dX10_codeOf_12 : decode cX10_codeOf 12 = .ok (.lload_n 1, 1) := by decide +kernel
theorem dX10_codeOf_13 : decode cX10_codeOf 13 = .ok (.ldc2_w 96, 3) := by decide +kernel
theorem dX10_codeOf_16 : decode cX10_codeOf 16 = .ok (.lmul, 1) := by decide +kernel
theorem dX10_codeOf_17 : decode cX10_codeOf 17 = .ok (.aload_n 0, 1) := by decide +kernel
theorem dX10_codeOf_18 : decode cX10_codeOf 18 = .ok (.iload_n 3, 1) := by decide +kernel
theorem dX10_codeOf_19 : decode cX10_codeOf 19 = .ok (.invokevirtual 98, 3) := by decide +kernel
theorem dX10_codeOf_22 : decode cX10_codeOf 22 = .ok (.i2l, 1) := by decide +kernel
theorem dX10_codeOf_23 : decode cX10_codeOf 23 = .ok (.ladd, 1) := by decide +kernel
theorem dX10_codeOf_24 : decode cX10_codeOf 24 = .ok (.ldc2_w 102, 3) := by decide +kernel
theorem dX10_codeOf_27 : decode cX10_codeOf 27 = .ok (.lsub, 1) := by decide +kernel
theorem dX10_codeOf_28 : decode cX10_codeOf 28 = .ok (.lstore_n 1, 1) := by decide +kernel
theorem dX10_codeOf_29 : decode cX10_codeOf 29 = .ok (.iinc 3 1, 3) := by decide +kernel
theorem dX10_codeOf_32 : decode cX10_codeOf 32 = .ok (.goto (-28), 3) := by decide +kernel
theorem dX10_codeOf_35 : decode cX10_codeOf 35 = .ok (.lload_n 1, 1) := by decide +kernel
theorem dX10_codeOf_36 : decode cX10_codeOf 36 = .ok (.lreturn, 1) := by decide +kernel
theorem dX10_add_0 : decode cX10_add 0 = .ok (.aload_n 0, 1) := by decide +kernel
theorem dX10_add_1 : decode cX10_add 1 = .ok (.getfield 22, 3) := by decide +kernel
theorem dX10_add_4 : decode cX10_add 4 = .ok (.aload_n 0, 1) := by decide +kernel
theorem dX10_add_5 : decode cX10_add 5 = .ok (.getfield 9, 3) := by decide +kernel
theorem dX10_add_8 : decode cX10_add 8 = .ok (.arraylength, 1) := by decide +kernel
theorem dX10_add_9 : decode cX10_add 9 = .ok (.if_icmp .ge 43, 3) := by decide +kernel
theorem dX10_add_12 : decode cX10_add 12 = .ok (.aload_n 0, 1) := by decide +kernel
theorem dX10_add_13 : decode cX10_add 13 = .ok (.getfield 9, 3) := by decide +kernel
theorem dX10_add_16 : decode cX10_add 16 = .ok (.aload_n 0, 1) := by decide +kernel
theorem dX10_add_17 : decode cX10_add 17 = .ok (.getfield 22, 3) := by decide +kernel
theorem dX10_add_20 : decode cX10_add 20 = .ok (.iload_n 1, 1) := by decide +kernel
theorem dX10_add_21 : decode cX10_add 21 = .ok (.iastore, 1) := by decide +kernel
theorem dX10_add_22 : decode cX10_add 22 = .ok (.aload_n 0, 1) := by decide +kernel
theorem dX10_add_23 : decode cX10_add 23 = .ok (.getfield 15, 3) := by decide +kernel
theorem dX10_add_26 : decode cX10_add 26 = .ok (.aload_n 0, 1) := by decide +kernel
theorem dX10_add_27 : decode cX10_add 27 = .ok (.getfield 22, 3) := by decide +kernel
theorem dX10_add_30 : decode cX10_add 30 = .ok (.iload_n 2, 1) := by decide +kernel
theorem dX10_add_31 : decode cX10_add 31 = .ok (.iastore, 1) := by decide +kernel
theorem dX10_add_32 : decode cX10_add 32 = .ok (.aload_n 0, 1) := by decide +kernel
theorem dX10_add_33 : decode cX10_add 33 = .ok (.getfield 18, 3) := by decide +kernel
theorem dX10_add_36 : decode cX10_add 36 = .ok (.aload_n 0, 1) := by decide +kernel
theorem dX10_add_37 : decode cX10_add 37 = .ok (.getfield 22, 3) := by decide +kernel
theorem dX10_add_40 : decode cX10_add 40 = .ok (.lload_n 3, 1) := by decide +kernel
theorem dX10_add_41 : decode cX10_add 41 = .ok (.lastore, 1) := by decide +kernel
theorem dX10_add_42 : decode cX10_add 42 = .ok (.aload_n 0, 1) := by decide +kernel
theorem dX10_add_43 : decode cX10_add 43 = .ok (.dup, 1) := by decide +kernel
theorem dX10_add_44 : decode cX10_add 44 = .ok (.getfield 22, 3) := by decide +kernel
theorem dX10_add_47 : decode cX10_add 47 = .ok (.iconst 1, 1) := by decide +kernel
theorem dX10_add_48 : decode cX10_add 48 = .ok (.iadd, 1) := by decide +kernel
theorem dX10_add_49 : decode cX10_add 49 = .ok (.putfield 22, 3) := by decide +kernel
theorem dX10_add_52 : decode cX10_add 52 = .ok (.return_, 1) := by decide +kernel
theorem dJ13_bitCount_95d88_0 : decode cJ13_bitCount_95d88 0 = .ok (.lload_n 0, 1) := by decide +kernel
theorem dJ13_bitCount_95d88_1 : decode cJ13_bitCount_95d88 1 = .ok (.lload_n 0, 1) := by decide +kernel
theorem dJ13_bitCount_95d88_2 : decode cJ13_bitCount_95d88 2 = .ok (.iconst 1, 1) := by decide +kernel
theorem dJ13_bitCount_95d88_3 : decode cJ13_bitCount_95d88 3 = .ok (.lushr, 1) := by decide +kernel
theorem dJ13_bitCount_95d88_4 : decode cJ13_bitCount_95d88 4 = .ok (.ldc2_w 314, 3) := by decide +kernel
theorem dJ13_bitCount_95d88_7 : decode cJ13_bitCount_95d88 7 = .ok (.land, 1) := by decide +kernel
theorem dJ13_bitCount_95d88_8 : decode cJ13_bitCount_95d88 8 = .ok (.lsub, 1) := by decide +kernel
theorem dJ13_bitCount_95d88_9 : decode cJ13_bitCount_95d88 9 = .ok (.lstore_n 0, 1) := by decide +kernel
theorem dJ13_bitCount_95d88_10 : decode cJ13_bitCount_95d88 10 = .ok (.lload_n 0, 1) := by decide +kernel
theorem dJ13_bitCount_95d88_11 : decode cJ13_bitCount_95d88 11 = .ok (.ldc2_w 316, 3) := by decide +kernel
theorem dJ13_bitCount_95d88_14 : decode cJ13_bitCount_95d88 14 = .ok (.land, 1) := by decide +kernel
theorem dJ13_bitCount_95d88_15 : decode cJ13_bitCount_95d88 15 = .ok (.lload_n 0, 1) := by decide +kernel
theorem dJ13_bitCount_95d88_16 : decode cJ13_bitCount_95d88 16 = .ok (.iconst 2, 1) := by decide +kernel
theorem dJ13_bitCount_95d88_17 : decode cJ13_bitCount_95d88 17 = .ok (.lushr, 1) := by decide +kernel
theorem dJ13_bitCount_95d88_18 : decode cJ13_bitCount_95d88 18 = .ok (.ldc2_w 316, 3) := by decide +kernel
theorem dJ13_bitCount_95d88_21 : decode cJ13_bitCount_95d88 21 = .ok (.land, 1) := by decide +kernel
theorem dJ13_bitCount_95d88_22 : decode cJ13_bitCount_95d88 22 = .ok (.ladd, 1) := by decide +kernel
theorem dJ13_bitCount_95d88_23 : decode cJ13_bitCount_95d88 23 = .ok (.lstore_n 0, 1) := by decide +kernel
theorem dJ13_bitCount_95d88_24 : decode cJ13_bitCount_95d88 24 = .ok (.lload_n 0, 1) := by decide +kernel
theorem dJ13_bitCount_95d88_25 : decode cJ13_bitCount_95d88 25 = .ok (.lload_n 0, 1) := by decide +kernel
theorem dJ13_bitCount_95d88_26 : decode cJ13_bitCount_95d88 26 = .ok (.iconst 4, 1) := by decide +kernel
theorem dJ13_bitCount_95d88_27 : decode cJ13_bitCount_95d88 27 = .ok (.lushr, 1) := by decide +kernel
theorem dJ13_bitCount_95d88_28 : decode cJ13_bitCount_95d88 28 = .ok (.ladd, 1) := by decide +kernel
theorem dJ13_bitCount_95d88_29 : decode cJ13_bitCount_95d88 29 = .ok (.ldc2_w 318, 3) := by decide +kernel
theorem dJ13_bitCount_95d88_32 : decode cJ13_bitCount_95d88 32 = .ok (.land, 1) := by decide +kernel
theorem dJ13_bitCount_95d88_33 : decode cJ13_bitCount_95d88 33 = .ok (.lstore_n 0, 1) := by decide +kernel
theorem dJ13_bitCount_95d88_34 : decode cJ13_bitCount_95d88 34 = .ok (.lload_n 0, 1) := by decide +kernel
theorem dJ13_bitCount_95d88_35 : decode cJ13_bitCount_95d88 35 = .ok (.lload_n 0, 1) := by decide +kernel
theorem dJ13_bitCount_95d88_36 : decode cJ13_bitCount_95d88 36 = .ok (.bipush 8, 2) := by decide +kernel
theorem dJ13_bitCount_95d88_38 : decode cJ13_bitCount_95d88 38 = .ok (.lushr, 1) := by decide +kernel
theorem dJ13_bitCount_95d88_39 : decode cJ13_bitCount_95d88 39 = .ok (.ladd, 1) := by decide +kernel
theorem dJ13_bitCount_95d88_40 : decode cJ13_bitCount_95d88 40 = .ok (.lstore_n 0, 1) := by decide +kernel
theorem dJ13_bitCount_95d88_41 : decode cJ13_bitCount_95d88 41 = .ok (.lload_n 0, 1) := by decide +kernel
theorem dJ13_bitCount_95d88_42 : decode cJ13_bitCount_95d88 42 = .ok (.lload_n 0, 1) := by decide +kernel
theorem dJ13_bitCount_95d88_43 : decode cJ13_bitCount_95d88 43 = .ok (.bipush 16, 2) := by decide +kernel
theorem dJ13_bitCount_95d88_45 : decode cJ13_bitCount_95d88 45 = .ok (.lushr, 1) := by decide +kernel
theorem dJ13_bitCount_95d88_46 : decode cJ13_bitCount_95d88 46 = .ok (.ladd, 1) := by decide +kernel
theorem dJ13_bitCount_95d88_47 : decode cJ13_bitCount_95d88 47 = .ok (.lstore_n 0, 1) := by decide +kernel
theorem dJ13_bitCount_95d88_48 : decode cJ13_bitCount_95d88 48 = .ok (.lload_n 0, 1) := by decide +kernel
theorem dJ13_bitCount_95d88_49 : decode cJ13_bitCount_95d88 49 = .ok (.lload_n 0, 1) := by decide +kernel
theorem dJ13_bitCount_95d88_50 : decode cJ13_bitCount_95d88 50 = .ok (.bipush 32, 2) := by decide +kernel
theorem dJ13_bitCount_95d88_52 : decode cJ13_bitCount_95d88 52 = .ok (.lushr, 1) := by decide +kernel
theorem dJ13_bitCount_95d88_53 : decode cJ13_bitCount_95d88 53 = .ok (.ladd, 1) := by decide +kernel
theorem dJ13_bitCount_95d88_54 : decode cJ13_bitCount_95d88 54 = .ok (.lstore_n 0, 1) := by decide +kernel
theorem dJ13_bitCount_95d88_55 : decode cJ13_bitCount_95d88 55 = .ok (.lload_n 0, 1) := by decide +kernel
theorem dJ13_bitCount_95d88_56 : decode cJ13_bitCount_95d88 56 = .ok (.l2i, 1) := by decide +kernel
theorem dJ13_bitCount_95d88_57 : decode cJ13_bitCount_95d88 57 = .ok (.bipush 127, 2) := by decide +kernel
theorem dJ13_bitCount_95d88_59 : decode cJ13_bitCount_95d88 59 = .ok (.iand, 1) := by decide +kernel
theorem dJ13_bitCount_95d88_60 : decode cJ13_bitCount_95d88 60 = .ok (.ireturn, 1) := by decide +kernel
theorem dJ9_max_7cf53_0 : decode cJ9_max_7cf53 0 = .ok (.iload_n 0, 1) := by decide +kernel
theorem dJ9_max_7cf53_1 : decode cJ9_max_7cf53 1 = .ok (.iload_n 1, 1) := by decide +kernel
theorem dJ9_max_7cf53_2 : decode cJ9_max_7cf53 2 = .ok (.if_icmp .lt 7, 3) := by decide +kernel
theorem dJ9_max_7cf53_5 : decode cJ9_max_7cf53 5 = .ok (.iload_n 0, 1) := by decide +kernel
theorem dJ9_max_7cf53_6 : decode cJ9_max_7cf53 6 = .ok (.goto 4, 3) := by decide +kernel
theorem dJ9_max_7cf53_9 : decode cJ9_max_7cf53 9 = .ok (.iload_n 1, 1) := by decide +kernel
theorem dJ9_max_7cf53_10 : decode cJ9_max_7cf53 10 = .ok (.ireturn, 1) := by decide +kernel
theorem dJ9_min_7cf53_0 : decode cJ9_min_7cf53 0 = .ok (.iload_n 0, 1) := by decide +kernel
theorem dJ9_min_7cf53_1 : decode cJ9_min_7cf53 1 = .ok (.iload_n 1, 1) := by decide +kernel
theorem dJ9_min_7cf53_2 : decode cJ9_min_7cf53 2 = .ok (.if_icmp .gt 7, 3) := by decide +kernel
theorem dJ9_min_7cf53_5 : decode cJ9_min_7cf53 5 = .ok (.iload_n 0, 1) := by decide +kernel
theorem dJ9_min_7cf53_6 : decode cJ9_min_7cf53 6 = .ok (.goto 4, 3) := by decide +kernel
theorem dJ9_min_7cf53_9 : decode cJ9_min_7cf53 9 = .ok (.iload_n 1, 1) := by decide +kernel
theorem dJ9_min_7cf53_10 : decode cJ9_min_7cf53 10 = .ok (.ireturn, 1) := by decide +kernel
theorem dJ7_fill_d0a16_0 : decode cJ7_fill_d0a16 0 = .ok (.iconst 0, 1) := by decide +kernel
theorem dJ7_fill_d0a16_1 : decode cJ7_fill_d0a16 1 = .ok (.istore_n 3, 1) := by decide +kernel
theorem dJ7_fill_d0a16_2 : decode cJ7_fill_d0a16 2 = .ok (.aload_n 0, 1) := by decide +kernel
theorem dJ7_fill_d0a16_3 : decode cJ7_fill_d0a16 3 = .ok (.arraylength, 1) := by decide +kernel
theorem dJ7_fill_d0a16_4 : decode cJ7_fill_d0a16 4 = .ok (.istore 4, 2) := by decide +kernel
theorem dJ7_fill_d0a16_6 : decode cJ7_fill_d0a16 6 = .ok (.iload_n 3, 1) := by decide +kernel
theorem dJ7_fill_d0a16_7 : decode cJ7_fill_d0a16 7 = .ok (.iload 4, 2) := by decide +kernel
theorem dJ7_fill_d0a16_9 : decode cJ7_fill_d0a16 9 = .ok (.if_icmp .ge 13, 3) := by decide +kernel
theorem dJ7_fill_d0a16_12 : decode cJ7_fill_d0a16 12 = .ok (.aload_n 0, 1) := by decide +kernel
theorem dJ7_fill_d0a16_13 : decode cJ7_fill_d0a16 13 = .ok (.iload_n 3, 1) := by decide +kernel
theorem dJ7_fill_d0a16_14 : decode cJ7_fill_d0a16 14 = .ok (.lload_n 1, 1) := by decide +kernel
theorem dJ7_fill_d0a16_15 : decode cJ7_fill_d0a16 15 = .ok (.lastore, 1) := by decide +kernel
theorem dJ7_fill_d0a16_16 : decode cJ7_fill_d0a16 16 = .ok (.iinc 3 1, 3) := by decide +kernel
theorem dJ7_fill_d0a16_19 : decode cJ7_fill_d0a16 19 = .ok (.goto (-13), 3) := by decide +kernel
theorem dJ7_fill_d0a16_22 : decode cJ7_fill_d0a16 22 = .ok (.return_, 1) := by decide +kernel
theorem dJ7_fill_53178_0 : decode cJ7_fill_53178 0 = .ok (.iconst 0, 1) := by decide +kernel
theorem dJ7_fill_53178_1 : decode cJ7_fill_53178 1 = .ok (.istore_n 2, 1) := by decide +kernel
theorem dJ7_fill_53178_2 : decode cJ7_fill_53178 2 = .ok (.aload_n 0, 1) := by decide +kernel
theorem dJ7_fill_53178_3 : decode cJ7_fill_53178 3 = .ok (.arraylength, 1) := by decide +kernel
theorem dJ7_fill_53178_4 : decode cJ7_fill_53178 4 = .ok (.istore_n 3, 1) := by decide +kernel
theorem dJ7_fill_53178_5 : decode cJ7_fill_53178 5 = .ok (.iload_n 2, 1) := by decide +kernel
theorem dJ7_fill_53178_6 : decode cJ7_fill_53178 6 = .ok (.iload_n 3, 1) := by decide +kernel
theorem dJ7_fill_53178_7 : decode cJ7_fill_53178 7 = .ok (.if_icmp .ge 13, 3) := by decide +kernel
theorem dJ7_fill_53178_10 : decode cJ7_fill_53178 10 = .ok (.aload_n 0, 1) := by decide +kernel
theorem dJ7_fill_53178_11 : decode cJ7_fill_53178 11 = .ok (.iload_n 2, 1) := by decide +kernel
theorem dJ7_fill_53178_12 : decode cJ7_fill_53178 12 = .ok (.iload_n 1, 1) := by decide +kernel
theorem dJ7_fill_53178_13 : decode cJ7_fill_53178 13 = .ok (.iastore, 1) := by decide +kernel
theorem dJ7_fill_53178_14 : decode cJ7_fill_53178 14 = .ok (.iinc 2 1, 3) := by decide +kernel
theorem dJ7_fill_53178_17 : decode cJ7_fill_53178 17 = .ok (.goto (-12), 3) := by decide +kernel
theorem dJ7_fill_53178_20 : decode cJ7_fill_53178 20 = .ok (.return_, 1) := by decide +kernel
