theorem dX12_cutsAll_0 : decode cX12_cutsAll 0 = .ok (.aload_n 0, 1) := by decide +kernel
theorem dX12_cutsAll_1 : decode cX12_cutsAll 1 = .ok (.getfield 106, 3) := by decide +kernel
theorem dX12_cutsAll_4 : decode cX12_cutsAll 4 = .ok (.iload_n 1, 1) := by decide +kernel
theorem dX12_cutsAll_5 : decode cX12_cutsAll 5 = .ok (.sipush 128, 3) := by decide +kernel
theorem dX12_cutsAll_8 : decode cX12_cutsAll 8 = .ok (.imul, 1) := by decide +kernel
theorem dX12_cutsAll_9 : decode cX12_cutsAll 9 = .ok (.iconst 0, 1) := by decide +kernel
theorem dX12_cutsAll_10 : decode cX12_cutsAll 10 = .ok (.iastore, 1) := by decide +kernel
theorem dX12_cutsAll_11 : decode cX12_cutsAll 11 = .ok (.aload_n 0, 1) := by decide +kernel
theorem dX12_cutsAll_12 : decode cX12_cutsAll 12 = .ok (.getfield 103, 3) := by decide +kernel
theorem dX12_cutsAll_15 : decode cX12_cutsAll 15 = .ok (.iload_n 1, 1) := by decide +kernel
theorem dX12_cutsAll_16 : decode cX12_cutsAll 16 = .ok (.iconst 1, 1) := by decide +kernel
theorem dX12_cutsAll_17 : decode cX12_cutsAll 17 = .ok (.iastore, 1) := by decide +kernel
theorem dX12_cutsAll_18 : decode cX12_cutsAll 18 = .ok (.iconst 0, 1) := by decide +kernel
theorem dX12_cutsAll_19 : decode cX12_cutsAll 19 = .ok (.istore_n 2, 1) := by decide +kernel
theorem dX12_cutsAll_20 : decode cX12_cutsAll 20 = .ok (.iload_n 2, 1) := by decide +kernel
theorem dX12_cutsAll_21 : decode cX12_cutsAll 21 = .ok (.aload_n 0, 1) := by decide +kernel
theorem dX12_cutsAll_22 : decode cX12_cutsAll 22 = .ok (.getfield 79, 3) := by decide +kernel
theorem dX12_cutsAll_25 : decode cX12_cutsAll 25 = .ok (.aload_n 0, 1) := by decide +kernel
theorem dX12_cutsAll_26 : decode cX12_cutsAll 26 = .ok (.getfield 487, 3) := by decide +kernel
theorem dX12_cutsAll_29 : decode cX12_cutsAll 29 = .ok (.iaload, 1) := by decide +kernel
theorem dX12_cutsAll_30 : decode cX12_cutsAll 30 = .ok (.if_icmp .ge 41, 3) := by decide +kernel
theorem dX12_cutsAll_33 : decode cX12_cutsAll 33 = .ok (.aload_n 0, 1) := by decide +kernel
theorem dX12_cutsAll_34 : decode cX12_cutsAll 34 = .ok (.iload_n 1, 1) := by decide +kernel
theorem dX12_cutsAll_35 : decode cX12_cutsAll 35 = .ok (.aload_n 0, 1) := by decide +kernel
theorem dX12_cutsAll_36 : decode cX12_cutsAll 36 = .ok (.getfield 82, 3) := by decide +kernel
theorem dX12_cutsAll_39 : decode cX12_cutsAll 39 = .ok (.iload_n 2, 1) := by decide +kernel
theorem dX12_cutsAll_40 : decode cX12_cutsAll 40 = .ok (.iaload, 1) := by decide +kernel
theorem dX12_cutsAll_41 : decode cX12_cutsAll 41 = .ok (.invokevirtual 512, 3) := by decide +kernel
theorem dX12_cutsAll_44 : decode cX12_cutsAll 44 = .ok (.ifCond .eq 19, 3) := by decide +kernel
theorem dX12_cutsAll_47 : decode cX12_cutsAll 47 = .ok (.aload_n 0, 1) := by decide +kernel
theorem dX12_cutsAll_48 : decode cX12_cutsAll 48 = .ok (.iload_n 1, 1) := by decide +kernel
theorem dX12_cutsAll_49 : decode cX12_cutsAll 49 = .ok (.aload_n 0, 1) := by decide +kernel
theorem dX12_cutsAll_50 : decode cX12_cutsAll 50 = .ok (.getfield 85, 3) := by decide +kernel
theorem dX12_cutsAll_53 : decode cX12_cutsAll 53 = .ok (.iload_n 2, 1) := by decide +kernel
theorem dX12_cutsAll_54 : decode cX12_cutsAll 54 = .ok (.iaload, 1) := by decide +kernel
theorem dX12_cutsAll_55 : decode cX12_cutsAll 55 = .ok (.iconst 1, 1) := by decide +kernel
theorem dX12_cutsAll_56 : decode cX12_cutsAll 56 = .ok (.iadd, 1) := by decide +kernel
theorem dX12_cutsAll_57 : decode cX12_cutsAll 57 = .ok (.invokevirtual 512, 3) := by decide +kernel
theorem dX12_cutsAll_60 : decode cX12_cutsAll 60 = .ok (.ifCond .ne 5, 3) := by decide +kernel
theorem dX12_cutsAll_63 : decode cX12_cutsAll 63 = .ok (.iconst 0, 1) := by decide +kernel
theorem dX12_cutsAll_64 : decode cX12_cutsAll 64 = .ok (.ireturn, 1) := by decide +kernel
theorem dX12_cutsAll_65 : decode cX12_cutsAll 65 = .ok (.iinc 2 1, 3) := by decide +kernel
theorem dX12_cutsAll_68 : decode cX12_cutsAll 68 = .ok (.goto (-48), 3) := by decide +kernel
theorem dX12_cutsAll_71 : decode cX12_cutsAll 71 = .ok (.iconst 1, 1) := by decide +kernel
theorem dX12_cutsAll_72 : decode cX12_cutsAll 72 = .ok (.ireturn, 1) := by decide +kernel
theorem dX12_settles_0 : decode cX12_settles 0 = .ok (.aload_n 0, 1) := by decide +kernel
theorem dX12_settles_1 : decode cX12_settles 1 = .ok (.getfield 496, 3) := by decide +kernel
theorem dX12_settles_4 : decode cX12_settles 4 = .ok (.ifCond .ne 11, 3) := by decide +kernel
theorem dX12_settles_7 : decode cX12_settles 7 = .ok (.aload_n 0, 1) := by decide +kernel
theorem dX12_settles_8 : decode cX12_settles 8 = .ok (.iload_n 1, 1) := by decide +kernel
theorem dX12_settles_9 : decode cX12_settles 9 = .ok (.invokevirtual 515, 3) := by decide +kernel
theorem dX12_settles_12 : decode cX12_settles 12 = .ok (.ifCond .ne 5, 3) := by decide +kernel
theorem dX12_settles_15 : decode cX12_settles 15 = .ok (.iconst 0, 1) := by decide +kernel
theorem dX12_settles_16 : decode cX12_settles 16 = .ok (.ireturn, 1) := by decide +kernel
theorem dX12_settles_17 : decode cX12_settles 17 = .ok (.aload_n 0, 1) := by decide +kernel
theorem dX12_settles_18 : decode cX12_settles 18 = .ok (.getfield 94, 3) := by decide +kernel
theorem dX12_settles_21 : decode cX12_settles 21 = .ok (.iload_n 1, 1) := by decide +kernel
theorem dX12_settles_22 : decode cX12_settles 22 = .ok (.aload_n 0, 1) := by decide +kernel
theorem dX12_settles_23 : decode cX12_settles 23 = .ok (.getfield 484, 3) := by decide +kernel
theorem dX12_settles_26 : decode cX12_settles 26 = .ok (.iastore, 1) := by decide +kernel
theorem dX12_settles_27 : decode cX12_settles 27 = .ok (.aload_n 0, 1) := by decide +kernel
theorem dX12_settles_28 : decode cX12_settles 28 = .ok (.getfield 97, 3) := by decide +kernel
theorem dX12_settles_31 : decode cX12_settles 31 = .ok (.iload_n 1, 1) := by decide +kernel
theorem dX12_settles_32 : decode cX12_settles 32 = .ok (.aload_n 0, 1) := by decide +kernel
theorem dX12_settles_33 : decode cX12_settles 33 = .ok (.getfield 487, 3) := by decide +kernel
theorem dX12_settles_36 : decode cX12_settles 36 = .ok (.iastore, 1) := by decide +kernel
theorem dX12_settles_37 : decode cX12_settles 37 = .ok (.aload_n 0, 1) := by decide +kernel
theorem dX12_settles_38 : decode cX12_settles 38 = .ok (.getfield 100, 3) := by decide +kernel
theorem dX12_settles_41 : decode cX12_settles 41 = .ok (.iload_n 1, 1) := by decide +kernel
theorem dX12_settles_42 : decode cX12_settles 42 = .ok (.aload_n 0, 1) := by decide +kernel
theorem dX12_settles_43 : decode cX12_settles 43 = .ok (.getfield 490, 3) := by decide +kernel
theorem dX12_settles_46 : decode cX12_settles 46 = .ok (.iastore, 1) := by decide +kernel
theorem dX12_settles_47 : decode cX12_settles 47 = .ok (.aload_n 0, 1) := by decide +kernel
theorem dX12_settles_48 : decode cX12_settles 48 = .ok (.getfield 121, 3) := by decide +kernel
theorem dX12_settles_51 : decode cX12_settles 51 = .ok (.iload_n 1, 1) := by decide +kernel
theorem dX12_settles_52 : decode cX12_settles 52 = .ok (.aload_n 0, 1) := by decide +kernel
theorem dX12_settles_53 : decode cX12_settles 53 = .ok (.getfield 493, 3) := by decide +kernel
theorem dX12_settles_56 : decode cX12_settles 56 = .ok (.lastore, 1) := by decide +kernel
theorem dX12_settles_57 : decode cX12_settles 57 = .ok (.iconst 0, 1) := by decide +kernel
theorem dX12_settles_58 : decode cX12_settles 58 = .ok (.istore_n 2, 1) := by decide +kernel
theorem dX12_settles_59 : decode cX12_settles 59 = .ok (.iload_n 2, 1) := by decide +kernel
theorem dX12_settles_60 : decode cX12_settles 60 = .ok (.aload_n 0, 1) := by decide +kernel
theorem dX12_settles_61 : decode cX12_settles 61 = .ok (.getfield 487, 3) := by decide +kernel
theorem dX12_settles_64 : decode cX12_settles 64 = .ok (.if_icmp .ge 15, 3) := by decide +kernel
theorem dX12_settles_67 : decode cX12_settles 67 = .ok (.aload_n 0, 1) := by decide +kernel
theorem dX12_settles_68 : decode cX12_settles 68 = .ok (.iload_n 1, 1) := by decide +kernel
theorem dX12_settles_69 : decode cX12_settles 69 = .ok (.iload_n 2, 1) := by decide +kernel
theorem dX12_settles_70 : decode cX12_settles 70 = .ok (.invokevirtual 518, 3) := by decide +kernel
theorem dX12_settles_73 : decode cX12_settles 73 = .ok (.iinc 2 1, 3) := by decide +kernel
theorem dX12_settles_76 : decode cX12_settles 76 = .ok (.goto (-17), 3) := by decide +kernel
theorem dX12_settles_79 : decode cX12_settles 79 = .ok (.iconst 0, 1) := by decide +kernel
theorem dX12_settles_80 : decode cX12_settles 80 = .ok (.istore_n 2, 1) := by decide +kernel
theorem dX12_settles_81 : decode cX12_settles 81 = .ok (.iload_n 2, 1) := by decide +kernel
theorem dX12_settles_82 : decode cX12_settles 82 = .ok (.aload_n 0, 1) := by decide +kernel
theorem dX12_settles_83 : decode cX12_settles 83 = .ok (.getfield 490, 3) := by decide +kernel
theorem dX12_settles_86 : decode cX12_settles 86 = .ok (.if_icmp .ge 43, 3) := by decide +kernel
theorem dX12_settles_89 : decode cX12_settles 89 = .ok (.aload_n 0, 1) := by decide +kernel
theorem dX12_settles_90 : decode cX12_settles 90 = .ok (.getfield 115, 3) := by decide +kernel
theorem dX12_settles_93 : decode cX12_settles 93 = .ok (.iload_n 1, 1) := by decide +kernel
theorem dX12_settles_94 : decode cX12_settles 94 = .ok (.bipush 64, 2) := by decide +kernel
theorem dX12_settles_96 : decode cX12_settles 96 = .ok (.imul, 1) := by decide +kernel
theorem dX12_settles_97 : decode cX12_settles 97 = .ok (.iload_n 2, 1) := by decide +kernel
theorem dX12_settles_98 : decode cX12_settles 98 = .ok (.iadd, 1) := by decide +kernel
theorem dX12_settles_99 : decode cX12_settles 99 = .ok (.aload_n 0, 1) := by decide +kernel
theorem dX12_settles_100 : decode cX12_settles 100 = .ok (.getfield 88, 3) := by decide +kernel
theorem dX12_settles_103 : decode cX12_settles 103 = .ok (.iload_n 2, 1) := by decide +kernel
theorem dX12_settles_104 : decode cX12_settles 104 = .ok (.iaload, 1) := by decide +kernel
theorem dX12_settles_105 : decode cX12_settles 105 = .ok (.iastore, 1) := by decide +kernel
theorem dX12_settles_106 : decode cX12_settles 106 = .ok (.aload_n 0, 1) := by decide +kernel
theorem dX12_settles_107 : decode cX12_settles 107 = .ok (.getfield 118, 3) := by decide +kernel
theorem dX12_settles_110 : decode cX12_settles 110 = .ok (.iload_n 1, 1) := by decide +kernel
theorem dX12_settles_111 : decode cX12_settles 111 = .ok (.bipush 64, 2) := by decide +kernel
theorem dX12_settles_113 : decode cX12_settles 113 = .ok (.imul, 1) := by decide +kernel
theorem dX12_settles_114 : decode cX12_settles 114 = .ok (.iload_n 2, 1) := by decide +kernel
theorem dX12_settles_115 : decode cX12_settles 115 = .ok (.iadd, 1) := by decide +kernel
theorem dX12_settles_116 : decode cX12_settles 116 = .ok (.aload_n 0, 1) := by decide +kernel
theorem dX12_settles_117 : decode cX12_settles 117 = .ok (.getfield 91, 3) := by decide +kernel
theorem dX12_settles_120 : decode cX12_settles 120 = .ok (.iload_n 2, 1) := by decide +kernel
theorem dX12_settles_121 : decode cX12_settles 121 = .ok (.iaload, 1) := by decide +kernel
theorem dX12_settles_122 : decode cX12_settles 122 = .ok (.iastore, 1) := by decide +kernel
theorem dX12_settles_123 : decode cX12_settles 123 = .ok (.iinc 2 1, 3) := by decide +kernel
theorem dX12_settles_126 : decode cX12_settles 126 = .ok (.goto (-45), 3) := by decide +kernel
theorem dX12_settles_129 : decode cX12_settles 129 = .ok (.aload_n 0, 1) := by decide +kernel
theorem dX12_settles_130 : decode cX12_settles 130 = .ok (.iload_n 1, 1) := by decide +kernel
theorem dX12_settles_131 : decode cX12_settles 131 = .ok (.iconst 0, 1) := by decide +kernel
theorem dX12_settles_132 : decode cX12_settles 132 = .ok (.invokevirtual 521, 3) := by decide +kernel
theorem dX12_settles_135 : decode cX12_settles 135 = .ok (.ireturn, 1) := by decide +kernel
theorem dX12_settlesEdge_0 : decode cX12_settlesEdge 0 = .ok (.iload_n 1, 1) := by decide +kernel
theorem dX12_settlesEdge_1 : decode cX12_settlesEdge 1 = .ok (.sipush 160, 3) := by decide +kernel
theorem dX12_settlesEdge_4 : decode cX12_settlesEdge 4 = .ok (.imul, 1) := by decide +kernel
theorem dX12_settlesEdge_5 : decode cX12_settlesEdge 5 = .ok (.iload_n 2, 1) := by decide +kernel
theorem dX12_settlesEdge_6 : decode cX12_settlesEdge 6 = .ok (.iadd, 1) := by decide +kernel
theorem dX12_settlesEdge_7 : decode cX12_settlesEdge 7 = .ok (.istore_n 3, 1) := by decide +kernel
theorem dX12_settlesEdge_8 : decode cX12_settlesEdge 8 = .ok (.aload_n 0, 1) := by decide +kernel
theorem dX12_settlesEdge_9 : decode cX12_settlesEdge 9 = .ok (.getfield 109, 3) := by decide +kernel
theorem dX12_settlesEdge_12 : decode cX12_settlesEdge 12 = .ok (.iload_n 3, 1) := by decide +kernel
theorem dX12_settlesEdge_13 : decode cX12_settlesEdge 13 = .ok (.aload_n 0, 1) := by decide +kernel
theorem dX12_settlesEdge_14 : decode cX12_settlesEdge 14 = .ok (.getfield 73, 3) := by decide +kernel
theorem dX12_settlesEdge_17 : decode cX12_settlesEdge 17 = .ok (.iload_n 2, 1) := by decide +kernel
theorem dX12_settlesEdge_18 : decode cX12_settlesEdge 18 = .ok (.iaload, 1) := by decide +kernel
theorem dX12_settlesEdge_19 : decode cX12_settlesEdge 19 = .ok (.iastore, 1) := by decide +kernel
theorem dX12_settlesEdge_20 : decode cX12_settlesEdge 20 = .ok (.aload_n 0, 1) := by decide +kernel
theorem dX12_settlesEdge_21 : decode cX12_settlesEdge 21 = .ok (.getfield 112, 3) := by decide +kernel
theorem dX12_settlesEdge_24 : decode cX12_settlesEdge 24 = .ok (.iload_n 3, 1) := by decide +kernel
theorem dX12_settlesEdge_25 : decode cX12_settlesEdge 25 = .ok (.aload_n 0, 1) := by decide +kernel
theorem dX12_settlesEdge_26 : decode cX12_settlesEdge 26 = .ok (.getfield 76, 3) := by decide +kernel
theorem dX12_settlesEdge_29 : decode cX12_settlesEdge 29 = .ok (.iload_n 2, 1) := by decide +kernel
theorem dX12_settlesEdge_30 : decode cX12_settlesEdge 30 = .ok (.iaload, 1) := by decide +kernel
theorem dX12_settlesEdge_31 : decode cX12_settlesEdge 31 = .ok (.iastore, 1) := by decide +kernel
theorem dX12_settlesEdge_32 : decode cX12_settlesEdge 32 = .ok (.aload_n 0, 1) := by decide +kernel
theorem dX12_settlesEdge_33 : decode cX12_settlesEdge 33 = .ok (.getfield 124, 3) := by decide +kernel
theorem dX12_settlesEdge_36 : decode cX12_settlesEdge 36 = .ok (.iload_n 3, 1) := by decide +kernel
theorem dX12_settlesEdge_37 : decode cX12_settlesEdge 37 = .ok (.lconst 0, 1) := by decide +kernel
theorem dX12_settlesEdge_38 : decode cX12_settlesEdge 38 = .ok (.lastore, 1) := by decide +kernel
theorem dX12_settlesEdge_39 : decode cX12_settlesEdge 39 = .ok (.aload_n 0, 1) := by decide +kernel
theorem dX12_settlesEdge_40 : decode cX12_settlesEdge 40 = .ok (.getfield 127, 3) := by decide +kernel
theorem dX12_settlesEdge_43 : decode cX12_settlesEdge 43 = .ok (.iload_n 3, 1) := by decide +kernel
theorem dX12_settlesEdge_44 : decode cX12_settlesEdge 44 = .ok (.lconst 0, 1) := by decide +kernel
theorem dX12_settlesEdge_45 : decode cX12_settlesEdge 45 = .ok (.lastore, 1) := by decide +kernel
theorem dX12_settlesEdge_46 : decode cX12_settlesEdge 46 = .ok (.aload_n 0, 1) := by decide +kernel
theorem dX12_settlesEdge_47 : decode cX12_settlesEdge 47 = .ok (.getfield 79, 3) := by decide +kernel
theorem dX12_settlesEdge_50 : decode cX12_settlesEdge 50 = .ok (.iload_n 2, 1) := by decide +kernel
theorem dX12_settlesEdge_51 : decode cX12_settlesEdge 51 = .ok (.iaload, 1) := by decide +kernel
theorem dX12_settlesEdge_52 : decode cX12_settlesEdge 52 = .ok (.istore 4, 2) := by decide +kernel
theorem dX12_settlesEdge_54 : decode cX12_settlesEdge 54 = .ok (.iload 4, 2) := by decide +kernel
theorem dX12_settlesEdge_56 : decode cX12_settlesEdge 56 = .ok (.aload_n 0, 1) := by decide +kernel
theorem dX12_settlesEdge_57 : decode cX12_settlesEdge 57 = .ok (.getfield 79, 3) := by decide +kernel
theorem dX12_settlesEdge_60 : decode cX12_settlesEdge 60 = .ok (.iload_n 2, 1) := by decide +kernel
theorem dX12_settlesEdge_61 : decode cX12_settlesEdge 61 = .ok (.iconst 1, 1) := by decide +kernel
theorem dX12_settlesEdge_62 : decode cX12_settlesEdge 62 = .ok (.iadd, 1) := by decide +kernel
theorem dX12_settlesEdge_63 : decode cX12_settlesEdge 63 = .ok (.iaload, 1) := by decide +kernel
theorem dX12_settlesEdge_64 : decode cX12_settlesEdge 64 = .ok (.if_icmp .ge 102, 3) := by decide +kernel
theorem dX12_settlesEdge_67 : decode cX12_settlesEdge 67 = .ok (.aload_n 0, 1) := by decide +kernel
theorem dX12_settlesEdge_68 : decode cX12_settlesEdge 68 = .ok (.iload_n 1, 1) := by decide +kernel
theorem dX12_settlesEdge_69 : decode cX12_settlesEdge 69 = .ok (.aload_n 0, 1) := by decide +kernel
theorem dX12_settlesEdge_70 : decode cX12_settlesEdge 70 = .ok (.getfield 82, 3) := by decide +kernel
theorem dX12_settlesEdge_73 : decode cX12_settlesEdge 73 = .ok (.iload 4, 2) := by decide +kernel
theorem dX12_settlesEdge_75 : decode cX12_settlesEdge 75 = .ok (.iaload, 1) := by decide +kernel
theorem dX12_settlesEdge_76 : decode cX12_settlesEdge 76 = .ok (.invokevirtual 524, 3) := by decide +kernel
theorem dX12_settlesEdge_79 : decode cX12_settlesEdge 79 = .ok (.istore 5, 2) := by decide +kernel
theorem dX12_settlesEdge_81 : decode cX12_settlesEdge 81 = .ok (.iload 5, 2) := by decide +kernel
theorem dX12_settlesEdge_83 : decode cX12_settlesEdge 83 = .ok (.aload_n 0, 1) := by decide +kernel
theorem dX12_settlesEdge_84 : decode cX12_settlesEdge 84 = .ok (.getfield 103, 3) := by decide +kernel
theorem dX12_settlesEdge_87 : decode cX12_settlesEdge 87 = .ok (.iload_n 1, 1) := by decide +kernel
theorem dX12_settlesEdge_88 : decode cX12_settlesEdge 88 = .ok (.iaload, 1) := by decide +kernel
theorem dX12_settlesEdge_89 : decode cX12_settlesEdge 89 = .ok (.if_icmp .ge 71, 3) := by decide +kernel
theorem dX12_settlesEdge_92 : decode cX12_settlesEdge 92 = .ok (.aload_n 0, 1) := by decide +kernel
theorem dX12_settlesEdge_93 : decode cX12_settlesEdge 93 = .ok (.getfield 106, 3) := by decide +kernel
theorem dX12_settlesEdge_96 : decode cX12_settlesEdge 96 = .ok (.iload_n 1, 1) := by decide +kernel
theorem dX12_settlesEdge_97 : decode cX12_settlesEdge 97 = .ok (.sipush 128, 3) := by decide +kernel
theorem dX12_settlesEdge_100 : decode cX12_settlesEdge 100 = .ok (.imul, 1) := by decide +kernel
theorem dX12_settlesEdge_101 : decode cX12_settlesEdge 101 = .ok (.iload 5, 2) := by decide +kernel
theorem dX12_settlesEdge_103 : decode cX12_settlesEdge 103 = .ok (.iadd, 1) := by decide +kernel
theorem dX12_settlesEdge_104 : decode cX12_settlesEdge 104 = .ok (.iaload, 1) := by decide +kernel
theorem dX12_settlesEdge_105 : decode cX12_settlesEdge 105 = .ok (.aload_n 0, 1) := by decide +kernel
theorem dX12_settlesEdge_106 : decode cX12_settlesEdge 106 = .ok (.getfield 85, 3) := by decide +kernel
theorem dX12_settlesEdge_109 : decode cX12_settlesEdge 109 = .ok (.iload 4, 2) := by decide +kernel
theorem dX12_settlesEdge_111 : decode cX12_settlesEdge 111 = .ok (.iaload, 1) := by decide +kernel
theorem dX12_settlesEdge_112 : decode cX12_settlesEdge 112 = .ok (.if_icmp .gt 48, 3) := by decide +kernel
theorem dX12_settlesEdge_115 : decode cX12_settlesEdge 115 = .ok (.iload 5, 2) := by decide +kernel
theorem dX12_settlesEdge_117 : decode cX12_settlesEdge 117 = .ok (.bipush 64, 2) := by decide +kernel
theorem dX12_settlesEdge_119 : decode cX12_settlesEdge 119 = .ok (.if_icmp .ge 19, 3) := by decide +kernel
theorem dX12_settlesEdge_122 : decode cX12_settlesEdge 122 = .ok (.aload_n 0, 1) := by decide +kernel
theorem dX12_settlesEdge_123 : decode cX12_settlesEdge 123 = .ok (.getfield 124, 3) := by decide +kernel
theorem dX12_settlesEdge_126 : decode cX12_settlesEdge 126 = .ok (.iload_n 3, 1) := by decide +kernel
theorem dX12_settlesEdge_127 : decode cX12_settlesEdge 127 = .ok (.dup2, 1) := by decide +kernel
theorem dX12_settlesEdge_128 : decode cX12_settlesEdge 128 = .ok (.laload, 1) := by decide +kernel
theorem dX12_settlesEdge_129 : decode cX12_settlesEdge 129 = .ok (.lconst 1, 1) := by decide +kernel
theorem dX12_settlesEdge_130 : decode cX12_settlesEdge 130 = .ok (.iload 5, 2) := by decide +kernel
theorem dX12_settlesEdge_132 : decode cX12_settlesEdge 132 = .ok (.lshl, 1) := by decide +kernel
theorem dX12_settlesEdge_133 : decode cX12_settlesEdge 133 = .ok (.lor, 1) := by decide +kernel
theorem dX12_settlesEdge_134 : decode cX12_settlesEdge 134 = .ok (.lastore, 1) := by decide +kernel
theorem dX12_settlesEdge_135 : decode cX12_settlesEdge 135 = .ok (.goto 19, 3) := by decide +kernel
theorem dX12_settlesEdge_138 : decode cX12_settlesEdge 138 = .ok (.aload_n 0, 1) := by decide +kernel
theorem dX12_settlesEdge_139 : decode cX12_settlesEdge 139 = .ok (.getfield 127, 3) := by decide +kernel
theorem dX12_settlesEdge_142 : decode cX12_settlesEdge 142 = .ok (.iload_n 3, 1) := by decide +kernel
theorem dX12_settlesEdge_143 : decode cX12_settlesEdge 143 = .ok (.dup2, 1) := by decide +kernel
theorem dX12_settlesEdge_144 : decode cX12_settlesEdge 144 = .ok (.laload, 1) := by decide +kernel
theorem dX12_settlesEdge_145 : decode cX12_settlesEdge 145 = .ok (.lconst 1, 1) := by decide +kernel
theorem dX12_settlesEdge_146 : decode cX12_settlesEdge 146 = .ok (.iload 5, 2) := by decide +kernel
theorem dX12_settlesEdge_148 : decode cX12_settlesEdge 148 = .ok (.bipush 64, 2) := by decide +kernel
theorem dX12_settlesEdge_150 : decode cX12_settlesEdge 150 = .ok (.isub, 1) := by decide +kernel
theorem dX12_settlesEdge_151 : decode cX12_settlesEdge 151 = .ok (.lshl, 1) := by decide +kernel
theorem dX12_settlesEdge_152 : decode cX12_settlesEdge 152 = .ok (.lor, 1) := by decide +kernel
theorem dX12_settlesEdge_153 : decode cX12_settlesEdge 153 = .ok (.lastore, 1) := by decide +kernel
theorem dX12_settlesEdge_154 : decode cX12_settlesEdge 154 = .ok (.iinc 5 1, 3) := by decide +kernel
theorem dX12_settlesEdge_157 : decode cX12_settlesEdge 157 = .ok (.goto (-76), 3) := by decide +kernel
theorem dX12_settlesEdge_160 : decode cX12_settlesEdge 160 = .ok (.iinc 4 1, 3) := by decide +kernel
theorem dX12_settlesEdge_163 : decode cX12_settlesEdge 163 = .ok (.goto (-109), 3) := by decide +kernel
theorem dX12_settlesEdge_166 : decode cX12_settlesEdge 166 = .ok (.return_, 1) := by decide +kernel
theorem dX12_blockAt_0 : decode cX12_blockAt 0 = .ok (.aload_n 0, 1) := by decide +kernel
theorem dX12_blockAt_1 : decode cX12_blockAt 1 = .ok (.getfield 103, 3) := by decide +kernel
theorem dX12_blockAt_4 : decode cX12_blockAt 4 = .ok (.iload_n 1, 1) := by decide +kernel
theorem dX12_blockAt_5 : decode cX12_blockAt 5 = .ok (.iaload, 1) := by decide +kernel
theorem dX12_blockAt_6 : decode cX12_blockAt 6 = .ok (.iconst 1, 1) := by decide +kernel
theorem dX12_blockAt_7 : decode cX12_blockAt 7 = .ok (.isub, 1) := by decide +kernel
theorem dX12_blockAt_8 : decode cX12_blockAt 8 = .ok (.istore_n 3, 1) := by decide +kernel
theorem dX12_blockAt_9 : decode cX12_blockAt 9 = .ok (.aload_n 0, 1) := by decide +kernel
theorem dX12_blockAt_10 : decode cX12_blockAt 10 = .ok (.getfield 106, 3) := by decide +kernel
theorem dX12_blockAt_13 : decode cX12_blockAt 13 = .ok (.iload_n 1, 1) := by decide +kernel
theorem dX12_blockAt_14 : decode cX12_blockAt 14 = .ok (.sipush 128, 3) := by decide +kernel
theorem dX12_blockAt_17 : decode cX12_blockAt 17 = .ok (.imul, 1) := by decide +kernel
theorem dX12_blockAt_18 : decode cX12_blockAt 18 = .ok (.iload_n 3, 1) := by decide +kernel
theorem dX12_blockAt_19 : decode cX12_blockAt 19 = .ok (.iadd, 1) := by decide +kernel
theorem dX12_blockAt_20 : decode cX12_blockAt 20 = .ok (.iaload, 1) := by decide +kernel
theorem dX12_blockAt_21 : decode cX12_blockAt 21 = .ok (.iload_n 2, 1) := by decide +kernel
theorem dX12_blockAt_22 : decode cX12_blockAt 22 = .ok (.if_icmp .le 9, 3) := by decide +kernel
theorem dX12_blockAt_25 : decode cX12_blockAt 25 = .ok (.iinc 3 (-1), 3) := by decide +kernel
theorem dX12_blockAt_28 : decode cX12_blockAt 28 = .ok (.goto (-19), 3) := by decide +kernel
theorem dX12_blockAt_31 : decode cX12_blockAt 31 = .ok (.iload_n 3, 1) := by decide +kernel
theorem dX12_blockAt_32 : decode cX12_blockAt 32 = .ok (.ireturn, 1) := by decide +kernel
theorem dX12_blockEnd_0 : decode cX12_blockEnd 0 = .ok (.iload_n 2, 1) := by decide +kernel
theorem dX12_blockEnd_1 : decode cX12_blockEnd 1 = .ok (.iconst 1, 1) := by decide +kernel
theorem dX12_blockEnd_2 : decode cX12_blockEnd 2 = .ok (.iadd, 1) := by decide +kernel
theorem dX12_blockEnd_3 : decode cX12_blockEnd 3 = .ok (.aload_n 0, 1) := by decide +kernel
theorem dX12_blockEnd_4 : decode cX12_blockEnd 4 = .ok (.getfield 103, 3) := by decide +kernel
theorem dX12_blockEnd_7 : decode cX12_blockEnd 7 = .ok (.iload_n 1, 1) := by decide +kernel
theorem dX12_blockEnd_8 : decode cX12_blockEnd 8 = .ok (.iaload, 1) := by decide +kernel
theorem dX12_blockEnd_9 : decode cX12_blockEnd 9 = .ok (.if_icmp .ge 20, 3) := by decide +kernel
theorem dX12_blockEnd_12 : decode cX12_blockEnd 12 = .ok (.aload_n 0, 1) := by decide +kernel
theorem dX12_blockEnd_13 : decode cX12_blockEnd 13 = .ok (.getfield 106, 3) := by decide +kernel
theorem dX12_blockEnd_16 : decode cX12_blockEnd 16 = .ok (.iload_n 1, 1) := by decide +kernel
theorem dX12_blockEnd_17 : decode cX12_blockEnd 17 = .ok (.sipush 128, 3) := by decide +kernel
theorem dX12_blockEnd_20 : decode cX12_blockEnd 20 = .ok (.imul, 1) := by decide +kernel
theorem dX12_blockEnd_21 : decode cX12_blockEnd 21 = .ok (.iload_n 2, 1) := by decide +kernel
theorem dX12_blockEnd_22 : decode cX12_blockEnd 22 = .ok (.iadd, 1) := by decide +kernel
theorem dX12_blockEnd_23 : decode cX12_blockEnd 23 = .ok (.iconst 1, 1) := by decide +kernel
theorem dX12_blockEnd_24 : decode cX12_blockEnd 24 = .ok (.iadd, 1) := by decide +kernel
theorem dX12_blockEnd_25 : decode cX12_blockEnd 25 = .ok (.iaload, 1) := by decide +kernel
theorem dX12_blockEnd_26 : decode cX12_blockEnd 26 = .ok (.goto 6, 3) := by decide +kernel
theorem dX12_blockEnd_29 : decode cX12_blockEnd 29 = .ok (.ldc_w 373, 3) := by decide +kernel
theorem dX12_blockEnd_32 : decode cX12_blockEnd 32 = .ok (.ireturn, 1) := by decide +kernel
theorem dX12_edgeHas_0 : decode cX12_edgeHas 0 = .ok (.iload_n 3, 1) := by decide +kernel
theorem dX12_edgeHas_1 : decode cX12_edgeHas 1 = .ok (.bipush 64, 2) := by decide +kernel
theorem dX12_edgeHas_3 : decode cX12_edgeHas 3 = .ok (.if_icmp .ge 22, 3) := by decide +kernel
theorem dX12_edgeHas_6 : decode cX12_edgeHas 6 = .ok (.aload_n 0, 1) := by decide +kernel
theorem dX12_edgeHas_7 : decode cX12_edgeHas 7 = .ok (.getfield 124, 3) := by decide +kernel
theorem dX12_edgeHas_10 : decode cX12_edgeHas 10 = .ok (.iload_n 1, 1) := by decide +kernel
theorem dX12_edgeHas_11 : decode cX12_edgeHas 11 = .ok (.sipush 160, 3) := by decide +kernel
theorem dX12_edgeHas_14 : decode cX12_edgeHas 14 = .ok (.imul, 1) := by decide +kernel
theorem dX12_edgeHas_15 : decode cX12_edgeHas 15 = .ok (.iload_n 2, 1) := by decide +kernel
theorem dX12_edgeHas_16 : decode cX12_edgeHas 16 = .ok (.iadd, 1) := by decide +kernel
theorem dX12_edgeHas_17 : decode cX12_edgeHas 17 = .ok (.laload, 1) := by decide +kernel
theorem dX12_edgeHas_18 : decode cX12_edgeHas 18 = .ok (.iload_n 3, 1) := by decide +kernel
theorem dX12_edgeHas_19 : decode cX12_edgeHas 19 = .ok (.invokestatic 366, 3) := by decide +kernel
theorem dX12_edgeHas_22 : decode cX12_edgeHas 22 = .ok (.goto 22, 3) := by decide +kernel
theorem dX12_edgeHas_25 : decode cX12_edgeHas 25 = .ok (.aload_n 0, 1) := by decide +kernel
theorem dX12_edgeHas_26 : decode cX12_edgeHas 26 = .ok (.getfield 127, 3) := by decide +kernel
theorem dX12_edgeHas_29 : decode cX12_edgeHas 29 = .ok (.iload_n 1, 1) := by decide +kernel
theorem dX12_edgeHas_30 : decode cX12_edgeHas 30 = .ok (.sipush 160, 3) := by decide +kernel
theorem dX12_edgeHas_33 : decode cX12_edgeHas 33 = .ok (.imul, 1) := by decide +kernel
theorem dX12_edgeHas_34 : decode cX12_edgeHas 34 = .ok (.iload_n 2, 1) := by decide +kernel
theorem dX12_edgeHas_35 : decode cX12_edgeHas 35 = .ok (.iadd, 1) := by decide +kernel
theorem dX12_edgeHas_36 : decode cX12_edgeHas 36 = .ok (.laload, 1) := by decide +kernel
theorem dX12_edgeHas_37 : decode cX12_edgeHas 37 = .ok (.iload_n 3, 1) := by decide +kernel
theorem dX12_edgeHas_38 : decode cX12_edgeHas 38 = .ok (.bipush 64, 2) := by decide +kernel
theorem dX12_edgeHas_40 : decode cX12_edgeHas 40 = .ok (.isub, 1) := by decide +kernel
theorem dX12_edgeHas_41 : decode cX12_edgeHas 41 = .ok (.invokestatic 366, 3) := by decide +kernel
theorem dX12_edgeHas_44 : decode cX12_edgeHas 44 = .ok (.ireturn, 1) := by decide +kernel
theorem dX12_freed_0 : decode cX12_freed 0 = .ok (.lload_n 2, 1) := by decide +kernel
theorem dX12_freed_1 : decode cX12_freed 1 = .ok (.lstore 4, 2) := by decide +kernel
theorem dX12_freed_3 : decode cX12_freed 3 = .ok (.iconst 1, 1) := by decide +kernel
theorem dX12_freed_4 : decode cX12_freed 4 = .ok (.istore 6, 2) := by decide +kernel
theorem dX12_freed_6 : decode cX12_freed 6 = .ok (.iload 6, 2) := by decide +kernel
theorem dX12_freed_8 : decode cX12_freed 8 = .ok (.ifCond .eq 82, 3) := by decide +kernel
theorem dX12_freed_11 : decode cX12_freed 11 = .ok (.lload 4, 2) := by decide +kernel
theorem dX12_freed_13 : decode cX12_freed 13 = .ok (.lstore 7, 2) := by decide +kernel
theorem dX12_freed_15 : decode cX12_freed 15 = .ok (.iload_n 1, 1) := by decide +kernel
theorem dX12_freed_16 : decode cX12_freed 16 = .ok (.bipush 64, 2) := by decide +kernel
theorem dX12_freed_18 : decode cX12_freed 18 = .ok (.imul, 1) := by decide +kernel
theorem dX12_freed_19 : decode cX12_freed 19 = .ok (.istore 9, 2) := by decide +kernel
theorem dX12_freed_21 : decode cX12_freed 21 = .ok (.iload 9, 2) := by decide +kernel
theorem dX12_freed_23 : decode cX12_freed 23 = .ok (.iload_n 1, 1) := by decide +kernel
theorem dX12_freed_24 : decode cX12_freed 24 = .ok (.bipush 64, 2) := by decide +kernel
theorem dX12_freed_26 : decode cX12_freed 26 = .ok (.imul, 1) := by decide +kernel
theorem dX12_freed_27 : decode cX12_freed 27 = .ok (.aload_n 0, 1) := by decide +kernel
theorem dX12_freed_28 : decode cX12_freed 28 = .ok (.getfield 100, 3) := by decide +kernel
theorem dX12_freed_31 : decode cX12_freed 31 = .ok (.iload_n 1, 1) := by decide +kernel
theorem dX12_freed_32 : decode cX12_freed 32 = .ok (.iaload, 1) := by decide +kernel
theorem dX12_freed_33 : decode cX12_freed 33 = .ok (.iadd, 1) := by decide +kernel
theorem dX12_freed_34 : decode cX12_freed 34 = .ok (.if_icmp .ge 38, 3) := by decide +kernel
theorem dX12_freed_37 : decode cX12_freed 37 = .ok (.lload 4, 2) := by decide +kernel
theorem dX12_freed_39 : decode cX12_freed 39 = .ok (.aload_n 0, 1) := by decide +kernel
theorem dX12_freed_40 : decode cX12_freed 40 = .ok (.getfield 115, 3) := by decide +kernel
theorem dX12_freed_43 : decode cX12_freed 43 = .ok (.iload 9, 2) := by decide +kernel
theorem dX12_freed_45 : decode cX12_freed 45 = .ok (.iaload, 1) := by decide +kernel
theorem dX12_freed_46 : decode cX12_freed 46 = .ok (.invokestatic 366, 3) := by decide +kernel
theorem dX12_freed_49 : decode cX12_freed 49 = .ok (.ifCond .eq 17, 3) := by decide +kernel
theorem dX12_freed_52 : decode cX12_freed 52 = .ok (.lload 4, 2) := by decide +kernel
theorem dX12_freed_54 : decode cX12_freed 54 = .ok (.lconst 1, 1) := by decide +kernel
theorem dX12_freed_55 : decode cX12_freed 55 = .ok (.aload_n 0, 1) := by decide +kernel
theorem dX12_freed_56 : decode cX12_freed 56 = .ok (.getfield 118, 3) := by decide +kernel
theorem dX12_freed_59 : decode cX12_freed 59 = .ok (.iload 9, 2) := by decide +kernel
theorem dX12_freed_61 : decode cX12_freed 61 = .ok (.iaload, 1) := by decide +kernel
theorem dX12_freed_62 : decode cX12_freed 62 = .ok (.lshl, 1) := by decide +kernel
theorem dX12_freed_63 : decode cX12_freed 63 = .ok (.lor, 1) := by decide +kernel
theorem dX12_freed_64 : decode cX12_freed 64 = .ok (.lstore 4, 2) := by decide +kernel
theorem dX12_freed_66 : decode cX12_freed 66 = .ok (.iinc 9 1, 3) := by decide +kernel
theorem dX12_freed_69 : decode cX12_freed 69 = .ok (.goto (-48), 3) := by decide +kernel
theorem dX12_freed_72 : decode cX12_freed 72 = .ok (.lload 7, 2) := by decide +kernel
theorem dX12_freed_74 : decode cX12_freed 74 = .ok (.lload 4, 2) := by decide +kernel
theorem dX12_freed_76 : decode cX12_freed 76 = .ok (.lcmp, 1) := by decide +kernel
theorem dX12_freed_77 : decode cX12_freed 77 = .ok (.ifCond .eq 7, 3) := by decide +kernel
theorem dX12_freed_80 : decode cX12_freed 80 = .ok (.iconst 1, 1) := by decide +kernel
theorem dX12_freed_81 : decode cX12_freed 81 = .ok (.goto 4, 3) := by decide +kernel
theorem dX12_freed_84 : decode cX12_freed 84 = .ok (.iconst 0, 1) := by decide +kernel
theorem dX12_freed_85 : decode cX12_freed 85 = .ok (.istore 6, 2) := by decide +kernel
theorem dX12_freed_87 : decode cX12_freed 87 = .ok (.goto (-81), 3) := by decide +kernel
theorem dX12_freed_90 : decode cX12_freed 90 = .ok (.lload 4, 2) := by decide +kernel
theorem dX12_freed_92 : decode cX12_freed 92 = .ok (.lreturn, 1) := by decide +kernel
theorem dX12_stepped_0 : decode cX12_stepped 0 = .ok (.lconst 0, 1) := by decide +kernel
theorem dX12_stepped_1 : decode cX12_stepped 1 = .ok (.lstore 5, 2) := by decide +kernel
theorem dX12_stepped_3 : decode cX12_stepped 3 = .ok (.iconst 0, 1) := by decide +kernel
theorem dX12_stepped_4 : decode cX12_stepped 4 = .ok (.istore 7, 2) := by decide +kernel
theorem dX12_stepped_6 : decode cX12_stepped 6 = .ok (.iload 7, 2) := by decide +kernel
theorem dX12_stepped_8 : decode cX12_stepped 8 = .ok (.aload_n 0, 1) := by decide +kernel
theorem dX12_stepped_9 : decode cX12_stepped 9 = .ok (.getfield 97, 3) := by decide +kernel
theorem dX12_stepped_12 : decode cX12_stepped 12 = .ok (.iload_n 1, 1) := by decide +kernel
theorem dX12_stepped_13 : decode cX12_stepped 13 = .ok (.iaload, 1) := by decide +kernel
theorem dX12_stepped_14 : decode cX12_stepped 14 = .ok (.if_icmp .ge 61, 3) := by decide +kernel
theorem dX12_stepped_17 : decode cX12_stepped 17 = .ok (.lload_n 2, 1) := by decide +kernel
theorem dX12_stepped_18 : decode cX12_stepped 18 = .ok (.aload_n 0, 1) := by decide +kernel
theorem dX12_stepped_19 : decode cX12_stepped 19 = .ok (.getfield 109, 3) := by decide +kernel
theorem dX12_stepped_22 : decode cX12_stepped 22 = .ok (.iload_n 1, 1) := by decide +kernel
theorem dX12_stepped_23 : decode cX12_stepped 23 = .ok (.sipush 160, 3) := by decide +kernel
theorem dX12_stepped_26 : decode cX12_stepped 26 = .ok (.imul, 1) := by decide +kernel
theorem dX12_stepped_27 : decode cX12_stepped 27 = .ok (.iload 7, 2) := by decide +kernel
theorem dX12_stepped_29 : decode cX12_stepped 29 = .ok (.iadd, 1) := by decide +kernel
theorem dX12_stepped_30 : decode cX12_stepped 30 = .ok (.iaload, 1) := by decide +kernel
theorem dX12_stepped_31 : decode cX12_stepped 31 = .ok (.invokestatic 366, 3) := by decide +kernel
theorem dX12_stepped_34 : decode cX12_stepped 34 = .ok (.ifCond .eq 35, 3) := by decide +kernel
theorem dX12_stepped_37 : decode cX12_stepped 37 = .ok (.aload_n 0, 1) := by decide +kernel
theorem dX12_stepped_38 : decode cX12_stepped 38 = .ok (.iload_n 1, 1) := by decide +kernel
theorem dX12_stepped_39 : decode cX12_stepped 39 = .ok (.iload 7, 2) := by decide +kernel
theorem dX12_stepped_41 : decode cX12_stepped 41 = .ok (.iload 4, 2) := by decide +kernel
theorem dX12_stepped_43 : decode cX12_stepped 43 = .ok (.invokevirtual 527, 3) := by decide +kernel
theorem dX12_stepped_46 : decode cX12_stepped 46 = .ok (.ifCond .eq 23, 3) := by decide +kernel
theorem dX12_stepped_49 : decode cX12_stepped 49 = .ok (.lload 5, 2) := by decide +kernel
theorem dX12_stepped_51 : decode cX12_stepped 51 = .ok (.lconst 1, 1) := by decide +kernel
theorem dX12_stepped_52 : decode cX12_stepped 52 = .ok (.aload_n 0, 1) := by decide +kernel
theorem dX12_stepped_53 : decode cX12_stepped 53 = .ok (.getfield 112, 3) := by decide +kernel
theorem dX12_stepped_56 : decode cX12_stepped 56 = .ok (.iload_n 1, 1) := by decide +kernel
theorem dX12_stepped_57 : decode cX12_stepped 57 = .ok (.sipush 160, 3) := by decide +kernel
theorem dX12_stepped_60 : decode cX12_stepped 60 = .ok (.imul, 1) := by decide +kernel
theorem dX12_stepped_61 : decode cX12_stepped 61 = .ok (.iload 7, 2) := by decide +kernel
theorem dX12_stepped_63 : decode cX12_stepped 63 = .ok (.iadd, 1) := by decide +kernel
theorem dX12_stepped_64 : decode cX12_stepped 64 = .ok (.iaload, 1) := by decide +kernel
theorem dX12_stepped_65 : decode cX12_stepped 65 = .ok (.lshl, 1) := by decide +kernel
theorem dX12_stepped_66 : decode cX12_stepped 66 = .ok (.lor, 1) := by decide +kernel
theorem dX12_stepped_67 : decode cX12_stepped 67 = .ok (.lstore 5, 2) := by decide +kernel
theorem dX12_stepped_69 : decode cX12_stepped 69 = .ok (.iinc 7 1, 3) := by decide +kernel
theorem dX12_stepped_72 : decode cX12_stepped 72 = .ok (.goto (-66), 3) := by decide +kernel
theorem dX12_stepped_75 : decode cX12_stepped 75 = .ok (.aload_n 0, 1) := by decide +kernel
theorem dX12_stepped_76 : decode cX12_stepped 76 = .ok (.iload_n 1, 1) := by decide +kernel
theorem dX12_stepped_77 : decode cX12_stepped 77 = .ok (.lload 5, 2) := by decide +kernel
theorem dX12_stepped_79 : decode cX12_stepped 79 = .ok (.invokevirtual 530, 3) := by decide +kernel
theorem dX12_stepped_82 : decode cX12_stepped 82 = .ok (.lreturn, 1) := by decide +kernel
theorem dX12_gathers_0 : decode cX12_gathers 0 = .ok (.iload_n 2, 1) := by decide +kernel
theorem dX12_gathers_1 : decode cX12_gathers 1 = .ok (.bipush 40, 2) := by decide +kernel
theorem dX12_gathers_3 : decode cX12_gathers 3 = .ok (.imul, 1) := by decide +kernel
theorem dX12_gathers_4 : decode cX12_gathers 4 = .ok (.istore_n 3, 1) := by decide +kernel
theorem dX12_gathers_5 : decode cX12_gathers 5 = .ok (.aload_n 0, 1) := by decide +kernel
theorem dX12_gathers_6 : decode cX12_gathers 6 = .ok (.getfield 130, 3) := by decide +kernel
theorem dX12_gathers_9 : decode cX12_gathers 9 = .ok (.iload_n 3, 1) := by decide +kernel
theorem dX12_gathers_10 : decode cX12_gathers 10 = .ok (.aload_n 0, 1) := by decide +kernel
theorem dX12_gathers_11 : decode cX12_gathers 11 = .ok (.iload_n 1, 1) := by decide +kernel
theorem dX12_gathers_12 : decode cX12_gathers 12 = .ok (.lconst 1, 1) := by decide +kernel
theorem dX12_gathers_13 : decode cX12_gathers 13 = .ok (.invokevirtual 530, 3) := by decide +kernel
theorem dX12_gathers_16 : decode cX12_gathers 16 = .ok (.lastore, 1) := by decide +kernel
theorem dX12_gathers_17 : decode cX12_gathers 17 = .ok (.aload_n 0, 1) := by decide +kernel
theorem dX12_gathers_18 : decode cX12_gathers 18 = .ok (.getfield 139, 3) := by decide +kernel
theorem dX12_gathers_21 : decode cX12_gathers 21 = .ok (.iload_n 3, 1) := by decide +kernel
theorem dX12_gathers_22 : decode cX12_gathers 22 = .ok (.iconst (-1), 1) := by decide +kernel
theorem dX12_gathers_23 : decode cX12_gathers 23 = .ok (.iastore, 1) := by decide +kernel
theorem dX12_gathers_24 : decode cX12_gathers 24 = .ok (.iconst 1, 1) := by decide +kernel
theorem dX12_gathers_25 : decode cX12_gathers 25 = .ok (.istore 4, 2) := by decide +kernel
theorem dX12_gathers_27 : decode cX12_gathers 27 = .ok (.iconst 0, 1) := by decide +kernel
theorem dX12_gathers_28 : decode cX12_gathers 28 = .ok (.istore 5, 2) := by decide +kernel
theorem dX12_gathers_30 : decode cX12_gathers 30 = .ok (.iload 5, 2) := by decide +kernel
theorem dX12_gathers_32 : decode cX12_gathers 32 = .ok (.iload 4, 2) := by decide +kernel
theorem dX12_gathers_34 : decode cX12_gathers 34 = .ok (.if_icmp .ge 139, 3) := by decide +kernel
theorem dX12_gathers_37 : decode cX12_gathers 37 = .ok (.iconst 0, 1) := by decide +kernel
theorem dX12_gathers_38 : decode cX12_gathers 38 = .ok (.istore 6, 2) := by decide +kernel
theorem dX12_gathers_40 : decode cX12_gathers 40 = .ok (.iload 6, 2) := by decide +kernel
theorem dX12_gathers_42 : decode cX12_gathers 42 = .ok (.aload_n 0, 1) := by decide +kernel
theorem dX12_gathers_43 : decode cX12_gathers 43 = .ok (.getfield 103, 3) := by decide +kernel
theorem dX12_gathers_46 : decode cX12_gathers 46 = .ok (.iload_n 1, 1) := by decide +kernel
theorem dX12_gathers_47 : decode cX12_gathers 47 = .ok (.iaload, 1) := by decide +kernel
theorem dX12_gathers_48 : decode cX12_gathers 48 = .ok (.if_icmp .ge 119, 3) := by decide +kernel
theorem dX12_gathers_51 : decode cX12_gathers 51 = .ok (.aload_n 0, 1) := by decide +kernel
theorem dX12_gathers_52 : decode cX12_gathers 52 = .ok (.iload_n 1, 1) := by decide +kernel
theorem dX12_gathers_53 : decode cX12_gathers 53 = .ok (.aload_n 0, 1) := by decide +kernel
theorem dX12_gathers_54 : decode cX12_gathers 54 = .ok (.getfield 130, 3) := by decide +kernel
theorem dX12_gathers_57 : decode cX12_gathers 57 = .ok (.iload_n 3, 1) := by decide +kernel
theorem dX12_gathers_58 : decode cX12_gathers 58 = .ok (.iload 5, 2) := by decide +kernel
theorem dX12_gathers_60 : decode cX12_gathers 60 = .ok (.iadd, 1) := by decide +kernel
theorem dX12_gathers_61 : decode cX12_gathers 61 = .ok (.laload, 1) := by decide +kernel
theorem dX12_gathers_62 : decode cX12_gathers 62 = .ok (.iload 6, 2) := by decide +kernel
theorem dX12_gathers_64 : decode cX12_gathers 64 = .ok (.invokevirtual 534, 3) := by decide +kernel
theorem dX12_gathers_67 : decode cX12_gathers 67 = .ok (.lstore 7, 2) := by decide +kernel
theorem dX12_gathers_69 : decode cX12_gathers 69 = .ok (.aload_n 0, 1) := by decide +kernel
theorem dX12_gathers_70 : decode cX12_gathers 70 = .ok (.iload_n 3, 1) := by decide +kernel
theorem dX12_gathers_71 : decode cX12_gathers 71 = .ok (.iload 4, 2) := by decide +kernel
theorem dX12_gathers_73 : decode cX12_gathers 73 = .ok (.lload 7, 2) := by decide +kernel
theorem dX12_gathers_75 : decode cX12_gathers 75 = .ok (.invokevirtual 538, 3) := by decide +kernel
theorem dX12_gathers_78 : decode cX12_gathers 78 = .ok (.istore 9, 2) := by decide +kernel
theorem dX12_gathers_80 : decode cX12_gathers 80 = .ok (.iload 9, 2) := by decide +kernel
theorem dX12_gathers_82 : decode cX12_gathers 82 = .ok (.bipush 40, 2) := by decide +kernel
theorem dX12_gathers_84 : decode cX12_gathers 84 = .ok (.if_icmp .ne 5, 3) := by decide +kernel
theorem dX12_gathers_87 : decode cX12_gathers 87 = .ok (.iconst 0, 1) := by decide +kernel
theorem dX12_gathers_88 : decode cX12_gathers 88 = .ok (.ireturn, 1) := by decide +kernel
theorem dX12_gathers_89 : decode cX12_gathers 89 = .ok (.iload 9, 2) := by decide +kernel
theorem dX12_gathers_91 : decode cX12_gathers 91 = .ok (.iload 4, 2) := by decide +kernel
theorem dX12_gathers_93 : decode cX12_gathers 93 = .ok (.if_icmp .ne 50, 3) := by decide +kernel
theorem dX12_gathers_96 : decode cX12_gathers 96 = .ok (.aload_n 0, 1) := by decide +kernel
theorem dX12_gathers_97 : decode cX12_gathers 97 = .ok (.getfield 130, 3) := by decide +kernel
theorem dX12_gathers_100 : decode cX12_gathers 100 = .ok (.iload_n 3, 1) := by decide +kernel
theorem dX12_gathers_101 : decode cX12_gathers 101 = .ok (.iload 9, 2) := by decide +kernel
theorem dX12_gathers_103 : decode cX12_gathers 103 = .ok (.iadd, 1) := by decide +kernel
theorem dX12_gathers_104 : decode cX12_gathers 104 = .ok (.lload 7, 2) := by decide +kernel
theorem dX12_gathers_106 : decode cX12_gathers 106 = .ok (.lastore, 1) := by decide +kernel
theorem dX12_gathers_107 : decode cX12_gathers 107 = .ok (.aload_n 0, 1) := by decide +kernel
theorem dX12_gathers_108 : decode cX12_gathers 108 = .ok (.getfield 139, 3) := by decide +kernel
theorem dX12_gathers_111 : decode cX12_gathers 111 = .ok (.iload_n 3, 1) := by decide +kernel
theorem dX12_gathers_112 : decode cX12_gathers 112 = .ok (.iload 9, 2) := by decide +kernel
theorem dX12_gathers_114 : decode cX12_gathers 114 = .ok (.iadd, 1) := by decide +kernel
theorem dX12_gathers_115 : decode cX12_gathers 115 = .ok (.iload 5, 2) := by decide +kernel
theorem dX12_gathers_117 : decode cX12_gathers 117 = .ok (.iastore, 1) := by decide +kernel
theorem dX12_gathers_118 : decode cX12_gathers 118 = .ok (.aload_n 0, 1) := by decide +kernel
theorem dX12_gathers_119 : decode cX12_gathers 119 = .ok (.getfield 142, 3) := by decide +kernel
theorem dX12_gathers_122 : decode cX12_gathers 122 = .ok (.iload_n 3, 1) := by decide +kernel
theorem dX12_gathers_123 : decode cX12_gathers 123 = .ok (.iload 9, 2) := by decide +kernel
theorem dX12_gathers_125 : decode cX12_gathers 125 = .ok (.iadd, 1) := by decide +kernel
theorem dX12_gathers_126 : decode cX12_gathers 126 = .ok (.aload_n 0, 1) := by decide +kernel
theorem dX12_gathers_127 : decode cX12_gathers 127 = .ok (.getfield 106, 3) := by decide +kernel
theorem dX12_gathers_130 : decode cX12_gathers 130 = .ok (.iload_n 1, 1) := by decide +kernel
theorem dX12_gathers_131 : decode cX12_gathers 131 = .ok (.sipush 128, 3) := by decide +kernel
theorem dX12_gathers_134 : decode cX12_gathers 134 = .ok (.imul, 1) := by decide +kernel
theorem dX12_gathers_135 : decode cX12_gathers 135 = .ok (.iload 6, 2) := by decide +kernel
theorem dX12_gathers_137 : decode cX12_gathers 137 = .ok (.iadd, 1) := by decide +kernel
theorem dX12_gathers_138 : decode cX12_gathers 138 = .ok (.iaload, 1) := by decide +kernel
theorem dX12_gathers_139 : decode cX12_gathers 139 = .ok (.iastore, 1) := by decide +kernel
theorem dX12_gathers_140 : decode cX12_gathers 140 = .ok (.iinc 4 1, 3) := by decide +kernel
theorem dX12_gathers_143 : decode cX12_gathers 143 = .ok (.aload_n 0, 1) := by decide +kernel
theorem dX12_gathers_144 : decode cX12_gathers 144 = .ok (.getfield 136, 3) := by decide +kernel
theorem dX12_gathers_147 : decode cX12_gathers 147 = .ok (.iload_n 3, 1) := by decide +kernel
theorem dX12_gathers_148 : decode cX12_gathers 148 = .ok (.iload 5, 2) := by decide +kernel
theorem dX12_gathers_150 : decode cX12_gathers 150 = .ok (.iadd, 1) := by decide +kernel
theorem dX12_gathers_151 : decode cX12_gathers 151 = .ok (.sipush 128, 3) := by decide +kernel
theorem dX12_gathers_154 : decode cX12_gathers 154 = .ok (.imul, 1) := by decide +kernel
theorem dX12_gathers_155 : decode cX12_gathers 155 = .ok (.iload 6, 2) := by decide +kernel
theorem dX12_gathers_157 : decode cX12_gathers 157 = .ok (.iadd, 1) := by decide +kernel
theorem dX12_gathers_158 : decode cX12_gathers 158 = .ok (.iload 9, 2) := by decide +kernel
theorem dX12_gathers_160 : decode cX12_gathers 160 = .ok (.iastore, 1) := by decide +kernel
theorem dX12_gathers_161 : decode cX12_gathers 161 = .ok (.iinc 6 1, 3) := by decide +kernel
theorem dX12_gathers_164 : decode cX12_gathers 164 = .ok (.goto (-124), 3) := by decide +kernel
theorem dX12_gathers_167 : decode cX12_gathers 167 = .ok (.iinc 5 1, 3) := by decide +kernel
theorem dX12_gathers_170 : decode cX12_gathers 170 = .ok (.goto (-140), 3) := by decide +kernel
theorem dX12_gathers_173 : decode cX12_gathers 173 = .ok (.aload_n 0, 1) := by decide +kernel
theorem dX12_gathers_174 : decode cX12_gathers 174 = .ok (.getfield 133, 3) := by decide +kernel
theorem dX12_gathers_177 : decode cX12_gathers 177 = .ok (.iload_n 2, 1) := by decide +kernel
theorem dX12_gathers_178 : decode cX12_gathers 178 = .ok (.iload 4, 2) := by decide +kernel
theorem dX12_gathers_180 : decode cX12_gathers 180 = .ok (.iastore, 1) := by decide +kernel
theorem dX12_gathers_181 : decode cX12_gathers 181 = .ok (.iconst 1, 1) := by decide +kernel
theorem dX12_gathers_182 : decode cX12_gathers 182 = .ok (.ireturn, 1) := by decide +kernel
theorem dX12_sheafIn_0 : decode cX12_sheafIn 0 = .ok (.iconst 0, 1) := by decide +kernel
theorem dX12_sheafIn_1 : decode cX12_sheafIn 1 = .ok (.istore 5, 2) := by decide +kernel
theorem dX12_sheafIn_3 : decode cX12_sheafIn 3 = .ok (.iload 5, 2) := by decide +kernel
theorem dX12_sheafIn_5 : decode cX12_sheafIn 5 = .ok (.iload_n 2, 1) := by decide +kernel
theorem dX12_sheafIn_6 : decode cX12_sheafIn 6 = .ok (.if_icmp .ge 23, 3) := by decide +kernel
theorem dX12_sheafIn_9 : decode cX12_sheafIn 9 = .ok (.aload_n 0, 1) := by decide +kernel
theorem dX12_sheafIn_10 : decode cX12_sheafIn 10 = .ok (.getfield 130, 3) := by decide +kernel
theorem dX12_sheafIn_13 : decode cX12_sheafIn 13 = .ok (.iload_n 1, 1) := by decide +kernel
theorem dX12_sheafIn_14 : decode cX12_sheafIn 14 = .ok (.iload 5, 2) := by decide +kernel
theorem dX12_sheafIn_16 : decode cX12_sheafIn 16 = .ok (.iadd, 1) := by decide +kernel
theorem dX12_sheafIn_17 : decode cX12_sheafIn 17 = .ok (.laload, 1) := by decide +kernel
theorem dX12_sheafIn_18 : decode cX12_sheafIn 18 = .ok (.lload_n 3, 1) := by decide +kernel
theorem dX12_sheafIn_19 : decode cX12_sheafIn 19 = .ok (.lcmp, 1) := by decide +kernel
theorem dX12_sheafIn_20 : decode cX12_sheafIn 20 = .ok (.ifCond .eq 9, 3) := by decide +kernel
theorem dX12_sheafIn_23 : decode cX12_sheafIn 23 = .ok (.iinc 5 1, 3) := by decide +kernel
theorem dX12_sheafIn_26 : decode cX12_sheafIn 26 = .ok (.goto (-23), 3) := by decide +kernel
theorem dX12_sheafIn_29 : decode cX12_sheafIn 29 = .ok (.iload 5, 2) := by decide +kernel
theorem dX12_sheafIn_31 : decode cX12_sheafIn 31 = .ok (.ireturn, 1) := by decide +kernel
theorem dX12_goesTo_0 : decode cX12_goesTo 0 = .ok (.aload_n 0, 1) := by decide +kernel
theorem dX12_goesTo_1 : decode cX12_goesTo 1 = .ok (.getfield 136, 3) := by decide +kernel
theorem dX12_goesTo_4 : decode cX12_goesTo 4 = .ok (.iload_n 1, 1) := by decide +kernel
theorem dX12_goesTo_5 : decode cX12_goesTo 5 = .ok (.bipush 40, 2) := by decide +kernel
theorem dX12_goesTo_7 : decode cX12_goesTo 7 = .ok (.imul, 1) := by decide +kernel
theorem dX12_goesTo_8 : decode cX12_goesTo 8 = .ok (.iload_n 2, 1) := by decide +kernel
theorem dX12_goesTo_9 : decode cX12_goesTo 9 = .ok (.iadd, 1) := by decide +kernel
theorem dX12_goesTo_10 : decode cX12_goesTo 10 = .ok (.sipush 128, 3) := by decide +kernel
theorem dX12_goesTo_13 : decode cX12_goesTo 13 = .ok (.imul, 1) := by decide +kernel
theorem dX12_goesTo_14 : decode cX12_goesTo 14 = .ok (.iload_n 3, 1) := by decide +kernel
theorem dX12_goesTo_15 : decode cX12_goesTo 15 = .ok (.iadd, 1) := by decide +kernel
theorem dX12_goesTo_16 : decode cX12_goesTo 16 = .ok (.iaload, 1) := by decide +kernel
theorem dX12_goesTo_17 : decode cX12_goesTo 17 = .ok (.ireturn, 1) := by decide +kernel
theorem dX12_sheafEnds_0 : decode cX12_sheafEnds 0 = .ok (.aload_n 0, 1) := by decide +kernel
theorem dX12_sheafEnds_1 : decode cX12_sheafEnds 1 = .ok (.getfield 130, 3) := by decide +kernel
theorem dX12_sheafEnds_4 : decode cX12_sheafEnds 4 = .ok (.iload_n 2, 1) := by decide +kernel
theorem dX12_sheafEnds_5 : decode cX12_sheafEnds 5 = .ok (.bipush 40, 2) := by decide +kernel
theorem dX12_sheafEnds_7 : decode cX12_sheafEnds 7 = .ok (.imul, 1) := by decide +kernel
theorem dX12_sheafEnds_8 : decode cX12_sheafEnds 8 = .ok (.iload_n 3, 1) := by decide +kernel
theorem dX12_sheafEnds_9 : decode cX12_sheafEnds 9 = .ok (.iadd, 1) := by decide +kernel
theorem dX12_sheafEnds_10 : decode cX12_sheafEnds 10 = .ok (.laload, 1) := by decide +kernel
theorem dX12_sheafEnds_11 : decode cX12_sheafEnds 11 = .ok (.aload_n 0, 1) := by decide +kernel
theorem dX12_sheafEnds_12 : decode cX12_sheafEnds 12 = .ok (.getfield 121, 3) := by decide +kernel
theorem dX12_sheafEnds_15 : decode cX12_sheafEnds 15 = .ok (.iload_n 1, 1) := by decide +kernel
theorem dX12_sheafEnds_16 : decode cX12_sheafEnds 16 = .ok (.laload, 1) := by decide +kernel
theorem dX12_sheafEnds_17 : decode cX12_sheafEnds 17 = .ok (.land, 1) := by decide +kernel
theorem dX12_sheafEnds_18 : decode cX12_sheafEnds 18 = .ok (.lconst 0, 1) := by decide +kernel
theorem dX12_sheafEnds_19 : decode cX12_sheafEnds 19 = .ok (.lcmp, 1) := by decide +kernel
theorem dX12_sheafEnds_20 : decode cX12_sheafEnds 20 = .ok (.ifCond .eq 7, 3) := by decide +kernel
theorem dX12_sheafEnds_23 : decode cX12_sheafEnds 23 = .ok (.iconst 1, 1) := by decide +kernel
theorem dX12_sheafEnds_24 : decode cX12_sheafEnds 24 = .ok (.goto 4, 3) := by decide +kernel
theorem dX12_sheafEnds_27 : decode cX12_sheafEnds 27 = .ok (.iconst 0, 1) := by decide +kernel
theorem dX12_sheafEnds_28 : decode cX12_sheafEnds 28 = .ok (.ireturn, 1) := by decide +kernel
theorem dX12_parts_0 : decode cX12_parts 0 = .ok (.aload_n 0, 1) := by decide +kernel
theorem dX12_parts_1 : decode cX12_parts 1 = .ok (.getfield 133, 3) := by decide +kernel
theorem dX12_parts_4 : decode cX12_parts 4 = .ok (.iload_n 2, 1) := by decide +kernel
theorem dX12_parts_5 : decode cX12_parts 5 = .ok (.iaload, 1) := by decide +kernel
theorem dX12_parts_6 : decode cX12_parts 6 = .ok (.istore_n 3, 1) := by decide +kernel
theorem dX12_parts_7 : decode cX12_parts 7 = .ok (.iconst 0, 1) := by decide +kernel
theorem dX12_parts_8 : decode cX12_parts 8 = .ok (.istore 4, 2) := by decide +kernel
theorem dX12_parts_10 : decode cX12_parts 10 = .ok (.iload 4, 2) := by decide +kernel
theorem dX12_parts_12 : decode cX12_parts 12 = .ok (.iload_n 3, 1) := by decide +kernel
theorem dX12_parts_13 : decode cX12_parts 13 = .ok (.if_icmp .ge 61, 3) := by decide +kernel
theorem dX12_parts_16 : decode cX12_parts 16 = .ok (.iconst 0, 1) := by decide +kernel
theorem dX12_parts_17 : decode cX12_parts 17 = .ok (.istore 5, 2) := by decide +kernel
theorem dX12_parts_19 : decode cX12_parts 19 = .ok (.iload 5, 2) := by decide +kernel
theorem dX12_parts_21 : decode cX12_parts 21 = .ok (.iload_n 3, 1) := by decide +kernel
theorem dX12_parts_22 : decode cX12_parts 22 = .ok (.if_icmp .ge 46, 3) := by decide +kernel
theorem dX12_parts_25 : decode cX12_parts 25 = .ok (.aload_n 0, 1) := by decide +kernel
theorem dX12_parts_26 : decode cX12_parts 26 = .ok (.getfield 154, 3) := by decide +kernel
theorem dX12_parts_29 : decode cX12_parts 29 = .ok (.iload 4, 2) := by decide +kernel
theorem dX12_parts_31 : decode cX12_parts 31 = .ok (.bipush 40, 2) := by decide +kernel
theorem dX12_parts_33 : decode cX12_parts 33 = .ok (.imul, 1) := by decide +kernel
theorem dX12_parts_34 : decode cX12_parts 34 = .ok (.iload 5, 2) := by decide +kernel
theorem dX12_parts_36 : decode cX12_parts 36 = .ok (.iadd, 1) := by decide +kernel
theorem dX12_parts_37 : decode cX12_parts 37 = .ok (.aload_n 0, 1) := by decide +kernel
theorem dX12_parts_38 : decode cX12_parts 38 = .ok (.iload_n 1, 1) := by decide +kernel
theorem dX12_parts_39 : decode cX12_parts 39 = .ok (.iload_n 2, 1) := by decide +kernel
theorem dX12_parts_40 : decode cX12_parts 40 = .ok (.iload 4, 2) := by decide +kernel
theorem dX12_parts_42 : decode cX12_parts 42 = .ok (.invokevirtual 542, 3) := by decide +kernel
theorem dX12_parts_45 : decode cX12_parts 45 = .ok (.aload_n 0, 1) := by decide +kernel
theorem dX12_parts_46 : decode cX12_parts 46 = .ok (.iload_n 1, 1) := by decide +kernel
theorem dX12_parts_47 : decode cX12_parts 47 = .ok (.iload_n 2, 1) := by decide +kernel
theorem dX12_parts_48 : decode cX12_parts 48 = .ok (.iload 5, 2) := by decide +kernel
theorem dX12_parts_50 : decode cX12_parts 50 = .ok (.invokevirtual 542, 3) := by decide +kernel
theorem dX12_parts_53 : decode cX12_parts 53 = .ok (.if_icmp .eq 7, 3) := by decide +kernel
theorem dX12_parts_56 : decode cX12_parts 56 = .ok (.iconst 0, 1) := by decide +kernel
theorem dX12_parts_57 : decode cX12_parts 57 = .ok (.goto 4, 3) := by decide +kernel
theorem dX12_parts_60 : decode cX12_parts 60 = .ok (.iconst (-1), 1) := by decide +kernel
theorem dX12_parts_61 : decode cX12_parts 61 = .ok (.iastore, 1) := by decide +kernel
theorem dX12_parts_62 : decode cX12_parts 62 = .ok (.iinc 5 1, 3) := by decide +kernel
theorem dX12_parts_65 : decode cX12_parts 65 = .ok (.goto (-46), 3) := by decide +kernel
theorem dX12_parts_68 : decode cX12_parts 68 = .ok (.iinc 4 1, 3) := by decide +kernel
theorem dX12_parts_71 : decode cX12_parts 71 = .ok (.goto (-61), 3) := by decide +kernel
theorem dX12_parts_74 : decode cX12_parts 74 = .ok (.aload_n 0, 1) := by decide +kernel
theorem dX12_parts_75 : decode cX12_parts 75 = .ok (.iconst 0, 1) := by decide +kernel
theorem dX12_parts_76 : decode cX12_parts 76 = .ok (.putfield 545, 3) := by decide +kernel
theorem dX12_parts_79 : decode cX12_parts 79 = .ok (.aload_n 0, 1) := by decide +kernel
theorem dX12_parts_80 : decode cX12_parts 80 = .ok (.iload_n 1, 1) := by decide +kernel
theorem dX12_parts_81 : decode cX12_parts 81 = .ok (.iload_n 2, 1) := by decide +kernel
theorem dX12_parts_82 : decode cX12_parts 82 = .ok (.aload_n 0, 1) := by decide +kernel
theorem dX12_parts_83 : decode cX12_parts 83 = .ok (.getfield 545, 3) := by decide +kernel
theorem dX12_parts_86 : decode cX12_parts 86 = .ok (.iconst 1, 1) := by decide +kernel
theorem dX12_parts_87 : decode cX12_parts 87 = .ok (.iadd, 1) := by decide +kernel
theorem dX12_parts_88 : decode cX12_parts 88 = .ok (.invokevirtual 548, 3) := by decide +kernel
theorem dX12_parts_91 : decode cX12_parts 91 = .ok (.ifCond .eq 16, 3) := by decide +kernel
theorem dX12_parts_94 : decode cX12_parts 94 = .ok (.aload_n 0, 1) := by decide +kernel
theorem dX12_parts_95 : decode cX12_parts 95 = .ok (.dup, 1) := by decide +kernel
theorem dX12_parts_96 : decode cX12_parts 96 = .ok (.getfield 545, 3) := by decide +kernel
theorem dX12_parts_99 : decode cX12_parts 99 = .ok (.iconst 1, 1) := by decide +kernel
theorem dX12_parts_100 : decode cX12_parts 100 = .ok (.iadd, 1) := by decide +kernel
theorem dX12_parts_101 : decode cX12_parts 101 = .ok (.putfield 545, 3) := by decide +kernel
theorem dX12_parts_104 : decode cX12_parts 104 = .ok (.goto (-25), 3) := by decide +kernel
theorem dX12_parts_107 : decode cX12_parts 107 = .ok (.return_, 1) := by decide +kernel
theorem dX12_partsMore_0 : decode cX12_partsMore 0 = .ok (.iconst 0, 1) := by decide +kernel
theorem dX12_partsMore_1 : decode cX12_partsMore 1 = .ok (.istore 4, 2) := by decide +kernel
theorem dX12_partsMore_3 : decode cX12_partsMore 3 = .ok (.iconst 0, 1) := by decide +kernel
theorem dX12_partsMore_4 : decode cX12_partsMore 4 = .ok (.istore 5, 2) := by decide +kernel
theorem dX12_partsMore_6 : decode cX12_partsMore 6 = .ok (.iload 5, 2) := by decide +kernel
theorem dX12_partsMore_8 : decode cX12_partsMore 8 = .ok (.aload_n 0, 1) := by decide +kernel
theorem dX12_partsMore_9 : decode cX12_partsMore 9 = .ok (.getfield 133, 3) := by decide +kernel
theorem dX12_partsMore_12 : decode cX12_partsMore 12 = .ok (.iload_n 2, 1) := by decide +kernel
theorem dX12_partsMore_13 : decode cX12_partsMore 13 = .ok (.iaload, 1) := by decide +kernel
theorem dX12_partsMore_14 : decode cX12_partsMore 14 = .ok (.if_icmp .ge 91, 3) := by decide +kernel
theorem dX12_partsMore_17 : decode cX12_partsMore 17 = .ok (.iconst 0, 1) := by decide +kernel
theorem dX12_partsMore_18 : decode cX12_partsMore 18 = .ok (.istore 6, 2) := by decide +kernel
theorem dX12_partsMore_20 : decode cX12_partsMore 20 = .ok (.iload 6, 2) := by decide +kernel
theorem dX12_partsMore_22 : decode cX12_partsMore 22 = .ok (.iload 5, 2) := by decide +kernel
theorem dX12_partsMore_24 : decode cX12_partsMore 24 = .ok (.if_icmp .ge 75, 3) := by decide +kernel
theorem dX12_partsMore_27 : decode cX12_partsMore 27 = .ok (.aload_n 0, 1) := by decide +kernel
theorem dX12_partsMore_28 : decode cX12_partsMore 28 = .ok (.getfield 154, 3) := by decide +kernel
theorem dX12_partsMore_31 : decode cX12_partsMore 31 = .ok (.iload 5, 2) := by decide +kernel
theorem dX12_partsMore_33 : decode cX12_partsMore 33 = .ok (.bipush 40, 2) := by decide +kernel
theorem dX12_partsMore_35 : decode cX12_partsMore 35 = .ok (.imul, 1) := by decide +kernel
theorem dX12_partsMore_36 : decode cX12_partsMore 36 = .ok (.iload 6, 2) := by decide +kernel
theorem dX12_partsMore_38 : decode cX12_partsMore 38 = .ok (.iadd, 1) := by decide +kernel
theorem dX12_partsMore_39 : decode cX12_partsMore 39 = .ok (.iaload, 1) := by decide +kernel
theorem dX12_partsMore_40 : decode cX12_partsMore 40 = .ok (.iconst (-1), 1) := by decide +kernel
theorem dX12_partsMore_41 : decode cX12_partsMore 41 = .ok (.if_icmp .ne 52, 3) := by decide +kernel
theorem dX12_partsMore_44 : decode cX12_partsMore 44 = .ok (.aload_n 0, 1) := by decide +kernel
theorem dX12_partsMore_45 : decode cX12_partsMore 45 = .ok (.iload_n 1, 1) := by decide +kernel
theorem dX12_partsMore_46 : decode cX12_partsMore 46 = .ok (.iload_n 2, 1) := by decide +kernel
theorem dX12_partsMore_47 : decode cX12_partsMore 47 = .ok (.iload 5, 2) := by decide +kernel
theorem dX12_partsMore_49 : decode cX12_partsMore 49 = .ok (.iload 6, 2) := by decide +kernel
theorem dX12_partsMore_51 : decode cX12_partsMore 51 = .ok (.iload_n 3, 1) := by decide +kernel
theorem dX12_partsMore_52 : decode cX12_partsMore 52 = .ok (.invokevirtual 551, 3) := by decide +kernel
theorem dX12_partsMore_55 : decode cX12_partsMore 55 = .ok (.iconst (-1), 1) := by decide +kernel
theorem dX12_partsMore_56 : decode cX12_partsMore 56 = .ok (.if_icmp .ne 6, 3) := by decide +kernel
theorem dX12_partsMore_59 : decode cX12_partsMore 59 = .ok (.goto 34, 3) := by decide +kernel
theorem dX12_partsMore_62 : decode cX12_partsMore 62 = .ok (.aload_n 0, 1) := by decide +kernel
theorem dX12_partsMore_63 : decode cX12_partsMore 63 = .ok (.getfield 154, 3) := by decide +kernel
theorem dX12_partsMore_66 : decode cX12_partsMore 66 = .ok (.iload 5, 2) := by decide +kernel
theorem dX12_partsMore_68 : decode cX12_partsMore 68 = .ok (.bipush 40, 2) := by decide +kernel
theorem dX12_partsMore_70 : decode cX12_partsMore 70 = .ok (.imul, 1) := by decide +kernel
theorem dX12_partsMore_71 : decode cX12_partsMore 71 = .ok (.iload 6, 2) := by decide +kernel
theorem dX12_partsMore_73 : decode cX12_partsMore 73 = .ok (.iadd, 1) := by decide +kernel
theorem dX12_partsMore_74 : decode cX12_partsMore 74 = .ok (.iload_n 3, 1) := by decide +kernel
theorem dX12_partsMore_75 : decode cX12_partsMore 75 = .ok (.iastore, 1) := by decide +kernel
theorem dX12_partsMore_76 : decode cX12_partsMore 76 = .ok (.aload_n 0, 1) := by decide +kernel
theorem dX12_partsMore_77 : decode cX12_partsMore 77 = .ok (.getfield 154, 3) := by decide +kernel
theorem dX12_partsMore_80 : decode cX12_partsMore 80 = .ok (.iload 6, 2) := by decide +kernel
theorem dX12_partsMore_82 : decode cX12_partsMore 82 = .ok (.bipush 40, 2) := by decide +kernel
theorem dX12_partsMore_84 : decode cX12_partsMore 84 = .ok (.imul, 1) := by decide +kernel
theorem dX12_partsMore_85 : decode cX12_partsMore 85 = .ok (.iload 5, 2) := by decide +kernel
theorem dX12_partsMore_87 : decode cX12_partsMore 87 = .ok (.iadd, 1) := by decide +kernel
theorem dX12_partsMore_88 : decode cX12_partsMore 88 = .ok (.iload_n 3, 1) := by decide +kernel
theorem dX12_partsMore_89 : decode cX12_partsMore 89 = .ok (.iastore, 1) := by decide +kernel
theorem dX12_partsMore_90 : decode cX12_partsMore 90 = .ok (.iconst 1, 1) := by decide +kernel
theorem dX12_partsMore_91 : decode cX12_partsMore 91 = .ok (.istore 4, 2) := by decide +kernel
theorem dX12_partsMore_93 : decode cX12_partsMore 93 = .ok (.iinc 6 1, 3) := by decide +kernel
theorem dX12_partsMore_96 : decode cX12_partsMore 96 = .ok (.goto (-76), 3) := by decide +kernel
theorem dX12_partsMore_99 : decode cX12_partsMore 99 = .ok (.iinc 5 1, 3) := by decide +kernel
theorem dX12_partsMore_102 : decode cX12_partsMore 102 = .ok (.goto (-96), 3) := by decide +kernel
theorem dX12_partsMore_105 : decode cX12_partsMore 105 = .ok (.iload 4, 2) := by decide +kernel
theorem dX12_partsMore_107 : decode cX12_partsMore 107 = .ok (.ireturn, 1) := by decide +kernel
theorem dX12_partingBlock_0 : decode cX12_partingBlock 0 = .ok (.iconst 0, 1) := by decide +kernel
theorem dX12_partingBlock_1 : decode cX12_partingBlock 1 = .ok (.istore 6, 2) := by decide +kernel
theorem dX12_partingBlock_3 : decode cX12_partingBlock 3 = .ok (.iload 6, 2) := by decide +kernel
theorem dX12_partingBlock_5 : decode cX12_partingBlock 5 = .ok (.aload_n 0, 1) := by decide +kernel
theorem dX12_partingBlock_6 : decode cX12_partingBlock 6 = .ok (.getfield 103, 3) := by decide +kernel
theorem dX12_partingBlock_9 : decode cX12_partingBlock 9 = .ok (.iload_n 1, 1) := by decide +kernel
theorem dX12_partingBlock_10 : decode cX12_partingBlock 10 = .ok (.iaload, 1) := by decide +kernel
theorem dX12_partingBlock_11 : decode cX12_partingBlock 11 = .ok (.if_icmp .ge 45, 3) := by decide +kernel
theorem dX12_partingBlock_14 : decode cX12_partingBlock 14 = .ok (.aload_n 0, 1) := by decide +kernel
theorem dX12_partingBlock_15 : decode cX12_partingBlock 15 = .ok (.getfield 154, 3) := by decide +kernel
theorem dX12_partingBlock_18 : decode cX12_partingBlock 18 = .ok (.aload_n 0, 1) := by decide +kernel
theorem dX12_partingBlock_19 : decode cX12_partingBlock 19 = .ok (.iload_n 2, 1) := by decide +kernel
theorem dX12_partingBlock_20 : decode cX12_partingBlock 20 = .ok (.iload_n 3, 1) := by decide +kernel
theorem dX12_partingBlock_21 : decode cX12_partingBlock 21 = .ok (.iload 6, 2) := by decide +kernel
theorem dX12_partingBlock_23 : decode cX12_partingBlock 23 = .ok (.invokevirtual 555, 3) := by decide +kernel
theorem dX12_partingBlock_26 : decode cX12_partingBlock 26 = .ok (.bipush 40, 2) := by decide +kernel
theorem dX12_partingBlock_28 : decode cX12_partingBlock 28 = .ok (.imul, 1) := by decide +kernel
theorem dX12_partingBlock_29 : decode cX12_partingBlock 29 = .ok (.aload_n 0, 1) := by decide +kernel
theorem dX12_partingBlock_30 : decode cX12_partingBlock 30 = .ok (.iload_n 2, 1) := by decide +kernel
theorem dX12_partingBlock_31 : decode cX12_partingBlock 31 = .ok (.iload 4, 2) := by decide +kernel
theorem dX12_partingBlock_33 : decode cX12_partingBlock 33 = .ok (.iload 6, 2) := by decide +kernel
theorem dX12_partingBlock_35 : decode cX12_partingBlock 35 = .ok (.invokevirtual 555, 3) := by decide +kernel
theorem dX12_partingBlock_38 : decode cX12_partingBlock 38 = .ok (.iadd, 1) := by decide +kernel
theorem dX12_partingBlock_39 : decode cX12_partingBlock 39 = .ok (.iaload, 1) := by decide +kernel
theorem dX12_partingBlock_40 : decode cX12_partingBlock 40 = .ok (.iload 5, 2) := by decide +kernel
theorem dX12_partingBlock_42 : decode cX12_partingBlock 42 = .ok (.iconst 1, 1) := by decide +kernel
theorem dX12_partingBlock_43 : decode cX12_partingBlock 43 = .ok (.isub, 1) := by decide +kernel
theorem dX12_partingBlock_44 : decode cX12_partingBlock 44 = .ok (.if_icmp .ne 6, 3) := by decide +kernel
theorem dX12_partingBlock_47 : decode cX12_partingBlock 47 = .ok (.iload 6, 2) := by decide +kernel
theorem dX12_partingBlock_49 : decode cX12_partingBlock 49 = .ok (.ireturn, 1) := by decide +kernel
theorem dX12_partingBlock_50 : decode cX12_partingBlock 50 = .ok (.iinc 6 1, 3) := by decide +kernel
theorem dX12_partingBlock_53 : decode cX12_partingBlock 53 = .ok (.goto (-50), 3) := by decide +kernel
theorem dX12_partingBlock_56 : decode cX12_partingBlock 56 = .ok (.iconst (-1), 1) := by decide +kernel
theorem dX12_partingBlock_57 : decode cX12_partingBlock 57 = .ok (.ireturn, 1) := by decide +kernel
theorem dX12_sorts_0 : decode cX12_sorts 0 = .ok (.aload_n 0, 1) := by decide +kernel
theorem dX12_sorts_1 : decode cX12_sorts 1 = .ok (.iload_n 1, 1) := by decide +kernel
theorem dX12_sorts_2 : decode cX12_sorts 2 = .ok (.iload_n 2, 1) := by decide +kernel
theorem dX12_sorts_3 : decode cX12_sorts 3 = .ok (.invokevirtual 521, 3) := by decide +kernel
theorem dX12_sorts_6 : decode cX12_sorts 6 = .ok (.pop, 1) := by decide +kernel
theorem dX12_sorts_7 : decode cX12_sorts 7 = .ok (.aload_n 0, 1) := by decide +kernel
theorem dX12_sorts_8 : decode cX12_sorts 8 = .ok (.iload_n 1, 1) := by decide +kernel
theorem dX12_sorts_9 : decode cX12_sorts 9 = .ok (.iload_n 2, 1) := by decide +kernel
theorem dX12_sorts_10 : decode cX12_sorts 10 = .ok (.invokevirtual 558, 3) := by decide +kernel
theorem dX12_sorts_13 : decode cX12_sorts 13 = .ok (.iload_n 2, 1) := by decide +kernel
theorem dX12_sorts_14 : decode cX12_sorts 14 = .ok (.bipush 40, 2) := by decide +kernel
theorem dX12_sorts_16 : decode cX12_sorts 16 = .ok (.imul, 1) := by decide +kernel
theorem dX12_sorts_17 : decode cX12_sorts 17 = .ok (.istore_n 3, 1) := by decide +kernel
theorem dX12_sorts_18 : decode cX12_sorts 18 = .ok (.iconst 0, 1) := by decide +kernel
theorem dX12_sorts_19 : decode cX12_sorts 19 = .ok (.istore 4, 2) := by decide +kernel
theorem dX12_sorts_21 : decode cX12_sorts 21 = .ok (.iconst 0, 1) := by decide +kernel
theorem dX12_sorts_22 : decode cX12_sorts 22 = .ok (.istore 5, 2) := by decide +kernel
theorem dX12_sorts_24 : decode cX12_sorts 24 = .ok (.iload 5, 2) := by decide +kernel
theorem dX12_sorts_26 : decode cX12_sorts 26 = .ok (.aload_n 0, 1) := by decide +kernel
theorem dX12_sorts_27 : decode cX12_sorts 27 = .ok (.getfield 133, 3) := by decide +kernel
theorem dX12_sorts_30 : decode cX12_sorts 30 = .ok (.iload_n 2, 1) := by decide +kernel
theorem dX12_sorts_31 : decode cX12_sorts 31 = .ok (.iaload, 1) := by decide +kernel
theorem dX12_sorts_32 : decode cX12_sorts 32 = .ok (.if_icmp .ge 84, 3) := by decide +kernel
theorem dX12_sorts_35 : decode cX12_sorts 35 = .ok (.iconst 0, 1) := by decide +kernel
theorem dX12_sorts_36 : decode cX12_sorts 36 = .ok (.istore 6, 2) := by decide +kernel
theorem dX12_sorts_38 : decode cX12_sorts 38 = .ok (.iload 6, 2) := by decide +kernel
theorem dX12_sorts_40 : decode cX12_sorts 40 = .ok (.iload 4, 2) := by decide +kernel
theorem dX12_sorts_42 : decode cX12_sorts 42 = .ok (.if_icmp .ge 33, 3) := by decide +kernel
theorem dX12_sorts_45 : decode cX12_sorts 45 = .ok (.aload_n 0, 1) := by decide +kernel
theorem dX12_sorts_46 : decode cX12_sorts 46 = .ok (.getfield 154, 3) := by decide +kernel
theorem dX12_sorts_49 : decode cX12_sorts 49 = .ok (.iload 5, 2) := by decide +kernel
theorem dX12_sorts_51 : decode cX12_sorts 51 = .ok (.bipush 40, 2) := by decide +kernel
theorem dX12_sorts_53 : decode cX12_sorts 53 = .ok (.imul, 1) := by decide +kernel
theorem dX12_sorts_54 : decode cX12_sorts 54 = .ok (.aload_n 0, 1) := by decide +kernel
theorem dX12_sorts_55 : decode cX12_sorts 55 = .ok (.getfield 148, 3) := by decide +kernel
theorem dX12_sorts_58 : decode cX12_sorts 58 = .ok (.iload_n 3, 1) := by decide +kernel
theorem dX12_sorts_59 : decode cX12_sorts 59 = .ok (.iload 6, 2) := by decide +kernel
theorem dX12_sorts_61 : decode cX12_sorts 61 = .ok (.iadd, 1) := by decide +kernel
theorem dX12_sorts_62 : decode cX12_sorts 62 = .ok (.iaload, 1) := by decide +kernel
theorem dX12_sorts_63 : decode cX12_sorts 63 = .ok (.iadd, 1) := by decide +kernel
theorem dX12_sorts_64 : decode cX12_sorts 64 = .ok (.iaload, 1) := by decide +kernel
theorem dX12_sorts_65 : decode cX12_sorts 65 = .ok (.iconst (-1), 1) := by decide +kernel
theorem dX12_sorts_66 : decode cX12_sorts 66 = .ok (.if_icmp .eq 9, 3) := by decide +kernel
theorem dX12_sorts_69 : decode cX12_sorts 69 = .ok (.iinc 6 1, 3) := by decide +kernel
theorem dX12_sorts_72 : decode cX12_sorts 72 = .ok (.goto (-34), 3) := by decide +kernel
theorem dX12_sorts_75 : decode cX12_sorts 75 = .ok (.aload_n 0, 1) := by decide +kernel
theorem dX12_sorts_76 : decode cX12_sorts 76 = .ok (.getfield 145, 3) := by decide +kernel
theorem dX12_sorts_79 : decode cX12_sorts 79 = .ok (.iload_n 3, 1) := by decide +kernel
theorem dX12_sorts_80 : decode cX12_sorts 80 = .ok (.iload 5, 2) := by decide +kernel
theorem dX12_sorts_82 : decode cX12_sorts 82 = .ok (.iadd, 1) := by decide +kernel
theorem dX12_sorts_83 : decode cX12_sorts 83 = .ok (.iload 6, 2) := by decide +kernel
theorem dX12_sorts_85 : decode cX12_sorts 85 = .ok (.iastore, 1) := by decide +kernel
theorem dX12_sorts_86 : decode cX12_sorts 86 = .ok (.iload 6, 2) := by decide +kernel
theorem dX12_sorts_88 : decode cX12_sorts 88 = .ok (.iload 4, 2) := by decide +kernel
theorem dX12_sorts_90 : decode cX12_sorts 90 = .ok (.if_icmp .ge 6, 3) := by decide +kernel
theorem dX12_sorts_93 : decode cX12_sorts 93 = .ok (.goto 17, 3) := by decide +kernel
theorem dX12_sorts_96 : decode cX12_sorts 96 = .ok (.aload_n 0, 1) := by decide +kernel
theorem dX12_sorts_97 : decode cX12_sorts 97 = .ok (.getfield 148, 3) := by decide +kernel
theorem dX12_sorts_100 : decode cX12_sorts 100 = .ok (.iload_n 3, 1) := by decide +kernel
theorem dX12_sorts_101 : decode cX12_sorts 101 = .ok (.iload 4, 2) := by decide +kernel
theorem dX12_sorts_103 : decode cX12_sorts 103 = .ok (.iadd, 1) := by decide +kernel
theorem dX12_sorts_104 : decode cX12_sorts 104 = .ok (.iload 5, 2) := by decide +kernel
theorem dX12_sorts_106 : decode cX12_sorts 106 = .ok (.iastore, 1) := by decide +kernel
theorem dX12_sorts_107 : decode cX12_sorts 107 = .ok (.iinc 4 1, 3) := by decide +kernel
theorem dX12_sorts_110 : decode cX12_sorts 110 = .ok (.iinc 5 1, 3) := by decide +kernel
theorem dX12_sorts_113 : decode cX12_sorts 113 = .ok (.goto (-89), 3) := by decide +kernel
theorem dX12_sorts_116 : decode cX12_sorts 116 = .ok (.aload_n 0, 1) := by decide +kernel
theorem dX12_sorts_117 : decode cX12_sorts 117 = .ok (.getfield 151, 3) := by decide +kernel
theorem dX12_sorts_120 : decode cX12_sorts 120 = .ok (.iload_n 2, 1) := by decide +kernel
theorem dX12_sorts_121 : decode cX12_sorts 121 = .ok (.iload 4, 2) := by decide +kernel
theorem dX12_sorts_123 : decode cX12_sorts 123 = .ok (.iastore, 1) := by decide +kernel
theorem dX12_sorts_124 : decode cX12_sorts 124 = .ok (.return_, 1) := by decide +kernel
theorem dX12_classGoes_0 : decode cX12_classGoes 0 = .ok (.aload_n 0, 1) := by decide +kernel
theorem dX12_classGoes_1 : decode cX12_classGoes 1 = .ok (.getfield 145, 3) := by decide +kernel
theorem dX12_classGoes_4 : decode cX12_classGoes 4 = .ok (.iload_n 1, 1) := by decide +kernel
theorem dX12_classGoes_5 : decode cX12_classGoes 5 = .ok (.bipush 40, 2) := by decide +kernel
theorem dX12_classGoes_7 : decode cX12_classGoes 7 = .ok (.imul, 1) := by decide +kernel
theorem dX12_classGoes_8 : decode cX12_classGoes 8 = .ok (.aload_n 0, 1) := by decide +kernel
theorem dX12_classGoes_9 : decode cX12_classGoes 9 = .ok (.iload_n 1, 1) := by decide +kernel
theorem dX12_classGoes_10 : decode cX12_classGoes 10 = .ok (.aload_n 0, 1) := by decide +kernel
theorem dX12_classGoes_11 : decode cX12_classGoes 11 = .ok (.getfield 148, 3) := by decide +kernel
theorem dX12_classGoes_14 : decode cX12_classGoes 14 = .ok (.iload_n 1, 1) := by decide +kernel
theorem dX12_classGoes_15 : decode cX12_classGoes 15 = .ok (.bipush 40, 2) := by decide +kernel
theorem dX12_classGoes_17 : decode cX12_classGoes 17 = .ok (.imul, 1) := by decide +kernel
theorem dX12_classGoes_18 : decode cX12_classGoes 18 = .ok (.iload_n 2, 1) := by decide +kernel
theorem dX12_classGoes_19 : decode cX12_classGoes 19 = .ok (.iadd, 1) := by decide +kernel
theorem dX12_classGoes_20 : decode cX12_classGoes 20 = .ok (.iaload, 1) := by decide +kernel
theorem dX12_classGoes_21 : decode cX12_classGoes 21 = .ok (.iload_n 3, 1) := by decide +kernel
theorem dX12_classGoes_22 : decode cX12_classGoes 22 = .ok (.invokevirtual 555, 3) := by decide +kernel
theorem dX12_classGoes_25 : decode cX12_classGoes 25 = .ok (.iadd, 1) := by decide +kernel
theorem dX12_classGoes_26 : decode cX12_classGoes 26 = .ok (.iaload, 1) := by decide +kernel
theorem dX12_classGoes_27 : decode cX12_classGoes 27 = .ok (.ireturn, 1) := by decide +kernel
theorem dX12_classEnds_0 : decode cX12_classEnds 0 = .ok (.aload_n 0, 1) := by decide +kernel
theorem dX12_classEnds_1 : decode cX12_classEnds 1 = .ok (.iload_n 1, 1) := by decide +kernel
theorem dX12_classEnds_2 : decode cX12_classEnds 2 = .ok (.iload_n 2, 1) := by decide +kernel
theorem dX12_classEnds_3 : decode cX12_classEnds 3 = .ok (.aload_n 0, 1) := by decide +kernel
theorem dX12_classEnds_4 : decode cX12_classEnds 4 = .ok (.getfield 148, 3) := by decide +kernel
theorem dX12_classEnds_7 : decode cX12_classEnds 7 = .ok (.iload_n 2, 1) := by decide +kernel
theorem dX12_classEnds_8 : decode cX12_classEnds 8 = .ok (.bipush 40, 2) := by decide +kernel
theorem dX12_classEnds_10 : decode cX12_classEnds 10 = .ok (.imul, 1) := by decide +kernel
theorem dX12_classEnds_11 : decode cX12_classEnds 11 = .ok (.iload_n 3, 1) := by decide +kernel
theorem dX12_classEnds_12 : decode cX12_classEnds 12 = .ok (.iadd, 1) := by decide +kernel
theorem dX12_classEnds_13 : decode cX12_classEnds 13 = .ok (.iaload, 1) := by decide +kernel
theorem dX12_classEnds_14 : decode cX12_classEnds 14 = .ok (.invokevirtual 542, 3) := by decide +kernel
theorem dX12_classEnds_17 : decode cX12_classEnds 17 = .ok (.ireturn, 1) := by decide +kernel
theorem dX12_isMachine_0 : decode cX12_isMachine 0 = .ok (.iload_n 1, 1) := by decide +kernel
theorem dX12_isMachine_1 : decode cX12_isMachine 1 = .ok (.ifCond .lt 15, 3) := by decide +kernel
theorem dX12_isMachine_4 : decode cX12_isMachine 4 = .ok (.iload_n 1, 1) := by decide +kernel
theorem dX12_isMachine_5 : decode cX12_isMachine 5 = .ok (.aload_n 0, 1) := by decide +kernel
theorem dX12_isMachine_6 : decode cX12_isMachine 6 = .ok (.getfield 441, 3) := by decide +kernel
theorem dX12_isMachine_9 : decode cX12_isMachine 9 = .ok (.if_icmp .ge 7, 3) := by decide +kernel
theorem dX12_isMachine_12 : decode cX12_isMachine 12 = .ok (.iconst 1, 1) := by decide +kernel
theorem dX12_isMachine_13 : decode cX12_isMachine 13 = .ok (.goto 4, 3) := by decide +kernel
theorem dX12_isMachine_16 : decode cX12_isMachine 16 = .ok (.iconst 0, 1) := by decide +kernel
theorem dX12_isMachine_17 : decode cX12_isMachine 17 = .ok (.ireturn, 1) := by decide +kernel
theorem dX12_bitsIn_0 : decode cX12_bitsIn 0 = .ok (.iconst 0, 1) := by decide +kernel
theorem dX12_bitsIn_1 : decode cX12_bitsIn 1 = .ok (.istore_n 2, 1) := by decide +kernel
theorem dX12_bitsIn_2 : decode cX12_bitsIn 2 = .ok (.iconst 0, 1) := by decide +kernel
theorem dX12_bitsIn_3 : decode cX12_bitsIn 3 = .ok (.istore_n 3, 1) := by decide +kernel
theorem dX12_bitsIn_4 : decode cX12_bitsIn 4 = .ok (.iload_n 3, 1) := by decide +kernel
theorem dX12_bitsIn_5 : decode cX12_bitsIn 5 = .ok (.bipush 64, 2) := by decide +kernel
theorem dX12_bitsIn_7 : decode cX12_bitsIn 7 = .ok (.if_icmp .ge 25, 3) := by decide +kernel
theorem dX12_bitsIn_10 : decode cX12_bitsIn 10 = .ok (.iload_n 2, 1) := by decide +kernel
theorem dX12_bitsIn_11 : decode cX12_bitsIn 11 = .ok (.lload_n 0, 1) := by decide +kernel
theorem dX12_bitsIn_12 : decode cX12_bitsIn 12 = .ok (.iload_n 3, 1) := by decide +kernel
theorem dX12_bitsIn_13 : decode cX12_bitsIn 13 = .ok (.invokestatic 366, 3) := by decide +kernel
theorem dX12_bitsIn_16 : decode cX12_bitsIn 16 = .ok (.ifCond .eq 7, 3) := by decide +kernel
theorem dX12_bitsIn_19 : decode cX12_bitsIn 19 = .ok (.iconst 1, 1) := by decide +kernel
theorem dX12_bitsIn_20 : decode cX12_bitsIn 20 = .ok (.goto 4, 3) := by decide +kernel
theorem dX12_bitsIn_23 : decode cX12_bitsIn 23 = .ok (.iconst 0, 1) := by decide +kernel
theorem dX12_bitsIn_24 : decode cX12_bitsIn 24 = .ok (.iadd, 1) := by decide +kernel
theorem dX12_bitsIn_25 : decode cX12_bitsIn 25 = .ok (.istore_n 2, 1) := by decide +kernel
theorem dX12_bitsIn_26 : decode cX12_bitsIn 26 = .ok (.iinc 3 1, 3) := by decide +kernel
theorem dX12_bitsIn_29 : decode cX12_bitsIn 29 = .ok (.goto (-25), 3) := by decide +kernel
theorem dX12_bitsIn_32 : decode cX12_bitsIn 32 = .ok (.iload_n 2, 1) := by decide +kernel
theorem dX12_bitsIn_33 : decode cX12_bitsIn 33 = .ok (.ireturn, 1) := by decide +kernel
theorem dX12_size_0 : decode cX12_size 0 = .ok (.aload_n 0, 1) := by decide +kernel
theorem dX12_size_1 : decode cX12_size 1 = .ok (.iconst 0, 1) := by decide +kernel
theorem dX12_size_2 : decode cX12_size 2 = .ok (.putfield 190, 3) := by decide +kernel
theorem dX12_size_5 : decode cX12_size 5 = .ok (.aload_n 0, 1) := by decide +kernel
theorem dX12_size_6 : decode cX12_size 6 = .ok (.iload_n 1, 1) := by decide +kernel
theorem dX12_size_7 : decode cX12_size 7 = .ok (.invokevirtual 561, 3) := by decide +kernel
theorem dX12_size_10 : decode cX12_size 10 = .ok (.ifCond .eq 13, 3) := by decide +kernel
theorem dX12_size_13 : decode cX12_size 13 = .ok (.iload_n 2, 1) := by decide +kernel
theorem dX12_size_14 : decode cX12_size 14 = .ok (.iconst 0, 1) := by decide +kernel
theorem dX12_size_15 : decode cX12_size 15 = .ok (.bipush 6, 2) := by decide +kernel
theorem dX12_size_17 : decode cX12_size 17 = .ok (.invokestatic 201, 3) := by decide +kernel
theorem dX12_size_20 : decode cX12_size 20 = .ok (.ifCond .ne 9, 3) := by decide +kernel
theorem dX12_size_23 : decode cX12_size 23 = .ok (.aload_n 0, 1) := by decide +kernel
theorem dX12_size_24 : decode cX12_size 24 = .ok (.iconst 1, 1) := by decide +kernel
theorem dX12_size_25 : decode cX12_size 25 = .ok (.invokevirtual 426, 3) := by decide +kernel
theorem dX12_size_28 : decode cX12_size 28 = .ok (.ireturn, 1) := by decide +kernel
theorem dX12_size_29 : decode cX12_size 29 = .ok (.iload_n 2, 1) := by decide +kernel
theorem dX12_size_30 : decode cX12_size 30 = .ok (.tableswitch 96 0 5 #[38, 49, 60, 71, 96, 85], 38) := by decide +kernel
theorem dX12_size_68 : decode cX12_size 68 = .ok (.aload_n 0, 1) := by decide +kernel
theorem dX12_size_69 : decode cX12_size 69 = .ok (.aload_n 0, 1) := by decide +kernel
theorem dX12_size_70 : decode cX12_size 70 = .ok (.getfield 94, 3) := by decide +kernel
theorem dX12_size_73 : decode cX12_size 73 = .ok (.iload_n 1, 1) := by decide +kernel
theorem dX12_size_74 : decode cX12_size 74 = .ok (.iaload, 1) := by decide +kernel
theorem dX12_size_75 : decode cX12_size 75 = .ok (.invokevirtual 196, 3) := by decide +kernel
theorem dX12_size_78 : decode cX12_size 78 = .ok (.ireturn, 1) := by decide +kernel
theorem dX12_size_79 : decode cX12_size 79 = .ok (.aload_n 0, 1) := by decide +kernel
theorem dX12_size_80 : decode cX12_size 80 = .ok (.aload_n 0, 1) := by decide +kernel
theorem dX12_size_81 : decode cX12_size 81 = .ok (.getfield 97, 3) := by decide +kernel
theorem dX12_size_84 : decode cX12_size 84 = .ok (.iload_n 1, 1) := by decide +kernel
theorem dX12_size_85 : decode cX12_size 85 = .ok (.iaload, 1) := by decide +kernel
theorem dX12_size_86 : decode cX12_size 86 = .ok (.invokevirtual 196, 3) := by decide +kernel
theorem dX12_size_89 : decode cX12_size 89 = .ok (.ireturn, 1) := by decide +kernel
theorem dX12_size_90 : decode cX12_size 90 = .ok (.aload_n 0, 1) := by decide +kernel
theorem dX12_size_91 : decode cX12_size 91 = .ok (.aload_n 0, 1) := by decide +kernel
theorem dX12_size_92 : decode cX12_size 92 = .ok (.getfield 100, 3) := by decide +kernel
theorem dX12_size_95 : decode cX12_size 95 = .ok (.iload_n 1, 1) := by decide +kernel
theorem dX12_size_96 : decode cX12_size 96 = .ok (.iaload, 1) := by decide +kernel
theorem dX12_size_97 : decode cX12_size 97 = .ok (.invokevirtual 196, 3) := by decide +kernel
theorem dX12_size_100 : decode cX12_size 100 = .ok (.ireturn, 1) := by decide +kernel
theorem dX12_size_101 : decode cX12_size 101 = .ok (.aload_n 0, 1) := by decide +kernel
theorem dX12_size_102 : decode cX12_size 102 = .ok (.aload_n 0, 1) := by decide +kernel
theorem dX12_size_103 : decode cX12_size 103 = .ok (.getfield 121, 3) := by decide +kernel
theorem dX12_size_106 : decode cX12_size 106 = .ok (.iload_n 1, 1) := by decide +kernel
theorem dX12_size_107 : decode cX12_size 107 = .ok (.laload, 1) := by decide +kernel
theorem dX12_size_108 : decode cX12_size 108 = .ok (.invokestatic 564, 3) := by decide +kernel
theorem dX12_size_111 : decode cX12_size 111 = .ok (.invokevirtual 196, 3) := by decide +kernel
theorem dX12_size_114 : decode cX12_size 114 = .ok (.ireturn, 1) := by decide +kernel
theorem dX12_size_115 : decode cX12_size 115 = .ok (.aload_n 0, 1) := by decide +kernel
theorem dX12_size_116 : decode cX12_size 116 = .ok (.aload_n 0, 1) := by decide +kernel
theorem dX12_size_117 : decode cX12_size 117 = .ok (.getfield 103, 3) := by decide +kernel
theorem dX12_size_120 : decode cX12_size 120 = .ok (.iload_n 1, 1) := by decide +kernel
theorem dX12_size_121 : decode cX12_size 121 = .ok (.iaload, 1) := by decide +kernel
theorem dX12_size_122 : decode cX12_size 122 = .ok (.invokevirtual 196, 3) := by decide +kernel
theorem dX12_size_125 : decode cX12_size 125 = .ok (.ireturn, 1) := by decide +kernel
theorem dX12_size_126 : decode cX12_size 126 = .ok (.aload_n 0, 1) := by decide +kernel
theorem dX12_size_127 : decode cX12_size 127 = .ok (.iload_n 1, 1) := by decide +kernel
theorem dX12_size_128 : decode cX12_size 128 = .ok (.iconst 0, 1) := by decide +kernel
theorem dX12_size_129 : decode cX12_size 129 = .ok (.invokevirtual 568, 3) := by decide +kernel
theorem dX12_size_132 : decode cX12_size 132 = .ok (.aload_n 0, 1) := by decide +kernel
theorem dX12_size_133 : decode cX12_size 133 = .ok (.iload_n 2, 1) := by decide +kernel
theorem dX12_size_134 : decode cX12_size 134 = .ok (.iconst 4, 1) := by decide +kernel
theorem dX12_size_135 : decode cX12_size 135 = .ok (.if_icmp .ne 12, 3) := by decide +kernel
theorem dX12_size_138 : decode cX12_size 138 = .ok (.aload_n 0, 1) := by decide +kernel
theorem dX12_size_139 : decode cX12_size 139 = .ok (.getfield 133, 3) := by decide +kernel
theorem dX12_size_142 : decode cX12_size 142 = .ok (.iconst 0, 1) := by decide +kernel
theorem dX12_size_143 : decode cX12_size 143 = .ok (.iaload, 1) := by decide +kernel
theorem dX12_size_144 : decode cX12_size 144 = .ok (.goto 9, 3) := by decide +kernel
theorem dX12_size_147 : decode cX12_size 147 = .ok (.aload_n 0, 1) := by decide +kernel
theorem dX12_size_148 : decode cX12_size 148 = .ok (.getfield 151, 3) := by decide +kernel
theorem dX12_size_151 : decode cX12_size 151 = .ok (.iconst 0, 1) := by decide +kernel
theorem dX12_size_152 : decode cX12_size 152 = .ok (.iaload, 1) := by decide +kernel
theorem dX12_size_153 : decode cX12_size 153 = .ok (.invokevirtual 196, 3) := by decide +kernel
theorem dX12_size_156 : decode cX12_size 156 = .ok (.ireturn, 1) := by decide +kernel
theorem dX12_isEdge_0 : decode cX12_isEdge 0 = .ok (.aload_n 0, 1) := by decide +kernel
theorem dX12_isEdge_1 : decode cX12_isEdge 1 = .ok (.iload_n 1, 1) := by decide +kernel
theorem dX12_isEdge_2 : decode cX12_isEdge 2 = .ok (.invokevirtual 561, 3) := by decide +kernel
theorem dX12_isEdge_5 : decode cX12_isEdge 5 = .ok (.ifCond .eq 21, 3) := by decide +kernel
theorem dX12_isEdge_8 : decode cX12_isEdge 8 = .ok (.iload_n 2, 1) := by decide +kernel
theorem dX12_isEdge_9 : decode cX12_isEdge 9 = .ok (.ifCond .lt 17, 3) := by decide +kernel
theorem dX12_isEdge_12 : decode cX12_isEdge 12 = .ok (.iload_n 2, 1) := by decide +kernel
theorem dX12_isEdge_13 : decode cX12_isEdge 13 = .ok (.aload_n 0, 1) := by decide +kernel
theorem dX12_isEdge_14 : decode cX12_isEdge 14 = .ok (.getfield 97, 3) := by decide +kernel
theorem dX12_isEdge_17 : decode cX12_isEdge 17 = .ok (.iload_n 1, 1) := by decide +kernel
theorem dX12_isEdge_18 : decode cX12_isEdge 18 = .ok (.iaload, 1) := by decide +kernel
theorem dX12_isEdge_19 : decode cX12_isEdge 19 = .ok (.if_icmp .ge 7, 3) := by decide +kernel
theorem dX12_isEdge_22 : decode cX12_isEdge 22 = .ok (.iconst 1, 1) := by decide +kernel
theorem dX12_isEdge_23 : decode cX12_isEdge 23 = .ok (.goto 4, 3) := by decide +kernel
theorem dX12_isEdge_26 : decode cX12_isEdge 26 = .ok (.iconst 0, 1) := by decide +kernel
theorem dX12_isEdge_27 : decode cX12_isEdge 27 = .ok (.ireturn, 1) := by decide +kernel
theorem dX12_edgeRanges_0 : decode cX12_edgeRanges 0 = .ok (.iconst 0, 1) := by decide +kernel
theorem dX12_edgeRanges_1 : decode cX12_edgeRanges 1 = .ok (.istore_n 3, 1) := by decide +kernel
theorem dX12_edgeRanges_2 : decode cX12_edgeRanges 2 = .ok (.iconst 0, 1) := by decide +kernel
theorem dX12_edgeRanges_3 : decode cX12_edgeRanges 3 = .ok (.istore 4, 2) := by decide +kernel
theorem dX12_edgeRanges_5 : decode cX12_edgeRanges 5 = .ok (.iload 4, 2) := by decide +kernel
theorem dX12_edgeRanges_7 : decode cX12_edgeRanges 7 = .ok (.aload_n 0, 1) := by decide +kernel
theorem dX12_edgeRanges_8 : decode cX12_edgeRanges 8 = .ok (.getfield 103, 3) := by decide +kernel
theorem dX12_edgeRanges_11 : decode cX12_edgeRanges 11 = .ok (.iload_n 1, 1) := by decide +kernel
theorem dX12_edgeRanges_12 : decode cX12_edgeRanges 12 = .ok (.iaload, 1) := by decide +kernel
theorem dX12_edgeRanges_13 : decode cX12_edgeRanges 13 = .ok (.if_icmp .ge 46, 3) := by decide +kernel
theorem dX12_edgeRanges_16 : decode cX12_edgeRanges 16 = .ok (.iload_n 3, 1) := by decide +kernel
theorem dX12_edgeRanges_17 : decode cX12_edgeRanges 17 = .ok (.aload_n 0, 1) := by decide +kernel
theorem dX12_edgeRanges_18 : decode cX12_edgeRanges 18 = .ok (.iload_n 1, 1) := by decide +kernel
theorem dX12_edgeRanges_19 : decode cX12_edgeRanges 19 = .ok (.iload_n 2, 1) := by decide +kernel
theorem dX12_edgeRanges_20 : decode cX12_edgeRanges 20 = .ok (.iload 4, 2) := by decide +kernel
theorem dX12_edgeRanges_22 : decode cX12_edgeRanges 22 = .ok (.invokevirtual 527, 3) := by decide +kernel
theorem dX12_edgeRanges_25 : decode cX12_edgeRanges 25 = .ok (.ifCond .eq 25, 3) := by decide +kernel
theorem dX12_edgeRanges_28 : decode cX12_edgeRanges 28 = .ok (.iload 4, 2) := by decide +kernel
theorem dX12_edgeRanges_30 : decode cX12_edgeRanges 30 = .ok (.ifCond .eq 16, 3) := by decide +kernel
theorem dX12_edgeRanges_33 : decode cX12_edgeRanges 33 = .ok (.aload_n 0, 1) := by decide +kernel
theorem dX12_edgeRanges_34 : decode cX12_edgeRanges 34 = .ok (.iload_n 1, 1) := by decide +kernel
theorem dX12_edgeRanges_35 : decode cX12_edgeRanges 35 = .ok (.iload_n 2, 1) := by decide +kernel
theorem dX12_edgeRanges_36 : decode cX12_edgeRanges 36 = .ok (.iload 4, 2) := by decide +kernel
theorem dX12_edgeRanges_38 : decode cX12_edgeRanges 38 = .ok (.iconst 1, 1) := by decide +kernel
theorem dX12_edgeRanges_39 : decode cX12_edgeRanges 39 = .ok (.isub, 1) := by decide +kernel
theorem dX12_edgeRanges_40 : decode cX12_edgeRanges 40 = .ok (.invokevirtual 527, 3) := by decide +kernel
theorem dX12_edgeRanges_43 : decode cX12_edgeRanges 43 = .ok (.ifCond .ne 7, 3) := by decide +kernel
theorem dX12_edgeRanges_46 : decode cX12_edgeRanges 46 = .ok (.iconst 1, 1) := by decide +kernel
theorem dX12_edgeRanges_47 : decode cX12_edgeRanges 47 = .ok (.goto 4, 3) := by decide +kernel
theorem dX12_edgeRanges_50 : decode cX12_edgeRanges 50 = .ok (.iconst 0, 1) := by decide +kernel
theorem dX12_edgeRanges_51 : decode cX12_edgeRanges 51 = .ok (.iadd, 1) := by decide +kernel
theorem dX12_edgeRanges_52 : decode cX12_edgeRanges 52 = .ok (.istore_n 3, 1) := by decide +kernel
theorem dX12_edgeRanges_53 : decode cX12_edgeRanges 53 = .ok (.iinc 4 1, 3) := by decide +kernel
theorem dX12_edgeRanges_56 : decode cX12_edgeRanges 56 = .ok (.goto (-51), 3) := by decide +kernel
theorem dX12_edgeRanges_59 : decode cX12_edgeRanges 59 = .ok (.iload_n 3, 1) := by decide +kernel
theorem dX12_edgeRanges_60 : decode cX12_edgeRanges 60 = .ok (.ireturn, 1) := by decide +kernel
theorem dX12_edgeLetters_0 : decode cX12_edgeLetters 0 = .ok (.iconst 0, 1) := by decide +kernel
theorem dX12_edgeLetters_1 : decode cX12_edgeLetters 1 = .ok (.istore_n 3, 1) := by decide +kernel
theorem dX12_edgeLetters_2 : decode cX12_edgeLetters 2 = .ok (.iconst 0, 1) := by decide +kernel
theorem dX12_edgeLetters_3 : decode cX12_edgeLetters 3 = .ok (.istore 4, 2) := by decide +kernel
theorem dX12_edgeLetters_5 : decode cX12_edgeLetters 5 = .ok (.iload 4, 2) := by decide +kernel
theorem dX12_edgeLetters_7 : decode cX12_edgeLetters 7 = .ok (.aload_n 0, 1) := by decide +kernel
theorem dX12_edgeLetters_8 : decode cX12_edgeLetters 8 = .ok (.getfield 103, 3) := by decide +kernel
theorem dX12_edgeLetters_11 : decode cX12_edgeLetters 11 = .ok (.iload_n 1, 1) := by decide +kernel
theorem dX12_edgeLetters_12 : decode cX12_edgeLetters 12 = .ok (.iaload, 1) := by decide +kernel
theorem dX12_edgeLetters_13 : decode cX12_edgeLetters 13 = .ok (.if_icmp .ge 48, 3) := by decide +kernel
theorem dX12_edgeLetters_16 : decode cX12_edgeLetters 16 = .ok (.iload_n 3, 1) := by decide +kernel
theorem dX12_edgeLetters_17 : decode cX12_edgeLetters 17 = .ok (.aload_n 0, 1) := by decide +kernel
theorem dX12_edgeLetters_18 : decode cX12_edgeLetters 18 = .ok (.iload_n 1, 1) := by decide +kernel
theorem dX12_edgeLetters_19 : decode cX12_edgeLetters 19 = .ok (.iload_n 2, 1) := by decide +kernel
theorem dX12_edgeLetters_20 : decode cX12_edgeLetters 20 = .ok (.iload 4, 2) := by decide +kernel
theorem dX12_edgeLetters_22 : decode cX12_edgeLetters 22 = .ok (.invokevirtual 527, 3) := by decide +kernel
theorem dX12_edgeLetters_25 : decode cX12_edgeLetters 25 = .ok (.ifCond .eq 27, 3) := by decide +kernel
theorem dX12_edgeLetters_28 : decode cX12_edgeLetters 28 = .ok (.aload_n 0, 1) := by decide +kernel
theorem dX12_edgeLetters_29 : decode cX12_edgeLetters 29 = .ok (.iload_n 1, 1) := by decide +kernel
theorem dX12_edgeLetters_30 : decode cX12_edgeLetters 30 = .ok (.iload 4, 2) := by decide +kernel
theorem dX12_edgeLetters_32 : decode cX12_edgeLetters 32 = .ok (.invokevirtual 571, 3) := by decide +kernel
theorem dX12_edgeLetters_35 : decode cX12_edgeLetters 35 = .ok (.aload_n 0, 1) := by decide +kernel
theorem dX12_edgeLetters_36 : decode cX12_edgeLetters 36 = .ok (.getfield 106, 3) := by decide +kernel
theorem dX12_edgeLetters_39 : decode cX12_edgeLetters 39 = .ok (.iload_n 1, 1) := by decide +kernel
theorem dX12_edgeLetters_40 : decode cX12_edgeLetters 40 = .ok (.sipush 128, 3) := by decide +kernel
theorem dX12_edgeLetters_43 : decode cX12_edgeLetters 43 = .ok (.imul, 1) := by decide +kernel
theorem dX12_edgeLetters_44 : decode cX12_edgeLetters 44 = .ok (.iload 4, 2) := by decide +kernel
theorem dX12_edgeLetters_46 : decode cX12_edgeLetters 46 = .ok (.iadd, 1) := by decide +kernel
theorem dX12_edgeLetters_47 : decode cX12_edgeLetters 47 = .ok (.iaload, 1) := by decide +kernel
theorem dX12_edgeLetters_48 : decode cX12_edgeLetters 48 = .ok (.isub, 1) := by decide +kernel
theorem dX12_edgeLetters_49 : decode cX12_edgeLetters 49 = .ok (.goto 4, 3) := by decide +kernel
theorem dX12_edgeLetters_52 : decode cX12_edgeLetters 52 = .ok (.iconst 0, 1) := by decide +kernel
theorem dX12_edgeLetters_53 : decode cX12_edgeLetters 53 = .ok (.iadd, 1) := by decide +kernel
theorem dX12_edgeLetters_54 : decode cX12_edgeLetters 54 = .ok (.istore_n 3, 1) := by decide +kernel
theorem dX12_edgeLetters_55 : decode cX12_edgeLetters 55 = .ok (.iinc 4 1, 3) := by decide +kernel
theorem dX12_edgeLetters_58 : decode cX12_edgeLetters 58 = .ok (.goto (-53), 3) := by decide +kernel
theorem dX12_edgeLetters_61 : decode cX12_edgeLetters 61 = .ok (.iload_n 3, 1) := by decide +kernel
theorem dX12_edgeLetters_62 : decode cX12_edgeLetters 62 = .ok (.ireturn, 1) := by decide +kernel
theorem dX12_edge_0 : decode cX12_edge 0 = .ok (.aload_n 0, 1) := by decide +kernel
theorem dX12_edge_1 : decode cX12_edge 1 = .ok (.iconst 0, 1) := by decide +kernel
theorem dX12_edge_2 : decode cX12_edge 2 = .ok (.putfield 190, 3) := by decide +kernel
theorem dX12_edge_5 : decode cX12_edge 5 = .ok (.aload_n 0, 1) := by decide +kernel
theorem dX12_edge_6 : decode cX12_edge 6 = .ok (.iload_n 1, 1) := by decide +kernel
theorem dX12_edge_7 : decode cX12_edge 7 = .ok (.iload_n 2, 1) := by decide +kernel
theorem dX12_edge_8 : decode cX12_edge 8 = .ok (.invokevirtual 574, 3) := by decide +kernel
theorem dX12_edge_11 : decode cX12_edge 11 = .ok (.ifCond .eq 12, 3) := by decide +kernel
theorem dX12_edge_14 : decode cX12_edge 14 = .ok (.iload_n 3, 1) := by decide +kernel
theorem dX12_edge_15 : decode cX12_edge 15 = .ok (.iconst 0, 1) := by decide +kernel
theorem dX12_edge_16 : decode cX12_edge 16 = .ok (.iconst 3, 1) := by decide +kernel
theorem dX12_edge_17 : decode cX12_edge 17 = .ok (.invokestatic 201, 3) := by decide +kernel
theorem dX12_edge_20 : decode cX12_edge 20 = .ok (.ifCond .ne 9, 3) := by decide +kernel
theorem dX12_edge_23 : decode cX12_edge 23 = .ok (.aload_n 0, 1) := by decide +kernel
theorem dX12_edge_24 : decode cX12_edge 24 = .ok (.iconst 1, 1) := by decide +kernel
theorem dX12_edge_25 : decode cX12_edge 25 = .ok (.invokevirtual 426, 3) := by decide +kernel
theorem dX12_edge_28 : decode cX12_edge 28 = .ok (.ireturn, 1) := by decide +kernel
theorem dX12_edge_29 : decode cX12_edge 29 = .ok (.iload_n 3, 1) := by decide +kernel
theorem dX12_edge_30 : decode cX12_edge 30 = .ok (.tableswitch 71 0 2 #[26, 43, 60], 26) := by decide +kernel
theorem dX12_edge_56 : decode cX12_edge 56 = .ok (.aload_n 0, 1) := by decide +kernel
theorem dX12_edge_57 : decode cX12_edge 57 = .ok (.aload_n 0, 1) := by decide +kernel
theorem dX12_edge_58 : decode cX12_edge 58 = .ok (.getfield 109, 3) := by decide +kernel
theorem dX12_edge_61 : decode cX12_edge 61 = .ok (.iload_n 1, 1) := by decide +kernel
theorem dX12_edge_62 : decode cX12_edge 62 = .ok (.sipush 160, 3) := by decide +kernel
theorem dX12_edge_65 : decode cX12_edge 65 = .ok (.imul, 1) := by decide +kernel
theorem dX12_edge_66 : decode cX12_edge 66 = .ok (.iload_n 2, 1) := by decide +kernel
theorem dX12_edge_67 : decode cX12_edge 67 = .ok (.iadd, 1) := by decide +kernel
theorem dX12_edge_68 : decode cX12_edge 68 = .ok (.iaload, 1) := by decide +kernel
theorem dX12_edge_69 : decode cX12_edge 69 = .ok (.invokevirtual 196, 3) := by decide +kernel
theorem dX12_edge_72 : decode cX12_edge 72 = .ok (.ireturn, 1) := by decide +kernel
theorem dX12_edge_73 : decode cX12_edge 73 = .ok (.aload_n 0, 1) := by decide +kernel
theorem dX12_edge_74 : decode cX12_edge 74 = .ok (.aload_n 0, 1) := by decide +kernel
theorem dX12_edge_75 : decode cX12_edge 75 = .ok (.getfield 112, 3) := by decide +kernel
theorem dX12_edge_78 : decode cX12_edge 78 = .ok (.iload_n 1, 1) := by decide +kernel
theorem dX12_edge_79 : decode cX12_edge 79 = .ok (.sipush 160, 3) := by decide +kernel
theorem dX12_edge_82 : decode cX12_edge 82 = .ok (.imul, 1) := by decide +kernel
theorem dX12_edge_83 : decode cX12_edge 83 = .ok (.iload_n 2, 1) := by decide +kernel
theorem dX12_edge_84 : decode cX12_edge 84 = .ok (.iadd, 1) := by decide +kernel
theorem dX12_edge_85 : decode cX12_edge 85 = .ok (.iaload, 1) := by decide +kernel
theorem dX12_edge_86 : decode cX12_edge 86 = .ok (.invokevirtual 196, 3) := by decide +kernel
theorem dX12_edge_89 : decode cX12_edge 89 = .ok (.ireturn, 1) := by decide +kernel
theorem dX12_edge_90 : decode cX12_edge 90 = .ok (.aload_n 0, 1) := by decide +kernel
theorem dX12_edge_91 : decode cX12_edge 91 = .ok (.aload_n 0, 1) := by decide +kernel
theorem dX12_edge_92 : decode cX12_edge 92 = .ok (.iload_n 1, 1) := by decide +kernel
theorem dX12_edge_93 : decode cX12_edge 93 = .ok (.iload_n 2, 1) := by decide +kernel
theorem dX12_edge_94 : decode cX12_edge 94 = .ok (.invokevirtual 577, 3) := by decide +kernel
theorem dX12_edge_97 : decode cX12_edge 97 = .ok (.invokevirtual 196, 3) := by decide +kernel
theorem dX12_edge_100 : decode cX12_edge 100 = .ok (.ireturn, 1) := by decide +kernel
theorem dX12_edge_101 : decode cX12_edge 101 = .ok (.aload_n 0, 1) := by decide +kernel
theorem dX12_edge_102 : decode cX12_edge 102 = .ok (.aload_n 0, 1) := by decide +kernel
theorem dX12_edge_103 : decode cX12_edge 103 = .ok (.iload_n 1, 1) := by decide +kernel
theorem dX12_edge_104 : decode cX12_edge 104 = .ok (.iload_n 2, 1) := by decide +kernel
theorem dX12_edge_105 : decode cX12_edge 105 = .ok (.invokevirtual 580, 3) := by decide +kernel
theorem dX12_edge_108 : decode cX12_edge 108 = .ok (.invokevirtual 196, 3) := by decide +kernel
theorem dX12_edge_111 : decode cX12_edge 111 = .ok (.ireturn, 1) := by decide +kernel
theorem dX12_edgeRange_0 : decode cX12_edgeRange 0 = .ok (.aload_n 0, 1) := by decide +kernel
theorem dX12_edgeRange_1 : decode cX12_edgeRange 1 = .ok (.iconst 0, 1) := by decide +kernel
theorem dX12_edgeRange_2 : decode cX12_edgeRange 2 = .ok (.putfield 190, 3) := by decide +kernel
theorem dX12_edgeRange_5 : decode cX12_edgeRange 5 = .ok (.aload_n 0, 1) := by decide +kernel
theorem dX12_edgeRange_6 : decode cX12_edgeRange 6 = .ok (.iload_n 1, 1) := by decide +kernel
theorem dX12_edgeRange_7 : decode cX12_edgeRange 7 = .ok (.iload_n 2, 1) := by decide +kernel
theorem dX12_edgeRange_8 : decode cX12_edgeRange 8 = .ok (.invokevirtual 574, 3) := by decide +kernel
theorem dX12_edgeRange_11 : decode cX12_edgeRange 11 = .ok (.ifCond .eq 7, 3) := by decide +kernel
theorem dX12_edgeRange_14 : decode cX12_edgeRange 14 = .ok (.iload_n 3, 1) := by decide +kernel
theorem dX12_edgeRange_15 : decode cX12_edgeRange 15 = .ok (.ifCond .ge 9, 3) := by decide +kernel
theorem dX12_edgeRange_18 : decode cX12_edgeRange 18 = .ok (.aload_n 0, 1) := by decide +kernel
theorem dX12_edgeRange_19 : decode cX12_edgeRange 19 = .ok (.iconst 1, 1) := by decide +kernel
theorem dX12_edgeRange_20 : decode cX12_edgeRange 20 = .ok (.invokevirtual 426, 3) := by decide +kernel
theorem dX12_edgeRange_23 : decode cX12_edgeRange 23 = .ok (.ireturn, 1) := by decide +kernel
theorem dX12_edgeRange_24 : decode cX12_edgeRange 24 = .ok (.iconst (-1), 1) := by decide +kernel
theorem dX12_edgeRange_25 : decode cX12_edgeRange 25 = .ok (.istore 5, 2) := by decide +kernel
theorem dX12_edgeRange_27 : decode cX12_edgeRange 27 = .ok (.iconst 0, 1) := by decide +kernel
theorem dX12_edgeRange_28 : decode cX12_edgeRange 28 = .ok (.istore 6, 2) := by decide +kernel
theorem dX12_edgeRange_30 : decode cX12_edgeRange 30 = .ok (.iload 6, 2) := by decide +kernel
theorem dX12_edgeRange_32 : decode cX12_edgeRange 32 = .ok (.aload_n 0, 1) := by decide +kernel
theorem dX12_edgeRange_33 : decode cX12_edgeRange 33 = .ok (.getfield 103, 3) := by decide +kernel
theorem dX12_edgeRange_36 : decode cX12_edgeRange 36 = .ok (.iload_n 1, 1) := by decide +kernel
theorem dX12_edgeRange_37 : decode cX12_edgeRange 37 = .ok (.iaload, 1) := by decide +kernel
theorem dX12_edgeRange_38 : decode cX12_edgeRange 38 = .ok (.if_icmp .ge 128, 3) := by decide +kernel
theorem dX12_edgeRange_41 : decode cX12_edgeRange 41 = .ok (.aload_n 0, 1) := by decide +kernel
theorem dX12_edgeRange_42 : decode cX12_edgeRange 42 = .ok (.iload_n 1, 1) := by decide +kernel
theorem dX12_edgeRange_43 : decode cX12_edgeRange 43 = .ok (.iload_n 2, 1) := by decide +kernel
theorem dX12_edgeRange_44 : decode cX12_edgeRange 44 = .ok (.iload 6, 2) := by decide +kernel
theorem dX12_edgeRange_46 : decode cX12_edgeRange 46 = .ok (.invokevirtual 527, 3) := by decide +kernel
theorem dX12_edgeRange_49 : decode cX12_edgeRange 49 = .ok (.ifCond .ne 6, 3) := by decide +kernel
theorem dX12_edgeRange_52 : decode cX12_edgeRange 52 = .ok (.goto 108, 3) := by decide +kernel
theorem dX12_edgeRange_55 : decode cX12_edgeRange 55 = .ok (.iload 6, 2) := by decide +kernel
theorem dX12_edgeRange_57 : decode cX12_edgeRange 57 = .ok (.ifCond .eq 16, 3) := by decide +kernel
theorem dX12_edgeRange_60 : decode cX12_edgeRange 60 = .ok (.aload_n 0, 1) := by decide +kernel
theorem dX12_edgeRange_61 : decode cX12_edgeRange 61 = .ok (.iload_n 1, 1) := by decide +kernel
theorem dX12_edgeRange_62 : decode cX12_edgeRange 62 = .ok (.iload_n 2, 1) := by decide +kernel
theorem dX12_edgeRange_63 : decode cX12_edgeRange 63 = .ok (.iload 6, 2) := by decide +kernel
theorem dX12_edgeRange_65 : decode cX12_edgeRange 65 = .ok (.iconst 1, 1) := by decide +kernel
theorem dX12_edgeRange_66 : decode cX12_edgeRange 66 = .ok (.isub, 1) := by decide +kernel
theorem dX12_edgeRange_67 : decode cX12_edgeRange 67 = .ok (.invokevirtual 527, 3) := by decide +kernel
theorem dX12_edgeRange_70 : decode cX12_edgeRange 70 = .ok (.ifCond .ne 6, 3) := by decide +kernel
theorem dX12_edgeRange_73 : decode cX12_edgeRange 73 = .ok (.iinc 5 1, 3) := by decide +kernel
theorem dX12_edgeRange_76 : decode cX12_edgeRange 76 = .ok (.iload 6, 2) := by decide +kernel
theorem dX12_edgeRange_78 : decode cX12_edgeRange 78 = .ok (.iconst 1, 1) := by decide +kernel
theorem dX12_edgeRange_79 : decode cX12_edgeRange 79 = .ok (.iadd, 1) := by decide +kernel
theorem dX12_edgeRange_80 : decode cX12_edgeRange 80 = .ok (.aload_n 0, 1) := by decide +kernel
theorem dX12_edgeRange_81 : decode cX12_edgeRange 81 = .ok (.getfield 103, 3) := by decide +kernel
theorem dX12_edgeRange_84 : decode cX12_edgeRange 84 = .ok (.iload_n 1, 1) := by decide +kernel
theorem dX12_edgeRange_85 : decode cX12_edgeRange 85 = .ok (.iaload, 1) := by decide +kernel
theorem dX12_edgeRange_86 : decode cX12_edgeRange 86 = .ok (.if_icmp .eq 16, 3) := by decide +kernel
theorem dX12_edgeRange_89 : decode cX12_edgeRange 89 = .ok (.aload_n 0, 1) := by decide +kernel
theorem dX12_edgeRange_90 : decode cX12_edgeRange 90 = .ok (.iload_n 1, 1) := by decide +kernel
theorem dX12_edgeRange_91 : decode cX12_edgeRange 91 = .ok (.iload_n 2, 1) := by decide +kernel
theorem dX12_edgeRange_92 : decode cX12_edgeRange 92 = .ok (.iload 6, 2) := by decide +kernel
theorem dX12_edgeRange_94 : decode cX12_edgeRange 94 = .ok (.iconst 1, 1) := by decide +kernel
theorem dX12_edgeRange_95 : decode cX12_edgeRange 95 = .ok (.iadd, 1) := by decide +kernel
theorem dX12_edgeRange_96 : decode cX12_edgeRange 96 = .ok (.invokevirtual 527, 3) := by decide +kernel
theorem dX12_edgeRange_99 : decode cX12_edgeRange 99 = .ok (.ifCond .ne 7, 3) := by decide +kernel
theorem dX12_edgeRange_102 : decode cX12_edgeRange 102 = .ok (.iconst 1, 1) := by decide +kernel
theorem dX12_edgeRange_103 : decode cX12_edgeRange 103 = .ok (.goto 4, 3) := by decide +kernel
theorem dX12_edgeRange_106 : decode cX12_edgeRange 106 = .ok (.iconst 0, 1) := by decide +kernel
theorem dX12_edgeRange_107 : decode cX12_edgeRange 107 = .ok (.istore 7, 2) := by decide +kernel
theorem dX12_edgeRange_109 : decode cX12_edgeRange 109 = .ok (.iload 5, 2) := by decide +kernel
theorem dX12_edgeRange_111 : decode cX12_edgeRange 111 = .ok (.iload_n 3, 1) := by decide +kernel
theorem dX12_edgeRange_112 : decode cX12_edgeRange 112 = .ok (.if_icmp .ne 48, 3) := by decide +kernel
theorem dX12_edgeRange_115 : decode cX12_edgeRange 115 = .ok (.iload 4, 2) := by decide +kernel
theorem dX12_edgeRange_117 : decode cX12_edgeRange 117 = .ok (.ifCond .eq 8, 3) := by decide +kernel
theorem dX12_edgeRange_120 : decode cX12_edgeRange 120 = .ok (.iload 7, 2) := by decide +kernel
theorem dX12_edgeRange_122 : decode cX12_edgeRange 122 = .ok (.ifCond .eq 38, 3) := by decide +kernel
theorem dX12_edgeRange_125 : decode cX12_edgeRange 125 = .ok (.aload_n 0, 1) := by decide +kernel
theorem dX12_edgeRange_126 : decode cX12_edgeRange 126 = .ok (.iload 4, 2) := by decide +kernel
theorem dX12_edgeRange_128 : decode cX12_edgeRange 128 = .ok (.ifCond .eq 15, 3) := by decide +kernel
theorem dX12_edgeRange_131 : decode cX12_edgeRange 131 = .ok (.aload_n 0, 1) := by decide +kernel
theorem dX12_edgeRange_132 : decode cX12_edgeRange 132 = .ok (.iload_n 1, 1) := by decide +kernel
theorem dX12_edgeRange_133 : decode cX12_edgeRange 133 = .ok (.iload 6, 2) := by decide +kernel
theorem dX12_edgeRange_135 : decode cX12_edgeRange 135 = .ok (.invokevirtual 571, 3) := by decide +kernel
theorem dX12_edgeRange_138 : decode cX12_edgeRange 138 = .ok (.iconst 1, 1) := by decide +kernel
theorem dX12_edgeRange_139 : decode cX12_edgeRange 139 = .ok (.isub, 1) := by decide +kernel
theorem dX12_edgeRange_140 : decode cX12_edgeRange 140 = .ok (.goto 16, 3) := by decide +kernel
theorem dX12_edgeRange_143 : decode cX12_edgeRange 143 = .ok (.aload_n 0, 1) := by decide +kernel
theorem dX12_edgeRange_144 : decode cX12_edgeRange 144 = .ok (.getfield 106, 3) := by decide +kernel
theorem dX12_edgeRange_147 : decode cX12_edgeRange 147 = .ok (.iload_n 1, 1) := by decide +kernel
theorem dX12_edgeRange_148 : decode cX12_edgeRange 148 = .ok (.sipush 128, 3) := by decide +kernel
theorem dX12_edgeRange_151 : decode cX12_edgeRange 151 = .ok (.imul, 1) := by decide +kernel
theorem dX12_edgeRange_152 : decode cX12_edgeRange 152 = .ok (.iload 6, 2) := by decide +kernel
theorem dX12_edgeRange_154 : decode cX12_edgeRange 154 = .ok (.iadd, 1) := by decide +kernel
theorem dX12_edgeRange_155 : decode cX12_edgeRange 155 = .ok (.iaload, 1) := by decide +kernel
theorem dX12_edgeRange_156 : decode cX12_edgeRange 156 = .ok (.invokevirtual 196, 3) := by decide +kernel
theorem dX12_edgeRange_159 : decode cX12_edgeRange 159 = .ok (.ireturn, 1) := by decide +kernel
theorem dX12_edgeRange_160 : decode cX12_edgeRange 160 = .ok (.iinc 6 1, 3) := by decide +kernel
theorem dX12_edgeRange_163 : decode cX12_edgeRange 163 = .ok (.goto (-133), 3) := by decide +kernel
theorem dX12_edgeRange_166 : decode cX12_edgeRange 166 = .ok (.aload_n 0, 1) := by decide +kernel
theorem dX12_edgeRange_167 : decode cX12_edgeRange 167 = .ok (.iconst 1, 1) := by decide +kernel
theorem dX12_edgeRange_168 : decode cX12_edgeRange 168 = .ok (.invokevirtual 426, 3) := by decide +kernel
theorem dX12_edgeRange_171 : decode cX12_edgeRange 171 = .ok (.ireturn, 1) := by decide +kernel
theorem dX12_free_0 : decode cX12_free 0 = .ok (.aload_n 0, 1) := by decide +kernel
theorem dX12_free_1 : decode cX12_free 1 = .ok (.iconst 0, 1) := by decide +kernel
theorem dX12_free_2 : decode cX12_free 2 = .ok (.putfield 190, 3) := by decide +kernel
theorem dX12_free_5 : decode cX12_free 5 = .ok (.aload_n 0, 1) := by decide +kernel
theorem dX12_free_6 : decode cX12_free 6 = .ok (.iload_n 1, 1) := by decide +kernel
theorem dX12_free_7 : decode cX12_free 7 = .ok (.invokevirtual 561, 3) := by decide +kernel
theorem dX12_free_10 : decode cX12_free 10 = .ok (.ifCond .eq 17, 3) := by decide +kernel
theorem dX12_free_13 : decode cX12_free 13 = .ok (.iload_n 2, 1) := by decide +kernel
theorem dX12_free_14 : decode cX12_free 14 = .ok (.ifCond .lt 13, 3) := by decide +kernel
theorem dX12_free_17 : decode cX12_free 17 = .ok (.iload_n 2, 1) := by decide +kernel
theorem dX12_free_18 : decode cX12_free 18 = .ok (.aload_n 0, 1) := by decide +kernel
theorem dX12_free_19 : decode cX12_free 19 = .ok (.getfield 100, 3) := by decide +kernel
theorem dX12_free_22 : decode cX12_free 22 = .ok (.iload_n 1, 1) := by decide +kernel
theorem dX12_free_23 : decode cX12_free 23 = .ok (.iaload, 1) := by decide +kernel
theorem dX12_free_24 : decode cX12_free 24 = .ok (.if_icmp .lt 9, 3) := by decide +kernel
theorem dX12_free_27 : decode cX12_free 27 = .ok (.aload_n 0, 1) := by decide +kernel
theorem dX12_free_28 : decode cX12_free 28 = .ok (.iconst 1, 1) := by decide +kernel
theorem dX12_free_29 : decode cX12_free 29 = .ok (.invokevirtual 426, 3) := by decide +kernel
theorem dX12_free_32 : decode cX12_free 32 = .ok (.ireturn, 1) := by decide +kernel
theorem dX12_free_33 : decode cX12_free 33 = .ok (.aload_n 0, 1) := by decide +kernel
theorem dX12_free_34 : decode cX12_free 34 = .ok (.iload_n 3, 1) := by decide +kernel
theorem dX12_free_35 : decode cX12_free 35 = .ok (.ifCond .eq 17, 3) := by decide +kernel
theorem dX12_free_38 : decode cX12_free 38 = .ok (.aload_n 0, 1) := by decide +kernel
theorem dX12_free_39 : decode cX12_free 39 = .ok (.getfield 118, 3) := by decide +kernel
theorem dX12_free_42 : decode cX12_free 42 = .ok (.iload_n 1, 1) := by decide +kernel
theorem dX12_free_43 : decode cX12_free 43 = .ok (.bipush 64, 2) := by decide +kernel
theorem dX12_free_45 : decode cX12_free 45 = .ok (.imul, 1) := by decide +kernel
theorem dX12_free_46 : decode cX12_free 46 = .ok (.iload_n 2, 1) := by decide +kernel
theorem dX12_free_47 : decode cX12_free 47 = .ok (.iadd, 1) := by decide +kernel
theorem dX12_free_48 : decode cX12_free 48 = .ok (.iaload, 1) := by decide +kernel
theorem dX12_free_49 : decode cX12_free 49 = .ok (.goto 14, 3) := by decide +kernel
theorem dX12_free_52 : decode cX12_free 52 = .ok (.aload_n 0, 1) := by decide +kernel
theorem dX12_free_53 : decode cX12_free 53 = .ok (.getfield 115, 3) := by decide +kernel
theorem dX12_free_56 : decode cX12_free 56 = .ok (.iload_n 1, 1) := by decide +kernel
theorem dX12_free_57 : decode cX12_free 57 = .ok (.bipush 64, 2) := by decide +kernel
theorem dX12_free_59 : decode cX12_free 59 = .ok (.imul, 1) := by decide +kernel
theorem dX12_free_60 : decode cX12_free 60 = .ok (.iload_n 2, 1) := by decide +kernel
theorem dX12_free_61 : decode cX12_free 61 = .ok (.iadd, 1) := by decide +kernel
theorem dX12_free_62 : decode cX12_free 62 = .ok (.iaload, 1) := by decide +kernel
theorem dX12_free_63 : decode cX12_free 63 = .ok (.invokevirtual 196, 3) := by decide +kernel
theorem dX12_free_66 : decode cX12_free 66 = .ok (.ireturn, 1) := by decide +kernel
theorem dX12_ends_0 : decode cX12_ends 0 = .ok (.aload_n 0, 1) := by decide +kernel
theorem dX12_ends_1 : decode cX12_ends 1 = .ok (.iconst 0, 1) := by decide +kernel
theorem dX12_ends_2 : decode cX12_ends 2 = .ok (.putfield 190, 3) := by decide +kernel
theorem dX12_ends_5 : decode cX12_ends 5 = .ok (.aload_n 0, 1) := by decide +kernel
theorem dX12_ends_6 : decode cX12_ends 6 = .ok (.iload_n 1, 1) := by decide +kernel
theorem dX12_ends_7 : decode cX12_ends 7 = .ok (.invokevirtual 561, 3) := by decide +kernel
theorem dX12_ends_10 : decode cX12_ends 10 = .ok (.ifCond .ne 10, 3) := by decide +kernel
theorem dX12_ends_13 : decode cX12_ends 13 = .ok (.aload_n 0, 1) := by decide +kernel
theorem dX12_ends_14 : decode cX12_ends 14 = .ok (.iconst 1, 1) := by decide +kernel
theorem dX12_ends_15 : decode cX12_ends 15 = .ok (.invokevirtual 426, 3) := by decide +kernel
theorem dX12_ends_18 : decode cX12_ends 18 = .ok (.i2l, 1) := by decide +kernel
theorem dX12_ends_19 : decode cX12_ends 19 = .ok (.lreturn, 1) := by decide +kernel
theorem dX12_ends_20 : decode cX12_ends 20 = .ok (.aload_n 0, 1) := by decide +kernel
theorem dX12_ends_21 : decode cX12_ends 21 = .ok (.aload_n 0, 1) := by decide +kernel
theorem dX12_ends_22 : decode cX12_ends 22 = .ok (.getfield 121, 3) := by decide +kernel
theorem dX12_ends_25 : decode cX12_ends 25 = .ok (.iload_n 1, 1) := by decide +kernel
theorem dX12_ends_26 : decode cX12_ends 26 = .ok (.laload, 1) := by decide +kernel
theorem dX12_ends_27 : decode cX12_ends 27 = .ok (.invokevirtual 583, 3) := by decide +kernel
theorem dX12_ends_30 : decode cX12_ends 30 = .ok (.lreturn, 1) := by decide +kernel
theorem dX12_block_0 : decode cX12_block 0 = .ok (.aload_n 0, 1) := by decide +kernel
theorem dX12_block_1 : decode cX12_block 1 = .ok (.iconst 0, 1) := by decide +kernel
theorem dX12_block_2 : decode cX12_block 2 = .ok (.putfield 190, 3) := by decide +kernel
theorem dX12_block_5 : decode cX12_block 5 = .ok (.aload_n 0, 1) := by decide +kernel
theorem dX12_block_6 : decode cX12_block 6 = .ok (.iload_n 1, 1) := by decide +kernel
theorem dX12_block_7 : decode cX12_block 7 = .ok (.invokevirtual 561, 3) := by decide +kernel
theorem dX12_block_10 : decode cX12_block 10 = .ok (.ifCond .eq 17, 3) := by decide +kernel
theorem dX12_block_13 : decode cX12_block 13 = .ok (.iload_n 2, 1) := by decide +kernel
theorem dX12_block_14 : decode cX12_block 14 = .ok (.ifCond .lt 13, 3) := by decide +kernel
theorem dX12_block_17 : decode cX12_block 17 = .ok (.iload_n 2, 1) := by decide +kernel
theorem dX12_block_18 : decode cX12_block 18 = .ok (.aload_n 0, 1) := by decide +kernel
theorem dX12_block_19 : decode cX12_block 19 = .ok (.getfield 103, 3) := by decide +kernel
theorem dX12_block_22 : decode cX12_block 22 = .ok (.iload_n 1, 1) := by decide +kernel
theorem dX12_block_23 : decode cX12_block 23 = .ok (.iaload, 1) := by decide +kernel
theorem dX12_block_24 : decode cX12_block 24 = .ok (.if_icmp .lt 9, 3) := by decide +kernel
theorem dX12_block_27 : decode cX12_block 27 = .ok (.aload_n 0, 1) := by decide +kernel
theorem dX12_block_28 : decode cX12_block 28 = .ok (.iconst 1, 1) := by decide +kernel
theorem dX12_block_29 : decode cX12_block 29 = .ok (.invokevirtual 426, 3) := by decide +kernel
theorem dX12_block_32 : decode cX12_block 32 = .ok (.ireturn, 1) := by decide +kernel
theorem dX12_block_33 : decode cX12_block 33 = .ok (.aload_n 0, 1) := by decide +kernel
theorem dX12_block_34 : decode cX12_block 34 = .ok (.aload_n 0, 1) := by decide +kernel
theorem dX12_block_35 : decode cX12_block 35 = .ok (.getfield 106, 3) := by decide +kernel
theorem dX12_block_38 : decode cX12_block 38 = .ok (.iload_n 1, 1) := by decide +kernel
theorem dX12_block_39 : decode cX12_block 39 = .ok (.sipush 128, 3) := by decide +kernel
theorem dX12_block_42 : decode cX12_block 42 = .ok (.imul, 1) := by decide +kernel
theorem dX12_block_43 : decode cX12_block 43 = .ok (.iload_n 2, 1) := by decide +kernel
theorem dX12_block_44 : decode cX12_block 44 = .ok (.iadd, 1) := by decide +kernel
theorem dX12_block_45 : decode cX12_block 45 = .ok (.iaload, 1) := by decide +kernel
theorem dX12_block_46 : decode cX12_block 46 = .ok (.invokevirtual 196, 3) := by decide +kernel
theorem dX12_block_49 : decode cX12_block 49 = .ok (.ireturn, 1) := by decide +kernel
theorem dX12_sheaf_0 : decode cX12_sheaf 0 = .ok (.aload_n 0, 1) := by decide +kernel
theorem dX12_sheaf_1 : decode cX12_sheaf 1 = .ok (.iconst 0, 1) := by decide +kernel
theorem dX12_sheaf_2 : decode cX12_sheaf 2 = .ok (.putfield 190, 3) := by decide +kernel
theorem dX12_sheaf_5 : decode cX12_sheaf 5 = .ok (.aload_n 0, 1) := by decide +kernel
theorem dX12_sheaf_6 : decode cX12_sheaf 6 = .ok (.iload_n 1, 1) := by decide +kernel
theorem dX12_sheaf_7 : decode cX12_sheaf 7 = .ok (.invokevirtual 561, 3) := by decide +kernel
theorem dX12_sheaf_10 : decode cX12_sheaf 10 = .ok (.ifCond .eq 7, 3) := by decide +kernel
theorem dX12_sheaf_13 : decode cX12_sheaf 13 = .ok (.iload_n 2, 1) := by decide +kernel
theorem dX12_sheaf_14 : decode cX12_sheaf 14 = .ok (.ifCond .ge 10, 3) := by decide +kernel
theorem dX12_sheaf_17 : decode cX12_sheaf 17 = .ok (.aload_n 0, 1) := by decide +kernel
theorem dX12_sheaf_18 : decode cX12_sheaf 18 = .ok (.iconst 1, 1) := by decide +kernel
theorem dX12_sheaf_19 : decode cX12_sheaf 19 = .ok (.invokevirtual 426, 3) := by decide +kernel
theorem dX12_sheaf_22 : decode cX12_sheaf 22 = .ok (.i2l, 1) := by decide +kernel
theorem dX12_sheaf_23 : decode cX12_sheaf 23 = .ok (.lreturn, 1) := by decide +kernel
theorem dX12_sheaf_24 : decode cX12_sheaf 24 = .ok (.aload_n 0, 1) := by decide +kernel
theorem dX12_sheaf_25 : decode cX12_sheaf 25 = .ok (.iload_n 1, 1) := by decide +kernel
theorem dX12_sheaf_26 : decode cX12_sheaf 26 = .ok (.iconst 0, 1) := by decide +kernel
theorem dX12_sheaf_27 : decode cX12_sheaf 27 = .ok (.invokevirtual 521, 3) := by decide +kernel
theorem dX12_sheaf_30 : decode cX12_sheaf 30 = .ok (.pop, 1) := by decide +kernel
theorem dX12_sheaf_31 : decode cX12_sheaf 31 = .ok (.iload_n 2, 1) := by decide +kernel
theorem dX12_sheaf_32 : decode cX12_sheaf 32 = .ok (.aload_n 0, 1) := by decide +kernel
theorem dX12_sheaf_33 : decode cX12_sheaf 33 = .ok (.getfield 133, 3) := by decide +kernel
theorem dX12_sheaf_36 : decode cX12_sheaf 36 = .ok (.iconst 0, 1) := by decide +kernel
theorem dX12_sheaf_37 : decode cX12_sheaf 37 = .ok (.iaload, 1) := by decide +kernel
theorem dX12_sheaf_38 : decode cX12_sheaf 38 = .ok (.if_icmp .lt 10, 3) := by decide +kernel
theorem dX12_sheaf_41 : decode cX12_sheaf 41 = .ok (.aload_n 0, 1) := by decide +kernel
theorem dX12_sheaf_42 : decode cX12_sheaf 42 = .ok (.iconst 1, 1) := by decide +kernel
theorem dX12_sheaf_43 : decode cX12_sheaf 43 = .ok (.invokevirtual 426, 3) := by decide +kernel
theorem dX12_sheaf_46 : decode cX12_sheaf 46 = .ok (.i2l, 1) := by decide +kernel
theorem dX12_sheaf_47 : decode cX12_sheaf 47 = .ok (.lreturn, 1) := by decide +kernel
theorem dX12_sheaf_48 : decode cX12_sheaf 48 = .ok (.aload_n 0, 1) := by decide +kernel
theorem dX12_sheaf_49 : decode cX12_sheaf 49 = .ok (.aload_n 0, 1) := by decide +kernel
theorem dX12_sheaf_50 : decode cX12_sheaf 50 = .ok (.getfield 130, 3) := by decide +kernel
theorem dX12_sheaf_53 : decode cX12_sheaf 53 = .ok (.iload_n 2, 1) := by decide +kernel
theorem dX12_sheaf_54 : decode cX12_sheaf 54 = .ok (.laload, 1) := by decide +kernel
theorem dX12_sheaf_55 : decode cX12_sheaf 55 = .ok (.invokevirtual 583, 3) := by decide +kernel
theorem dX12_sheaf_58 : decode cX12_sheaf 58 = .ok (.lreturn, 1) := by decide +kernel
theorem dX12_reached_0 : decode cX12_reached 0 = .ok (.lload_n 2, 1) := by decide +kernel
theorem dX12_reached_1 : decode cX12_reached 1 = .ok (.lstore 5, 2) := by decide +kernel
theorem dX12_reached_3 : decode cX12_reached 3 = .ok (.iconst 1, 1) := by decide +kernel
theorem dX12_reached_4 : decode cX12_reached 4 = .ok (.istore 7, 2) := by decide +kernel
theorem dX12_reached_6 : decode cX12_reached 6 = .ok (.iload 7, 2) := by decide +kernel
theorem dX12_reached_8 : decode cX12_reached 8 = .ok (.ifCond .eq 153, 3) := by decide +kernel
theorem dX12_reached_11 : decode cX12_reached 11 = .ok (.lload 5, 2) := by decide +kernel
theorem dX12_reached_13 : decode cX12_reached 13 = .ok (.lstore 8, 2) := by decide +kernel
theorem dX12_reached_15 : decode cX12_reached 15 = .ok (.iload_n 1, 1) := by decide +kernel
theorem dX12_reached_16 : decode cX12_reached 16 = .ok (.sipush 160, 3) := by decide +kernel
theorem dX12_reached_19 : decode cX12_reached 19 = .ok (.imul, 1) := by decide +kernel
theorem dX12_reached_20 : decode cX12_reached 20 = .ok (.istore 10, 2) := by decide +kernel
theorem dX12_reached_22 : decode cX12_reached 22 = .ok (.iload 10, 2) := by decide +kernel
theorem dX12_reached_24 : decode cX12_reached 24 = .ok (.iload_n 1, 1) := by decide +kernel
theorem dX12_reached_25 : decode cX12_reached 25 = .ok (.sipush 160, 3) := by decide +kernel
theorem dX12_reached_28 : decode cX12_reached 28 = .ok (.imul, 1) := by decide +kernel
theorem dX12_reached_29 : decode cX12_reached 29 = .ok (.aload_n 0, 1) := by decide +kernel
theorem dX12_reached_30 : decode cX12_reached 30 = .ok (.getfield 97, 3) := by decide +kernel
theorem dX12_reached_33 : decode cX12_reached 33 = .ok (.iload_n 1, 1) := by decide +kernel
theorem dX12_reached_34 : decode cX12_reached 34 = .ok (.iaload, 1) := by decide +kernel
theorem dX12_reached_35 : decode cX12_reached 35 = .ok (.iadd, 1) := by decide +kernel
theorem dX12_reached_36 : decode cX12_reached 36 = .ok (.if_icmp .ge 56, 3) := by decide +kernel
theorem dX12_reached_39 : decode cX12_reached 39 = .ok (.aload_n 0, 1) := by decide +kernel
theorem dX12_reached_40 : decode cX12_reached 40 = .ok (.getfield 124, 3) := by decide +kernel
theorem dX12_reached_43 : decode cX12_reached 43 = .ok (.iload 10, 2) := by decide +kernel
theorem dX12_reached_45 : decode cX12_reached 45 = .ok (.laload, 1) := by decide +kernel
theorem dX12_reached_46 : decode cX12_reached 46 = .ok (.lconst 0, 1) := by decide +kernel
theorem dX12_reached_47 : decode cX12_reached 47 = .ok (.lcmp, 1) := by decide +kernel
theorem dX12_reached_48 : decode cX12_reached 48 = .ok (.ifCond .ne 15, 3) := by decide +kernel
theorem dX12_reached_51 : decode cX12_reached 51 = .ok (.aload_n 0, 1) := by decide +kernel
theorem dX12_reached_52 : decode cX12_reached 52 = .ok (.getfield 127, 3) := by decide +kernel
theorem dX12_reached_55 : decode cX12_reached 55 = .ok (.iload 10, 2) := by decide +kernel
theorem dX12_reached_57 : decode cX12_reached 57 = .ok (.laload, 1) := by decide +kernel
theorem dX12_reached_58 : decode cX12_reached 58 = .ok (.lconst 0, 1) := by decide +kernel
theorem dX12_reached_59 : decode cX12_reached 59 = .ok (.lcmp, 1) := by decide +kernel
theorem dX12_reached_60 : decode cX12_reached 60 = .ok (.ifCond .eq 26, 3) := by decide +kernel
theorem dX12_reached_63 : decode cX12_reached 63 = .ok (.lload 5, 2) := by decide +kernel
theorem dX12_reached_65 : decode cX12_reached 65 = .ok (.aload_n 0, 1) := by decide +kernel
theorem dX12_reached_66 : decode cX12_reached 66 = .ok (.getfield 109, 3) := by decide +kernel
theorem dX12_reached_69 : decode cX12_reached 69 = .ok (.iload 10, 2) := by decide +kernel
theorem dX12_reached_71 : decode cX12_reached 71 = .ok (.iaload, 1) := by decide +kernel
theorem dX12_reached_72 : decode cX12_reached 72 = .ok (.aload_n 0, 1) := by decide +kernel
theorem dX12_reached_73 : decode cX12_reached 73 = .ok (.getfield 112, 3) := by decide +kernel
theorem dX12_reached_76 : decode cX12_reached 76 = .ok (.iload 10, 2) := by decide +kernel
theorem dX12_reached_78 : decode cX12_reached 78 = .ok (.iaload, 1) := by decide +kernel
theorem dX12_reached_79 : decode cX12_reached 79 = .ok (.iload 4, 2) := by decide +kernel
theorem dX12_reached_81 : decode cX12_reached 81 = .ok (.invokestatic 587, 3) := by decide +kernel
theorem dX12_reached_84 : decode cX12_reached 84 = .ok (.lstore 5, 2) := by decide +kernel
theorem dX12_reached_86 : decode cX12_reached 86 = .ok (.iinc 10 1, 3) := by decide +kernel
theorem dX12_reached_89 : decode cX12_reached 89 = .ok (.goto (-67), 3) := by decide +kernel
theorem dX12_reached_92 : decode cX12_reached 92 = .ok (.iload_n 1, 1) := by decide +kernel
theorem dX12_reached_93 : decode cX12_reached 93 = .ok (.bipush 64, 2) := by decide +kernel
theorem dX12_reached_95 : decode cX12_reached 95 = .ok (.imul, 1) := by decide +kernel
theorem dX12_reached_96 : decode cX12_reached 96 = .ok (.istore 10, 2) := by decide +kernel
theorem dX12_reached_98 : decode cX12_reached 98 = .ok (.iload 10, 2) := by decide +kernel
theorem dX12_reached_100 : decode cX12_reached 100 = .ok (.iload_n 1, 1) := by decide +kernel
theorem dX12_reached_101 : decode cX12_reached 101 = .ok (.bipush 64, 2) := by decide +kernel
theorem dX12_reached_103 : decode cX12_reached 103 = .ok (.imul, 1) := by decide +kernel
theorem dX12_reached_104 : decode cX12_reached 104 = .ok (.aload_n 0, 1) := by decide +kernel
theorem dX12_reached_105 : decode cX12_reached 105 = .ok (.getfield 100, 3) := by decide +kernel
theorem dX12_reached_108 : decode cX12_reached 108 = .ok (.iload_n 1, 1) := by decide +kernel
theorem dX12_reached_109 : decode cX12_reached 109 = .ok (.iaload, 1) := by decide +kernel
theorem dX12_reached_110 : decode cX12_reached 110 = .ok (.iadd, 1) := by decide +kernel
theorem dX12_reached_111 : decode cX12_reached 111 = .ok (.if_icmp .ge 32, 3) := by decide +kernel
theorem dX12_reached_114 : decode cX12_reached 114 = .ok (.lload 5, 2) := by decide +kernel
theorem dX12_reached_116 : decode cX12_reached 116 = .ok (.aload_n 0, 1) := by decide +kernel
theorem dX12_reached_117 : decode cX12_reached 117 = .ok (.getfield 115, 3) := by decide +kernel
theorem dX12_reached_120 : decode cX12_reached 120 = .ok (.iload 10, 2) := by decide +kernel
theorem dX12_reached_122 : decode cX12_reached 122 = .ok (.iaload, 1) := by decide +kernel
theorem dX12_reached_123 : decode cX12_reached 123 = .ok (.aload_n 0, 1) := by decide +kernel
theorem dX12_reached_124 : decode cX12_reached 124 = .ok (.getfield 118, 3) := by decide +kernel
theorem dX12_reached_127 : decode cX12_reached 127 = .ok (.iload 10, 2) := by decide +kernel
theorem dX12_reached_129 : decode cX12_reached 129 = .ok (.iaload, 1) := by decide +kernel
theorem dX12_reached_130 : decode cX12_reached 130 = .ok (.iload 4, 2) := by decide +kernel
theorem dX12_reached_132 : decode cX12_reached 132 = .ok (.invokestatic 587, 3) := by decide +kernel
theorem dX12_reached_135 : decode cX12_reached 135 = .ok (.lstore 5, 2) := by decide +kernel
theorem dX12_reached_137 : decode cX12_reached 137 = .ok (.iinc 10 1, 3) := by decide +kernel
theorem dX12_reached_140 : decode cX12_reached 140 = .ok (.goto (-42), 3) := by decide +kernel
theorem dX12_reached_143 : decode cX12_reached 143 = .ok (.lload 8, 2) := by decide +kernel
theorem dX12_reached_145 : decode cX12_reached 145 = .ok (.lload 5, 2) := by decide +kernel
theorem dX12_reached_147 : decode cX12_reached 147 = .ok (.lcmp, 1) := by decide +kernel
theorem dX12_reached_148 : decode cX12_reached 148 = .ok (.ifCond .eq 7, 3) := by decide +kernel
theorem dX12_reached_151 : decode cX12_reached 151 = .ok (.iconst 1, 1) := by decide +kernel
theorem dX12_reached_152 : decode cX12_reached 152 = .ok (.goto 4, 3) := by decide +kernel
theorem dX12_reached_155 : decode cX12_reached 155 = .ok (.iconst 0, 1) := by decide +kernel
theorem dX12_reached_156 : decode cX12_reached 156 = .ok (.istore 7, 2) := by decide +kernel
theorem dX12_reached_158 : decode cX12_reached 158 = .ok (.goto (-152), 3) := by decide +kernel
theorem dX12_reached_161 : decode cX12_reached 161 = .ok (.lload 5, 2) := by decide +kernel
theorem dX12_reached_163 : decode cX12_reached 163 = .ok (.lreturn, 1) := by decide +kernel
theorem dX12_oneMore_0 : decode cX12_oneMore 0 = .ok (.iload 4, 2) := by decide +kernel
theorem dX12_oneMore_2 : decode cX12_oneMore 2 = .ok (.ifCond .eq 21, 3) := by decide +kernel
theorem dX12_oneMore_5 : decode cX12_oneMore 5 = .ok (.lload_n 0, 1) := by decide +kernel
theorem dX12_oneMore_6 : decode cX12_oneMore 6 = .ok (.iload_n 3, 1) := by decide +kernel
theorem dX12_oneMore_7 : decode cX12_oneMore 7 = .ok (.invokestatic 366, 3) := by decide +kernel
theorem dX12_oneMore_10 : decode cX12_oneMore 10 = .ok (.ifCond .eq 11, 3) := by decide +kernel
theorem dX12_oneMore_13 : decode cX12_oneMore 13 = .ok (.lload_n 0, 1) := by decide +kernel
theorem dX12_oneMore_14 : decode cX12_oneMore 14 = .ok (.lconst 1, 1) := by decide +kernel
theorem dX12_oneMore_15 : decode cX12_oneMore 15 = .ok (.iload_n 2, 1) := by decide +kernel
theorem dX12_oneMore_16 : decode cX12_oneMore 16 = .ok (.lshl, 1) := by decide +kernel
theorem dX12_oneMore_17 : decode cX12_oneMore 17 = .ok (.lor, 1) := by decide +kernel
theorem dX12_oneMore_18 : decode cX12_oneMore 18 = .ok (.goto 4, 3) := by decide +kernel
theorem dX12_oneMore_21 : decode cX12_oneMore 21 = .ok (.lload_n 0, 1) := by decide +kernel
theorem dX12_oneMore_22 : decode cX12_oneMore 22 = .ok (.lreturn, 1) := by decide +kernel
theorem dX12_oneMore_23 : decode cX12_oneMore 23 = .ok (.lload_n 0, 1) := by decide +kernel
theorem dX12_oneMore_24 : decode cX12_oneMore 24 = .ok (.iload_n 2, 1) := by decide +kernel
theorem dX12_oneMore_25 : decode cX12_oneMore 25 = .ok (.invokestatic 366, 3) := by decide +kernel
theorem dX12_oneMore_28 : decode cX12_oneMore 28 = .ok (.ifCond .eq 11, 3) := by decide +kernel
theorem dX12_oneMore_31 : decode cX12_oneMore 31 = .ok (.lload_n 0, 1) := by decide +kernel
theorem dX12_oneMore_32 : decode cX12_oneMore 32 = .ok (.lconst 1, 1) := by decide +kernel
theorem dX12_oneMore_33 : decode cX12_oneMore 33 = .ok (.iload_n 3, 1) := by decide +kernel
theorem dX12_oneMore_34 : decode cX12_oneMore 34 = .ok (.lshl, 1) := by decide +kernel
theorem dX12_oneMore_35 : decode cX12_oneMore 35 = .ok (.lor, 1) := by decide +kernel
theorem dX12_oneMore_36 : decode cX12_oneMore 36 = .ok (.goto 4, 3) := by decide +kernel
theorem dX12_oneMore_39 : decode cX12_oneMore 39 = .ok (.lload_n 0, 1) := by decide +kernel
theorem dX12_oneMore_40 : decode cX12_oneMore 40 = .ok (.lreturn, 1) := by decide +kernel
theorem dX12_useless_0 : decode cX12_useless 0 = .ok (.aload_n 0, 1) := by decide +kernel
theorem dX12_useless_1 : decode cX12_useless 1 = .ok (.iconst 0, 1) := by decide +kernel
theorem dX12_useless_2 : decode cX12_useless 2 = .ok (.putfield 190, 3) := by decide +kernel
theorem dX12_useless_5 : decode cX12_useless 5 = .ok (.aload_n 0, 1) := by decide +kernel
theorem dX12_useless_6 : decode cX12_useless 6 = .ok (.iload_n 1, 1) := by decide +kernel
theorem dX12_useless_7 : decode cX12_useless 7 = .ok (.invokevirtual 561, 3) := by decide +kernel
theorem dX12_useless_10 : decode cX12_useless 10 = .ok (.ifCond .ne 10, 3) := by decide +kernel
theorem dX12_useless_13 : decode cX12_useless 13 = .ok (.aload_n 0, 1) := by decide +kernel
theorem dX12_useless_14 : decode cX12_useless 14 = .ok (.iconst 1, 1) := by decide +kernel
theorem dX12_useless_15 : decode cX12_useless 15 = .ok (.invokevirtual 426, 3) := by decide +kernel
theorem dX12_useless_18 : decode cX12_useless 18 = .ok (.i2l, 1) := by decide +kernel
theorem dX12_useless_19 : decode cX12_useless 19 = .ok (.lreturn, 1) := by decide +kernel
theorem dX12_useless_20 : decode cX12_useless 20 = .ok (.lconst 1, 1) := by decide +kernel
theorem dX12_useless_21 : decode cX12_useless 21 = .ok (.aload_n 0, 1) := by decide +kernel
theorem dX12_useless_22 : decode cX12_useless 22 = .ok (.getfield 94, 3) := by decide +kernel
theorem dX12_useless_25 : decode cX12_useless 25 = .ok (.iload_n 1, 1) := by decide +kernel
theorem dX12_useless_26 : decode cX12_useless 26 = .ok (.iaload, 1) := by decide +kernel
theorem dX12_useless_27 : decode cX12_useless 27 = .ok (.lshl, 1) := by decide +kernel
theorem dX12_useless_28 : decode cX12_useless 28 = .ok (.lconst 1, 1) := by decide +kernel
theorem dX12_useless_29 : decode cX12_useless 29 = .ok (.lsub, 1) := by decide +kernel
theorem dX12_useless_30 : decode cX12_useless 30 = .ok (.lstore_n 2, 1) := by decide +kernel
theorem dX12_useless_31 : decode cX12_useless 31 = .ok (.aload_n 0, 1) := by decide +kernel
theorem dX12_useless_32 : decode cX12_useless 32 = .ok (.lload_n 2, 1) := by decide +kernel
theorem dX12_useless_33 : decode cX12_useless 33 = .ok (.aload_n 0, 1) := by decide +kernel
theorem dX12_useless_34 : decode cX12_useless 34 = .ok (.iload_n 1, 1) := by decide +kernel
theorem dX12_useless_35 : decode cX12_useless 35 = .ok (.lconst 1, 1) := by decide +kernel
theorem dX12_useless_36 : decode cX12_useless 36 = .ok (.iconst 0, 1) := by decide +kernel
theorem dX12_useless_37 : decode cX12_useless 37 = .ok (.invokevirtual 591, 3) := by decide +kernel
theorem dX12_useless_40 : decode cX12_useless 40 = .ok (.aload_n 0, 1) := by decide +kernel
theorem dX12_useless_41 : decode cX12_useless 41 = .ok (.iload_n 1, 1) := by decide +kernel
theorem dX12_useless_42 : decode cX12_useless 42 = .ok (.aload_n 0, 1) := by decide +kernel
theorem dX12_useless_43 : decode cX12_useless 43 = .ok (.getfield 121, 3) := by decide +kernel
theorem dX12_useless_46 : decode cX12_useless 46 = .ok (.iload_n 1, 1) := by decide +kernel
theorem dX12_useless_47 : decode cX12_useless 47 = .ok (.laload, 1) := by decide +kernel
theorem dX12_useless_48 : decode cX12_useless 48 = .ok (.iconst 1, 1) := by decide +kernel
theorem dX12_useless_49 : decode cX12_useless 49 = .ok (.invokevirtual 591, 3) := by decide +kernel
theorem dX12_useless_52 : decode cX12_useless 52 = .ok (.land, 1) := by decide +kernel
theorem dX12_useless_53 : decode cX12_useless 53 = .ok (.ldc2_w 304, 3) := by decide +kernel
theorem dX12_useless_56 : decode cX12_useless 56 = .ok (.lxor, 1) := by decide +kernel
theorem dX12_useless_57 : decode cX12_useless 57 = .ok (.land, 1) := by decide +kernel
theorem dX12_useless_58 : decode cX12_useless 58 = .ok (.invokevirtual 583, 3) := by decide +kernel
theorem dX12_useless_61 : decode cX12_useless 61 = .ok (.lreturn, 1) := by decide +kernel
theorem dX12_isState_0 : decode cX12_isState 0 = .ok (.aload_n 0, 1) := by decide +kernel
theorem dX12_isState_1 : decode cX12_isState 1 = .ok (.iload_n 1, 1) := by decide +kernel
theorem dX12_isState_2 : decode cX12_isState 2 = .ok (.invokevirtual 561, 3) := by decide +kernel
theorem dX12_isState_5 : decode cX12_isState 5 = .ok (.ifCond .eq 21, 3) := by decide +kernel
theorem dX12_isState_8 : decode cX12_isState 8 = .ok (.iload_n 2, 1) := by decide +kernel
theorem dX12_isState_9 : decode cX12_isState 9 = .ok (.ifCond .lt 17, 3) := by decide +kernel
theorem dX12_isState_12 : decode cX12_isState 12 = .ok (.iload_n 2, 1) := by decide +kernel
theorem dX12_isState_13 : decode cX12_isState 13 = .ok (.aload_n 0, 1) := by decide +kernel
theorem dX12_isState_14 : decode cX12_isState 14 = .ok (.getfield 94, 3) := by decide +kernel
theorem dX12_isState_17 : decode cX12_isState 17 = .ok (.iload_n 1, 1) := by decide +kernel
theorem dX12_isState_18 : decode cX12_isState 18 = .ok (.iaload, 1) := by decide +kernel
theorem dX12_isState_19 : decode cX12_isState 19 = .ok (.if_icmp .ge 7, 3) := by decide +kernel
theorem dX12_isState_22 : decode cX12_isState 22 = .ok (.iconst 1, 1) := by decide +kernel
theorem dX12_isState_23 : decode cX12_isState 23 = .ok (.goto 4, 3) := by decide +kernel
theorem dX12_isState_26 : decode cX12_isState 26 = .ok (.iconst 0, 1) := by decide +kernel
theorem dX12_isState_27 : decode cX12_isState 27 = .ok (.ireturn, 1) := by decide +kernel
theorem dX12_isLike_0 : decode cX12_isLike 0 = .ok (.iconst 0, 1) := by decide +kernel
theorem dX12_isLike_1 : decode cX12_isLike 1 = .ok (.istore 5, 2) := by decide +kernel
theorem dX12_isLike_3 : decode cX12_isLike 3 = .ok (.iload 5, 2) := by decide +kernel
theorem dX12_isLike_5 : decode cX12_isLike 5 = .ok (.aload_n 0, 1) := by decide +kernel
theorem dX12_isLike_6 : decode cX12_isLike 6 = .ok (.getfield 97, 3) := by decide +kernel
theorem dX12_isLike_9 : decode cX12_isLike 9 = .ok (.iload_n 1, 1) := by decide +kernel
theorem dX12_isLike_10 : decode cX12_isLike 10 = .ok (.iaload, 1) := by decide +kernel
theorem dX12_isLike_11 : decode cX12_isLike 11 = .ok (.if_icmp .ge 48, 3) := by decide +kernel
theorem dX12_isLike_14 : decode cX12_isLike 14 = .ok (.aload_n 0, 1) := by decide +kernel
theorem dX12_isLike_15 : decode cX12_isLike 15 = .ok (.getfield 109, 3) := by decide +kernel
theorem dX12_isLike_18 : decode cX12_isLike 18 = .ok (.iload_n 1, 1) := by decide +kernel
theorem dX12_isLike_19 : decode cX12_isLike 19 = .ok (.sipush 160, 3) := by decide +kernel
theorem dX12_isLike_22 : decode cX12_isLike 22 = .ok (.imul, 1) := by decide +kernel
theorem dX12_isLike_23 : decode cX12_isLike 23 = .ok (.iload 5, 2) := by decide +kernel
theorem dX12_isLike_25 : decode cX12_isLike 25 = .ok (.iadd, 1) := by decide +kernel
theorem dX12_isLike_26 : decode cX12_isLike 26 = .ok (.iaload, 1) := by decide +kernel
theorem dX12_isLike_27 : decode cX12_isLike 27 = .ok (.iload_n 2, 1) := by decide +kernel
theorem dX12_isLike_28 : decode cX12_isLike 28 = .ok (.if_icmp .ne 25, 3) := by decide +kernel
theorem dX12_isLike_31 : decode cX12_isLike 31 = .ok (.aload_n 0, 1) := by decide +kernel
theorem dX12_isLike_32 : decode cX12_isLike 32 = .ok (.iload_n 1, 1) := by decide +kernel
theorem dX12_isLike_33 : decode cX12_isLike 33 = .ok (.iload 5, 2) := by decide +kernel
theorem dX12_isLike_35 : decode cX12_isLike 35 = .ok (.iload_n 3, 1) := by decide +kernel
theorem dX12_isLike_36 : decode cX12_isLike 36 = .ok (.invokevirtual 527, 3) := by decide +kernel
theorem dX12_isLike_39 : decode cX12_isLike 39 = .ok (.aload_n 0, 1) := by decide +kernel
theorem dX12_isLike_40 : decode cX12_isLike 40 = .ok (.iload_n 1, 1) := by decide +kernel
theorem dX12_isLike_41 : decode cX12_isLike 41 = .ok (.iload 5, 2) := by decide +kernel
theorem dX12_isLike_43 : decode cX12_isLike 43 = .ok (.iload 4, 2) := by decide +kernel
theorem dX12_isLike_45 : decode cX12_isLike 45 = .ok (.invokevirtual 527, 3) := by decide +kernel
theorem dX12_isLike_48 : decode cX12_isLike 48 = .ok (.if_icmp .eq 5, 3) := by decide +kernel
theorem dX12_isLike_51 : decode cX12_isLike 51 = .ok (.iconst 0, 1) := by decide +kernel
theorem dX12_isLike_52 : decode cX12_isLike 52 = .ok (.ireturn, 1) := by decide +kernel
theorem dX12_isLike_53 : decode cX12_isLike 53 = .ok (.iinc 5 1, 3) := by decide +kernel
theorem dX12_isLike_56 : decode cX12_isLike 56 = .ok (.goto (-53), 3) := by decide +kernel
theorem dX12_isLike_59 : decode cX12_isLike 59 = .ok (.iconst 1, 1) := by decide +kernel
theorem dX12_isLike_60 : decode cX12_isLike 60 = .ok (.ireturn, 1) := by decide +kernel
theorem dX12_beginsTerm_0 : decode cX12_beginsTerm 0 = .ok (.iconst 0, 1) := by decide +kernel
theorem dX12_beginsTerm_1 : decode cX12_beginsTerm 1 = .ok (.istore 4, 2) := by decide +kernel
theorem dX12_beginsTerm_3 : decode cX12_beginsTerm 3 = .ok (.iload 4, 2) := by decide +kernel
theorem dX12_beginsTerm_5 : decode cX12_beginsTerm 5 = .ok (.iload_n 3, 1) := by decide +kernel
theorem dX12_beginsTerm_6 : decode cX12_beginsTerm 6 = .ok (.if_icmp .ge 23, 3) := by decide +kernel
theorem dX12_beginsTerm_9 : decode cX12_beginsTerm 9 = .ok (.aload_n 0, 1) := by decide +kernel
theorem dX12_beginsTerm_10 : decode cX12_beginsTerm 10 = .ok (.iload_n 1, 1) := by decide +kernel
theorem dX12_beginsTerm_11 : decode cX12_beginsTerm 11 = .ok (.iload_n 2, 1) := by decide +kernel
theorem dX12_beginsTerm_12 : decode cX12_beginsTerm 12 = .ok (.iload 4, 2) := by decide +kernel
theorem dX12_beginsTerm_14 : decode cX12_beginsTerm 14 = .ok (.iload_n 3, 1) := by decide +kernel
theorem dX12_beginsTerm_15 : decode cX12_beginsTerm 15 = .ok (.invokevirtual 595, 3) := by decide +kernel
theorem dX12_beginsTerm_18 : decode cX12_beginsTerm 18 = .ok (.ifCond .eq 5, 3) := by decide +kernel
theorem dX12_beginsTerm_21 : decode cX12_beginsTerm 21 = .ok (.iconst 0, 1) := by decide +kernel
theorem dX12_beginsTerm_22 : decode cX12_beginsTerm 22 = .ok (.ireturn, 1) := by decide +kernel
theorem dX12_beginsTerm_23 : decode cX12_beginsTerm 23 = .ok (.iinc 4 1, 3) := by decide +kernel
theorem dX12_beginsTerm_26 : decode cX12_beginsTerm 26 = .ok (.goto (-23), 3) := by decide +kernel
theorem dX12_beginsTerm_29 : decode cX12_beginsTerm 29 = .ok (.iconst 1, 1) := by decide +kernel
theorem dX12_beginsTerm_30 : decode cX12_beginsTerm 30 = .ok (.ireturn, 1) := by decide +kernel
theorem dX12_terms_0 : decode cX12_terms 0 = .ok (.aload_n 0, 1) := by decide +kernel
theorem dX12_terms_1 : decode cX12_terms 1 = .ok (.iconst 0, 1) := by decide +kernel
theorem dX12_terms_2 : decode cX12_terms 2 = .ok (.putfield 190, 3) := by decide +kernel
theorem dX12_terms_5 : decode cX12_terms 5 = .ok (.aload_n 0, 1) := by decide +kernel
theorem dX12_terms_6 : decode cX12_terms 6 = .ok (.iload_n 1, 1) := by decide +kernel
theorem dX12_terms_7 : decode cX12_terms 7 = .ok (.iload_n 2, 1) := by decide +kernel
theorem dX12_terms_8 : decode cX12_terms 8 = .ok (.invokevirtual 599, 3) := by decide +kernel
theorem dX12_terms_11 : decode cX12_terms 11 = .ok (.ifCond .ne 9, 3) := by decide +kernel
theorem dX12_terms_14 : decode cX12_terms 14 = .ok (.aload_n 0, 1) := by decide +kernel
theorem dX12_terms_15 : decode cX12_terms 15 = .ok (.iconst 1, 1) := by decide +kernel
theorem dX12_terms_16 : decode cX12_terms 16 = .ok (.invokevirtual 426, 3) := by decide +kernel
theorem dX12_terms_19 : decode cX12_terms 19 = .ok (.ireturn, 1) := by decide +kernel
theorem dX12_terms_20 : decode cX12_terms 20 = .ok (.iconst 0, 1) := by decide +kernel
theorem dX12_terms_21 : decode cX12_terms 21 = .ok (.istore_n 3, 1) := by decide +kernel
theorem dX12_terms_22 : decode cX12_terms 22 = .ok (.iconst 0, 1) := by decide +kernel
theorem dX12_terms_23 : decode cX12_terms 23 = .ok (.istore 4, 2) := by decide +kernel
theorem dX12_terms_25 : decode cX12_terms 25 = .ok (.iload 4, 2) := by decide +kernel
theorem dX12_terms_27 : decode cX12_terms 27 = .ok (.aload_n 0, 1) := by decide +kernel
theorem dX12_terms_28 : decode cX12_terms 28 = .ok (.getfield 103, 3) := by decide +kernel
theorem dX12_terms_31 : decode cX12_terms 31 = .ok (.iload_n 1, 1) := by decide +kernel
theorem dX12_terms_32 : decode cX12_terms 32 = .ok (.iaload, 1) := by decide +kernel
theorem dX12_terms_33 : decode cX12_terms 33 = .ok (.if_icmp .ge 28, 3) := by decide +kernel
theorem dX12_terms_36 : decode cX12_terms 36 = .ok (.iload_n 3, 1) := by decide +kernel
theorem dX12_terms_37 : decode cX12_terms 37 = .ok (.aload_n 0, 1) := by decide +kernel
theorem dX12_terms_38 : decode cX12_terms 38 = .ok (.iload_n 1, 1) := by decide +kernel
theorem dX12_terms_39 : decode cX12_terms 39 = .ok (.iload_n 2, 1) := by decide +kernel
theorem dX12_terms_40 : decode cX12_terms 40 = .ok (.iload 4, 2) := by decide +kernel
theorem dX12_terms_42 : decode cX12_terms 42 = .ok (.invokevirtual 602, 3) := by decide +kernel
theorem dX12_terms_45 : decode cX12_terms 45 = .ok (.ifCond .eq 7, 3) := by decide +kernel
theorem dX12_terms_48 : decode cX12_terms 48 = .ok (.iconst 1, 1) := by decide +kernel
theorem dX12_terms_49 : decode cX12_terms 49 = .ok (.goto 4, 3) := by decide +kernel
theorem dX12_terms_52 : decode cX12_terms 52 = .ok (.iconst 0, 1) := by decide +kernel
theorem dX12_terms_53 : decode cX12_terms 53 = .ok (.iadd, 1) := by decide +kernel
theorem dX12_terms_54 : decode cX12_terms 54 = .ok (.istore_n 3, 1) := by decide +kernel
theorem dX12_terms_55 : decode cX12_terms 55 = .ok (.iinc 4 1, 3) := by decide +kernel
theorem dX12_terms_58 : decode cX12_terms 58 = .ok (.goto (-33), 3) := by decide +kernel
theorem dX12_terms_61 : decode cX12_terms 61 = .ok (.aload_n 0, 1) := by decide +kernel
theorem dX12_terms_62 : decode cX12_terms 62 = .ok (.iload_n 3, 1) := by decide +kernel
theorem dX12_terms_63 : decode cX12_terms 63 = .ok (.invokevirtual 196, 3) := by decide +kernel
theorem dX12_terms_66 : decode cX12_terms 66 = .ok (.ireturn, 1) := by decide +kernel
theorem dX12_termAt_0 : decode cX12_termAt 0 = .ok (.iconst 0, 1) := by decide +kernel
theorem dX12_termAt_1 : decode cX12_termAt 1 = .ok (.istore 4, 2) := by decide +kernel
theorem dX12_termAt_3 : decode cX12_termAt 3 = .ok (.iconst 0, 1) := by decide +kernel
theorem dX12_termAt_4 : decode cX12_termAt 4 = .ok (.istore 5, 2) := by decide +kernel
theorem dX12_termAt_6 : decode cX12_termAt 6 = .ok (.iload 5, 2) := by decide +kernel
theorem dX12_termAt_8 : decode cX12_termAt 8 = .ok (.aload_n 0, 1) := by decide +kernel
theorem dX12_termAt_9 : decode cX12_termAt 9 = .ok (.getfield 103, 3) := by decide +kernel
theorem dX12_termAt_12 : decode cX12_termAt 12 = .ok (.iload_n 1, 1) := by decide +kernel
theorem dX12_termAt_13 : decode cX12_termAt 13 = .ok (.iaload, 1) := by decide +kernel
theorem dX12_termAt_14 : decode cX12_termAt 14 = .ok (.if_icmp .ge 35, 3) := by decide +kernel
theorem dX12_termAt_17 : decode cX12_termAt 17 = .ok (.aload_n 0, 1) := by decide +kernel
theorem dX12_termAt_18 : decode cX12_termAt 18 = .ok (.iload_n 1, 1) := by decide +kernel
theorem dX12_termAt_19 : decode cX12_termAt 19 = .ok (.iload_n 2, 1) := by decide +kernel
theorem dX12_termAt_20 : decode cX12_termAt 20 = .ok (.iload 5, 2) := by decide +kernel
theorem dX12_termAt_22 : decode cX12_termAt 22 = .ok (.invokevirtual 602, 3) := by decide +kernel
theorem dX12_termAt_25 : decode cX12_termAt 25 = .ok (.ifCond .ne 6, 3) := by decide +kernel
theorem dX12_termAt_28 : decode cX12_termAt 28 = .ok (.goto 15, 3) := by decide +kernel
theorem dX12_termAt_31 : decode cX12_termAt 31 = .ok (.iload 4, 2) := by decide +kernel
theorem dX12_termAt_33 : decode cX12_termAt 33 = .ok (.iload_n 3, 1) := by decide +kernel
theorem dX12_termAt_34 : decode cX12_termAt 34 = .ok (.if_icmp .ne 6, 3) := by decide +kernel
theorem dX12_termAt_37 : decode cX12_termAt 37 = .ok (.iload 5, 2) := by decide +kernel
theorem dX12_termAt_39 : decode cX12_termAt 39 = .ok (.ireturn, 1) := by decide +kernel
theorem dX12_termAt_40 : decode cX12_termAt 40 = .ok (.iinc 4 1, 3) := by decide +kernel
theorem dX12_termAt_43 : decode cX12_termAt 43 = .ok (.iinc 5 1, 3) := by decide +kernel
theorem dX12_termAt_46 : decode cX12_termAt 46 = .ok (.goto (-40), 3) := by decide +kernel
theorem dX12_termAt_49 : decode cX12_termAt 49 = .ok (.iconst (-1), 1) := by decide +kernel
theorem dX12_termAt_50 : decode cX12_termAt 50 = .ok (.ireturn, 1) := by decide +kernel
theorem dX12_term_0 : decode cX12_term 0 = .ok (.aload_n 0, 1) := by decide +kernel
theorem dX12_term_1 : decode cX12_term 1 = .ok (.iconst 0, 1) := by decide +kernel
theorem dX12_term_2 : decode cX12_term 2 = .ok (.putfield 190, 3) := by decide +kernel
theorem dX12_term_5 : decode cX12_term 5 = .ok (.aload_n 0, 1) := by decide +kernel
theorem dX12_term_6 : decode cX12_term 6 = .ok (.iload_n 1, 1) := by decide +kernel
theorem dX12_term_7 : decode cX12_term 7 = .ok (.iload_n 2, 1) := by decide +kernel
theorem dX12_term_8 : decode cX12_term 8 = .ok (.invokevirtual 599, 3) := by decide +kernel
theorem dX12_term_11 : decode cX12_term 11 = .ok (.ifCond .eq 13, 3) := by decide +kernel
theorem dX12_term_14 : decode cX12_term 14 = .ok (.iload 4, 2) := by decide +kernel
theorem dX12_term_16 : decode cX12_term 16 = .ok (.iconst 0, 1) := by decide +kernel
theorem dX12_term_17 : decode cX12_term 17 = .ok (.iconst 2, 1) := by decide +kernel
theorem dX12_term_18 : decode cX12_term 18 = .ok (.invokestatic 201, 3) := by decide +kernel
theorem dX12_term_21 : decode cX12_term 21 = .ok (.ifCond .ne 9, 3) := by decide +kernel
theorem dX12_term_24 : decode cX12_term 24 = .ok (.aload_n 0, 1) := by decide +kernel
theorem dX12_term_25 : decode cX12_term 25 = .ok (.iconst 1, 1) := by decide +kernel
theorem dX12_term_26 : decode cX12_term 26 = .ok (.invokevirtual 426, 3) := by decide +kernel
theorem dX12_term_29 : decode cX12_term 29 = .ok (.ireturn, 1) := by decide +kernel
theorem dX12_term_30 : decode cX12_term 30 = .ok (.aload_n 0, 1) := by decide +kernel
theorem dX12_term_31 : decode cX12_term 31 = .ok (.iload_n 1, 1) := by decide +kernel
theorem dX12_term_32 : decode cX12_term 32 = .ok (.iload_n 2, 1) := by decide +kernel
theorem dX12_term_33 : decode cX12_term 33 = .ok (.iload_n 3, 1) := by decide +kernel
theorem dX12_term_34 : decode cX12_term 34 = .ok (.invokevirtual 605, 3) := by decide +kernel
theorem dX12_term_37 : decode cX12_term 37 = .ok (.istore 5, 2) := by decide +kernel
theorem dX12_term_39 : decode cX12_term 39 = .ok (.iload 5, 2) := by decide +kernel
theorem dX12_term_41 : decode cX12_term 41 = .ok (.iconst (-1), 1) := by decide +kernel
theorem dX12_term_42 : decode cX12_term 42 = .ok (.if_icmp .ne 9, 3) := by decide +kernel
theorem dX12_term_45 : decode cX12_term 45 = .ok (.aload_n 0, 1) := by decide +kernel
theorem dX12_term_46 : decode cX12_term 46 = .ok (.iconst 1, 1) := by decide +kernel
theorem dX12_term_47 : decode cX12_term 47 = .ok (.invokevirtual 426, 3) := by decide +kernel
theorem dX12_term_50 : decode cX12_term 50 = .ok (.ireturn, 1) := by decide +kernel
theorem dX12_term_51 : decode cX12_term 51 = .ok (.iload 4, 2) := by decide +kernel
theorem dX12_term_53 : decode cX12_term 53 = .ok (.ifCond .ne 21, 3) := by decide +kernel
theorem dX12_term_56 : decode cX12_term 56 = .ok (.aload_n 0, 1) := by decide +kernel
theorem dX12_term_57 : decode cX12_term 57 = .ok (.aload_n 0, 1) := by decide +kernel
theorem dX12_term_58 : decode cX12_term 58 = .ok (.getfield 106, 3) := by decide +kernel
theorem dX12_term_61 : decode cX12_term 61 = .ok (.iload_n 1, 1) := by decide +kernel
theorem dX12_term_62 : decode cX12_term 62 = .ok (.sipush 128, 3) := by decide +kernel
theorem dX12_term_65 : decode cX12_term 65 = .ok (.imul, 1) := by decide +kernel
theorem dX12_term_66 : decode cX12_term 66 = .ok (.iload 5, 2) := by decide +kernel
theorem dX12_term_68 : decode cX12_term 68 = .ok (.iadd, 1) := by decide +kernel
theorem dX12_term_69 : decode cX12_term 69 = .ok (.iaload, 1) := by decide +kernel
theorem dX12_term_70 : decode cX12_term 70 = .ok (.invokevirtual 196, 3) := by decide +kernel
theorem dX12_term_73 : decode cX12_term 73 = .ok (.ireturn, 1) := by decide +kernel
theorem dX12_term_74 : decode cX12_term 74 = .ok (.iconst 0, 1) := by decide +kernel
theorem dX12_term_75 : decode cX12_term 75 = .ok (.istore 6, 2) := by decide +kernel
theorem dX12_term_77 : decode cX12_term 77 = .ok (.iload 4, 2) := by decide +kernel
theorem dX12_term_79 : decode cX12_term 79 = .ok (.iconst 1, 1) := by decide +kernel
theorem dX12_term_80 : decode cX12_term 80 = .ok (.if_icmp .ne 70, 3) := by decide +kernel
theorem dX12_term_83 : decode cX12_term 83 = .ok (.iload 5, 2) := by decide +kernel
theorem dX12_term_85 : decode cX12_term 85 = .ok (.istore 7, 2) := by decide +kernel
theorem dX12_term_87 : decode cX12_term 87 = .ok (.iload 7, 2) := by decide +kernel
theorem dX12_term_89 : decode cX12_term 89 = .ok (.aload_n 0, 1) := by decide +kernel
theorem dX12_term_90 : decode cX12_term 90 = .ok (.getfield 103, 3) := by decide +kernel
theorem dX12_term_93 : decode cX12_term 93 = .ok (.iload_n 1, 1) := by decide +kernel
theorem dX12_term_94 : decode cX12_term 94 = .ok (.iaload, 1) := by decide +kernel
theorem dX12_term_95 : decode cX12_term 95 = .ok (.if_icmp .ge 52, 3) := by decide +kernel
theorem dX12_term_98 : decode cX12_term 98 = .ok (.iload 6, 2) := by decide +kernel
theorem dX12_term_100 : decode cX12_term 100 = .ok (.aload_n 0, 1) := by decide +kernel
theorem dX12_term_101 : decode cX12_term 101 = .ok (.iload_n 1, 1) := by decide +kernel
theorem dX12_term_102 : decode cX12_term 102 = .ok (.iload_n 2, 1) := by decide +kernel
theorem dX12_term_103 : decode cX12_term 103 = .ok (.iload 5, 2) := by decide +kernel
theorem dX12_term_105 : decode cX12_term 105 = .ok (.iload 7, 2) := by decide +kernel
theorem dX12_term_107 : decode cX12_term 107 = .ok (.invokevirtual 595, 3) := by decide +kernel
theorem dX12_term_110 : decode cX12_term 110 = .ok (.ifCond .eq 27, 3) := by decide +kernel
theorem dX12_term_113 : decode cX12_term 113 = .ok (.aload_n 0, 1) := by decide +kernel
theorem dX12_term_114 : decode cX12_term 114 = .ok (.iload_n 1, 1) := by decide +kernel
theorem dX12_term_115 : decode cX12_term 115 = .ok (.iload 7, 2) := by decide +kernel
theorem dX12_term_117 : decode cX12_term 117 = .ok (.invokevirtual 571, 3) := by decide +kernel
theorem dX12_term_120 : decode cX12_term 120 = .ok (.aload_n 0, 1) := by decide +kernel
theorem dX12_term_121 : decode cX12_term 121 = .ok (.getfield 106, 3) := by decide +kernel
theorem dX12_term_124 : decode cX12_term 124 = .ok (.iload_n 1, 1) := by decide +kernel
theorem dX12_term_125 : decode cX12_term 125 = .ok (.sipush 128, 3) := by decide +kernel
theorem dX12_term_128 : decode cX12_term 128 = .ok (.imul, 1) := by decide +kernel
theorem dX12_term_129 : decode cX12_term 129 = .ok (.iload 7, 2) := by decide +kernel
theorem dX12_term_131 : decode cX12_term 131 = .ok (.iadd, 1) := by decide +kernel
theorem dX12_term_132 : decode cX12_term 132 = .ok (.iaload, 1) := by decide +kernel
theorem dX12_term_133 : decode cX12_term 133 = .ok (.isub, 1) := by decide +kernel
theorem dX12_term_134 : decode cX12_term 134 = .ok (.goto 4, 3) := by decide +kernel
theorem dX12_term_137 : decode cX12_term 137 = .ok (.iconst 0, 1) := by decide +kernel
theorem dX12_term_138 : decode cX12_term 138 = .ok (.iadd, 1) := by decide +kernel
theorem dX12_term_139 : decode cX12_term 139 = .ok (.istore 6, 2) := by decide +kernel
theorem dX12_term_141 : decode cX12_term 141 = .ok (.iinc 7 1, 3) := by decide +kernel
theorem dX12_term_144 : decode cX12_term 144 = .ok (.goto (-57), 3) := by decide +kernel
theorem dX12_term_147 : decode cX12_term 147 = .ok (.goto 62, 3) := by decide +kernel
theorem dX12_term_150 : decode cX12_term 150 = .ok (.iconst 0, 1) := by decide +kernel
theorem dX12_term_151 : decode cX12_term 151 = .ok (.istore 7, 2) := by decide +kernel
theorem dX12_term_153 : decode cX12_term 153 = .ok (.iload 7, 2) := by decide +kernel
theorem dX12_term_155 : decode cX12_term 155 = .ok (.aload_n 0, 1) := by decide +kernel
theorem dX12_term_156 : decode cX12_term 156 = .ok (.getfield 97, 3) := by decide +kernel
theorem dX12_term_159 : decode cX12_term 159 = .ok (.iload_n 1, 1) := by decide +kernel
theorem dX12_term_160 : decode cX12_term 160 = .ok (.iaload, 1) := by decide +kernel
theorem dX12_term_161 : decode cX12_term 161 = .ok (.if_icmp .ge 48, 3) := by decide +kernel
theorem dX12_term_164 : decode cX12_term 164 = .ok (.iload 6, 2) := by decide +kernel
theorem dX12_term_166 : decode cX12_term 166 = .ok (.aload_n 0, 1) := by decide +kernel
theorem dX12_term_167 : decode cX12_term 167 = .ok (.getfield 109, 3) := by decide +kernel
theorem dX12_term_170 : decode cX12_term 170 = .ok (.iload_n 1, 1) := by decide +kernel
theorem dX12_term_171 : decode cX12_term 171 = .ok (.sipush 160, 3) := by decide +kernel
theorem dX12_term_174 : decode cX12_term 174 = .ok (.imul, 1) := by decide +kernel
theorem dX12_term_175 : decode cX12_term 175 = .ok (.iload 7, 2) := by decide +kernel
theorem dX12_term_177 : decode cX12_term 177 = .ok (.iadd, 1) := by decide +kernel
theorem dX12_term_178 : decode cX12_term 178 = .ok (.iaload, 1) := by decide +kernel
theorem dX12_term_179 : decode cX12_term 179 = .ok (.iload_n 2, 1) := by decide +kernel
theorem dX12_term_180 : decode cX12_term 180 = .ok (.if_icmp .ne 19, 3) := by decide +kernel
theorem dX12_term_183 : decode cX12_term 183 = .ok (.aload_n 0, 1) := by decide +kernel
theorem dX12_term_184 : decode cX12_term 184 = .ok (.iload_n 1, 1) := by decide +kernel
theorem dX12_term_185 : decode cX12_term 185 = .ok (.iload 7, 2) := by decide +kernel
theorem dX12_term_187 : decode cX12_term 187 = .ok (.iload 5, 2) := by decide +kernel
theorem dX12_term_189 : decode cX12_term 189 = .ok (.invokevirtual 527, 3) := by decide +kernel
theorem dX12_term_192 : decode cX12_term 192 = .ok (.ifCond .eq 7, 3) := by decide +kernel
theorem dX12_term_195 : decode cX12_term 195 = .ok (.iconst 1, 1) := by decide +kernel
theorem dX12_term_196 : decode cX12_term 196 = .ok (.goto 4, 3) := by decide +kernel
theorem dX12_term_199 : decode cX12_term 199 = .ok (.iconst 0, 1) := by decide +kernel
theorem dX12_term_200 : decode cX12_term 200 = .ok (.iadd, 1) := by decide +kernel
theorem dX12_term_201 : decode cX12_term 201 = .ok (.istore 6, 2) := by decide +kernel
theorem dX12_term_203 : decode cX12_term 203 = .ok (.iinc 7 1, 3) := by decide +kernel
theorem dX12_term_206 : decode cX12_term 206 = .ok (.goto (-53), 3) := by decide +kernel
theorem dX12_term_209 : decode cX12_term 209 = .ok (.aload_n 0, 1) := by decide +kernel
theorem dX12_term_210 : decode cX12_term 210 = .ok (.iload 6, 2) := by decide +kernel
theorem dX12_term_212 : decode cX12_term 212 = .ok (.invokevirtual 196, 3) := by decide +kernel
theorem dX12_term_215 : decode cX12_term 215 = .ok (.ireturn, 1) := by decide +kernel
theorem dX12_isClass_0 : decode cX12_isClass 0 = .ok (.aload_n 0, 1) := by decide +kernel
theorem dX12_isClass_1 : decode cX12_isClass 1 = .ok (.iload_n 1, 1) := by decide +kernel
theorem dX12_isClass_2 : decode cX12_isClass 2 = .ok (.invokevirtual 561, 3) := by decide +kernel
theorem dX12_isClass_5 : decode cX12_isClass 5 = .ok (.ifCond .eq 7, 3) := by decide +kernel
theorem dX12_isClass_8 : decode cX12_isClass 8 = .ok (.iload_n 2, 1) := by decide +kernel
theorem dX12_isClass_9 : decode cX12_isClass 9 = .ok (.ifCond .ge 5, 3) := by decide +kernel
theorem dX12_isClass_12 : decode cX12_isClass 12 = .ok (.iconst 0, 1) := by decide +kernel
theorem dX12_isClass_13 : decode cX12_isClass 13 = .ok (.ireturn, 1) := by decide +kernel
theorem dX12_isClass_14 : decode cX12_isClass 14 = .ok (.aload_n 0, 1) := by decide +kernel
theorem dX12_isClass_15 : decode cX12_isClass 15 = .ok (.iload_n 1, 1) := by decide +kernel
theorem dX12_isClass_16 : decode cX12_isClass 16 = .ok (.iconst 0, 1) := by decide +kernel
theorem dX12_isClass_17 : decode cX12_isClass 17 = .ok (.invokevirtual 568, 3) := by decide +kernel
theorem dX12_isClass_20 : decode cX12_isClass 20 = .ok (.iload_n 2, 1) := by decide +kernel
theorem dX12_isClass_21 : decode cX12_isClass 21 = .ok (.aload_n 0, 1) := by decide +kernel
theorem dX12_isClass_22 : decode cX12_isClass 22 = .ok (.getfield 151, 3) := by decide +kernel
theorem dX12_isClass_25 : decode cX12_isClass 25 = .ok (.iconst 0, 1) := by decide +kernel
theorem dX12_isClass_26 : decode cX12_isClass 26 = .ok (.iaload, 1) := by decide +kernel
theorem dX12_isClass_27 : decode cX12_isClass 27 = .ok (.if_icmp .ge 7, 3) := by decide +kernel
theorem dX12_isClass_30 : decode cX12_isClass 30 = .ok (.iconst 1, 1) := by decide +kernel
theorem dX12_isClass_31 : decode cX12_isClass 31 = .ok (.goto 4, 3) := by decide +kernel
theorem dX12_isClass_34 : decode cX12_isClass 34 = .ok (.iconst 0, 1) := by decide +kernel
theorem dX12_isClass_35 : decode cX12_isClass 35 = .ok (.ireturn, 1) := by decide +kernel
theorem dX12_go_0 : decode cX12_go 0 = .ok (.aload_n 0, 1) := by decide +kernel
theorem dX12_go_1 : decode cX12_go 1 = .ok (.iconst 0, 1) := by decide +kernel
theorem dX12_go_2 : decode cX12_go 2 = .ok (.putfield 190, 3) := by decide +kernel
theorem dX12_go_5 : decode cX12_go 5 = .ok (.aload_n 0, 1) := by decide +kernel
theorem dX12_go_6 : decode cX12_go 6 = .ok (.iload_n 1, 1) := by decide +kernel
theorem dX12_go_7 : decode cX12_go 7 = .ok (.iload_n 2, 1) := by decide +kernel
theorem dX12_go_8 : decode cX12_go 8 = .ok (.invokevirtual 608, 3) := by decide +kernel
theorem dX12_go_11 : decode cX12_go 11 = .ok (.ifCond .ne 9, 3) := by decide +kernel
theorem dX12_go_14 : decode cX12_go 14 = .ok (.aload_n 0, 1) := by decide +kernel
theorem dX12_go_15 : decode cX12_go 15 = .ok (.iconst 1, 1) := by decide +kernel
theorem dX12_go_16 : decode cX12_go 16 = .ok (.invokevirtual 426, 3) := by decide +kernel
theorem dX12_go_19 : decode cX12_go 19 = .ok (.ireturn, 1) := by decide +kernel
theorem dX12_go_20 : decode cX12_go 20 = .ok (.iload_n 3, 1) := by decide +kernel
theorem dX12_go_21 : decode cX12_go 21 = .ok (.invokestatic 450, 3) := by decide +kernel
theorem dX12_go_24 : decode cX12_go 24 = .ok (.ifCond .ne 9, 3) := by decide +kernel
theorem dX12_go_27 : decode cX12_go 27 = .ok (.aload_n 0, 1) := by decide +kernel
theorem dX12_go_28 : decode cX12_go 28 = .ok (.iconst 2, 1) := by decide +kernel
theorem dX12_go_29 : decode cX12_go 29 = .ok (.invokevirtual 426, 3) := by decide +kernel
theorem dX12_go_32 : decode cX12_go 32 = .ok (.ireturn, 1) := by decide +kernel
theorem dX12_go_33 : decode cX12_go 33 = .ok (.aload_n 0, 1) := by decide +kernel
theorem dX12_go_34 : decode cX12_go 34 = .ok (.aload_n 0, 1) := by decide +kernel
theorem dX12_go_35 : decode cX12_go 35 = .ok (.iconst 0, 1) := by decide +kernel
theorem dX12_go_36 : decode cX12_go 36 = .ok (.iload_n 2, 1) := by decide +kernel
theorem dX12_go_37 : decode cX12_go 37 = .ok (.aload_n 0, 1) := by decide +kernel
theorem dX12_go_38 : decode cX12_go 38 = .ok (.iload_n 1, 1) := by decide +kernel
theorem dX12_go_39 : decode cX12_go 39 = .ok (.iload_n 3, 1) := by decide +kernel
theorem dX12_go_40 : decode cX12_go 40 = .ok (.invokevirtual 524, 3) := by decide +kernel
theorem dX12_go_43 : decode cX12_go 43 = .ok (.invokevirtual 611, 3) := by decide +kernel
theorem dX12_go_46 : decode cX12_go 46 = .ok (.invokevirtual 196, 3) := by decide +kernel
theorem dX12_go_49 : decode cX12_go 49 = .ok (.ireturn, 1) := by decide +kernel
theorem dX12_takes_0 : decode cX12_takes 0 = .ok (.aload_n 0, 1) := by decide +kernel
theorem dX12_takes_1 : decode cX12_takes 1 = .ok (.iconst 0, 1) := by decide +kernel
theorem dX12_takes_2 : decode cX12_takes 2 = .ok (.putfield 190, 3) := by decide +kernel
theorem dX12_takes_5 : decode cX12_takes 5 = .ok (.aload_n 0, 1) := by decide +kernel
theorem dX12_takes_6 : decode cX12_takes 6 = .ok (.iload_n 1, 1) := by decide +kernel
theorem dX12_takes_7 : decode cX12_takes 7 = .ok (.iload_n 2, 1) := by decide +kernel
theorem dX12_takes_8 : decode cX12_takes 8 = .ok (.invokevirtual 608, 3) := by decide +kernel
theorem dX12_takes_11 : decode cX12_takes 11 = .ok (.ifCond .ne 9, 3) := by decide +kernel
theorem dX12_takes_14 : decode cX12_takes 14 = .ok (.aload_n 0, 1) := by decide +kernel
theorem dX12_takes_15 : decode cX12_takes 15 = .ok (.iconst 1, 1) := by decide +kernel
theorem dX12_takes_16 : decode cX12_takes 16 = .ok (.invokevirtual 426, 3) := by decide +kernel
theorem dX12_takes_19 : decode cX12_takes 19 = .ok (.ireturn, 1) := by decide +kernel
theorem dX12_takes_20 : decode cX12_takes 20 = .ok (.aload_n 0, 1) := by decide +kernel
theorem dX12_takes_21 : decode cX12_takes 21 = .ok (.aload_n 0, 1) := by decide +kernel
theorem dX12_takes_22 : decode cX12_takes 22 = .ok (.iload_n 1, 1) := by decide +kernel
theorem dX12_takes_23 : decode cX12_takes 23 = .ok (.iconst 0, 1) := by decide +kernel
theorem dX12_takes_24 : decode cX12_takes 24 = .ok (.iload_n 2, 1) := by decide +kernel
theorem dX12_takes_25 : decode cX12_takes 25 = .ok (.invokevirtual 614, 3) := by decide +kernel
theorem dX12_takes_28 : decode cX12_takes 28 = .ok (.ifCond .eq 7, 3) := by decide +kernel
theorem dX12_takes_31 : decode cX12_takes 31 = .ok (.iconst 1, 1) := by decide +kernel
theorem dX12_takes_32 : decode cX12_takes 32 = .ok (.goto 4, 3) := by decide +kernel
theorem dX12_takes_35 : decode cX12_takes 35 = .ok (.iconst 0, 1) := by decide +kernel
theorem dX12_takes_36 : decode cX12_takes 36 = .ok (.invokevirtual 196, 3) := by decide +kernel
theorem dX12_takes_39 : decode cX12_takes 39 = .ok (.ireturn, 1) := by decide +kernel
theorem dX12_isDead_0 : decode cX12_isDead 0 = .ok (.iconst 0, 1) := by decide +kernel
theorem dX12_isDead_1 : decode cX12_isDead 1 = .ok (.istore_n 3, 1) := by decide +kernel
theorem dX12_isDead_2 : decode cX12_isDead 2 = .ok (.iload_n 3, 1) := by decide +kernel
theorem dX12_isDead_3 : decode cX12_isDead 3 = .ok (.aload_n 0, 1) := by decide +kernel
theorem dX12_isDead_4 : decode cX12_isDead 4 = .ok (.getfield 103, 3) := by decide +kernel
theorem dX12_isDead_7 : decode cX12_isDead 7 = .ok (.iload_n 1, 1) := by decide +kernel
theorem dX12_isDead_8 : decode cX12_isDead 8 = .ok (.iaload, 1) := by decide +kernel
theorem dX12_isDead_9 : decode cX12_isDead 9 = .ok (.if_icmp .ge 22, 3) := by decide +kernel
theorem dX12_isDead_12 : decode cX12_isDead 12 = .ok (.aload_n 0, 1) := by decide +kernel
theorem dX12_isDead_13 : decode cX12_isDead 13 = .ok (.iconst 0, 1) := by decide +kernel
theorem dX12_isDead_14 : decode cX12_isDead 14 = .ok (.iload_n 2, 1) := by decide +kernel
theorem dX12_isDead_15 : decode cX12_isDead 15 = .ok (.iload_n 3, 1) := by decide +kernel
theorem dX12_isDead_16 : decode cX12_isDead 16 = .ok (.invokevirtual 611, 3) := by decide +kernel
theorem dX12_isDead_19 : decode cX12_isDead 19 = .ok (.iload_n 2, 1) := by decide +kernel
theorem dX12_isDead_20 : decode cX12_isDead 20 = .ok (.if_icmp .eq 5, 3) := by decide +kernel
theorem dX12_isDead_23 : decode cX12_isDead 23 = .ok (.iconst 0, 1) := by decide +kernel
theorem dX12_isDead_24 : decode cX12_isDead 24 = .ok (.ireturn, 1) := by decide +kernel
theorem dX12_isDead_25 : decode cX12_isDead 25 = .ok (.iinc 3 1, 3) := by decide +kernel
theorem dX12_isDead_28 : decode cX12_isDead 28 = .ok (.goto (-26), 3) := by decide +kernel
theorem dX12_isDead_31 : decode cX12_isDead 31 = .ok (.aload_n 0, 1) := by decide +kernel
theorem dX12_isDead_32 : decode cX12_isDead 32 = .ok (.iload_n 1, 1) := by decide +kernel
theorem dX12_isDead_33 : decode cX12_isDead 33 = .ok (.iconst 0, 1) := by decide +kernel
theorem dX12_isDead_34 : decode cX12_isDead 34 = .ok (.iload_n 2, 1) := by decide +kernel
theorem dX12_isDead_35 : decode cX12_isDead 35 = .ok (.invokevirtual 614, 3) := by decide +kernel
theorem dX12_isDead_38 : decode cX12_isDead 38 = .ok (.ifCond .ne 7, 3) := by decide +kernel
theorem dX12_isDead_41 : decode cX12_isDead 41 = .ok (.iconst 1, 1) := by decide +kernel
theorem dX12_isDead_42 : decode cX12_isDead 42 = .ok (.goto 4, 3) := by decide +kernel
theorem dX12_isDead_45 : decode cX12_isDead 45 = .ok (.iconst 0, 1) := by decide +kernel
theorem dX12_isDead_46 : decode cX12_isDead 46 = .ok (.ireturn, 1) := by decide +kernel
theorem dX12_dead_0 : decode cX12_dead 0 = .ok (.aload_n 0, 1) := by decide +kernel
theorem dX12_dead_1 : decode cX12_dead 1 = .ok (.iconst 0, 1) := by decide +kernel
theorem dX12_dead_2 : decode cX12_dead 2 = .ok (.putfield 190, 3) := by decide +kernel
theorem dX12_dead_5 : decode cX12_dead 5 = .ok (.aload_n 0, 1) := by decide +kernel
theorem dX12_dead_6 : decode cX12_dead 6 = .ok (.iload_n 1, 1) := by decide +kernel
theorem dX12_dead_7 : decode cX12_dead 7 = .ok (.invokevirtual 561, 3) := by decide +kernel
theorem dX12_dead_10 : decode cX12_dead 10 = .ok (.ifCond .ne 9, 3) := by decide +kernel
theorem dX12_dead_13 : decode cX12_dead 13 = .ok (.aload_n 0, 1) := by decide +kernel
theorem dX12_dead_14 : decode cX12_dead 14 = .ok (.iconst 1, 1) := by decide +kernel
theorem dX12_dead_15 : decode cX12_dead 15 = .ok (.invokevirtual 426, 3) := by decide +kernel
theorem dX12_dead_18 : decode cX12_dead 18 = .ok (.ireturn, 1) := by decide +kernel
theorem dX12_dead_19 : decode cX12_dead 19 = .ok (.aload_n 0, 1) := by decide +kernel
theorem dX12_dead_20 : decode cX12_dead 20 = .ok (.iload_n 1, 1) := by decide +kernel
theorem dX12_dead_21 : decode cX12_dead 21 = .ok (.iconst 0, 1) := by decide +kernel
theorem dX12_dead_22 : decode cX12_dead 22 = .ok (.invokevirtual 568, 3) := by decide +kernel
theorem dX12_dead_25 : decode cX12_dead 25 = .ok (.iconst 0, 1) := by decide +kernel
theorem dX12_dead_26 : decode cX12_dead 26 = .ok (.istore_n 2, 1) := by decide +kernel
theorem dX12_dead_27 : decode cX12_dead 27 = .ok (.iload_n 2, 1) := by decide +kernel
theorem dX12_dead_28 : decode cX12_dead 28 = .ok (.aload_n 0, 1) := by decide +kernel
theorem dX12_dead_29 : decode cX12_dead 29 = .ok (.getfield 151, 3) := by decide +kernel
theorem dX12_dead_32 : decode cX12_dead 32 = .ok (.iconst 0, 1) := by decide +kernel
theorem dX12_dead_33 : decode cX12_dead 33 = .ok (.iaload, 1) := by decide +kernel
theorem dX12_dead_34 : decode cX12_dead 34 = .ok (.if_icmp .ge 24, 3) := by decide +kernel
theorem dX12_dead_37 : decode cX12_dead 37 = .ok (.aload_n 0, 1) := by decide +kernel
theorem dX12_dead_38 : decode cX12_dead 38 = .ok (.iload_n 1, 1) := by decide +kernel
theorem dX12_dead_39 : decode cX12_dead 39 = .ok (.iload_n 2, 1) := by decide +kernel
theorem dX12_dead_40 : decode cX12_dead 40 = .ok (.invokevirtual 617, 3) := by decide +kernel
theorem dX12_dead_43 : decode cX12_dead 43 = .ok (.ifCond .eq 9, 3) := by decide +kernel
theorem dX12_dead_46 : decode cX12_dead 46 = .ok (.aload_n 0, 1) := by decide +kernel
theorem dX12_dead_47 : decode cX12_dead 47 = .ok (.iload_n 2, 1) := by decide +kernel
theorem dX12_dead_48 : decode cX12_dead 48 = .ok (.invokevirtual 196, 3) := by decide +kernel
theorem dX12_dead_51 : decode cX12_dead 51 = .ok (.ireturn, 1) := by decide +kernel
theorem dX12_dead_52 : decode cX12_dead 52 = .ok (.iinc 2 1, 3) := by decide +kernel
theorem dX12_dead_55 : decode cX12_dead 55 = .ok (.goto (-28), 3) := by decide +kernel
theorem dX12_dead_58 : decode cX12_dead 58 = .ok (.aload_n 0, 1) := by decide +kernel
theorem dX12_dead_59 : decode cX12_dead 59 = .ok (.bipush (-2), 2) := by decide +kernel
theorem dX12_dead_61 : decode cX12_dead 61 = .ok (.invokevirtual 196, 3) := by decide +kernel
theorem dX12_dead_64 : decode cX12_dead 64 = .ok (.ireturn, 1) := by decide +kernel
theorem dX12_wordOf_0 : decode cX12_wordOf 0 = .ok (.iconst 0, 1) := by decide +kernel
theorem dX12_wordOf_1 : decode cX12_wordOf 1 = .ok (.istore_n 2, 1) := by decide +kernel
theorem dX12_wordOf_2 : decode cX12_wordOf 2 = .ok (.iload_n 1, 1) := by decide +kernel
theorem dX12_wordOf_3 : decode cX12_wordOf 3 = .ok (.istore_n 3, 1) := by decide +kernel
theorem dX12_wordOf_4 : decode cX12_wordOf 4 = .ok (.aload_n 0, 1) := by decide +kernel
theorem dX12_wordOf_5 : decode cX12_wordOf 5 = .ok (.getfield 139, 3) := by decide +kernel
theorem dX12_wordOf_8 : decode cX12_wordOf 8 = .ok (.iload_n 3, 1) := by decide +kernel
theorem dX12_wordOf_9 : decode cX12_wordOf 9 = .ok (.iaload, 1) := by decide +kernel
theorem dX12_wordOf_10 : decode cX12_wordOf 10 = .ok (.iconst (-1), 1) := by decide +kernel
theorem dX12_wordOf_11 : decode cX12_wordOf 11 = .ok (.if_icmp .eq 16, 3) := by decide +kernel
theorem dX12_wordOf_14 : decode cX12_wordOf 14 = .ok (.iinc 2 1, 3) := by decide +kernel
theorem dX12_wordOf_17 : decode cX12_wordOf 17 = .ok (.aload_n 0, 1) := by decide +kernel
theorem dX12_wordOf_18 : decode cX12_wordOf 18 = .ok (.getfield 139, 3) := by decide +kernel
theorem dX12_wordOf_21 : decode cX12_wordOf 21 = .ok (.iload_n 3, 1) := by decide +kernel
theorem dX12_wordOf_22 : decode cX12_wordOf 22 = .ok (.iaload, 1) := by decide +kernel
theorem dX12_wordOf_23 : decode cX12_wordOf 23 = .ok (.istore_n 3, 1) := by decide +kernel
theorem dX12_wordOf_24 : decode cX12_wordOf 24 = .ok (.goto (-20), 3) := by decide +kernel
theorem dX12_wordOf_27 : decode cX12_wordOf 27 = .ok (.iload_n 2, 1) := by decide +kernel
theorem dX12_wordOf_28 : decode cX12_wordOf 28 = .ok (.ireturn, 1) := by decide +kernel
theorem dX12_first_0 : decode cX12_first 0 = .ok (.aload_n 0, 1) := by decide +kernel
theorem dX12_first_1 : decode cX12_first 1 = .ok (.iconst 0, 1) := by decide +kernel
theorem dX12_first_2 : decode cX12_first 2 = .ok (.putfield 190, 3) := by decide +kernel
theorem dX12_first_5 : decode cX12_first 5 = .ok (.aload_n 0, 1) := by decide +kernel
theorem dX12_first_6 : decode cX12_first 6 = .ok (.iload_n 1, 1) := by decide +kernel
theorem dX12_first_7 : decode cX12_first 7 = .ok (.iload_n 2, 1) := by decide +kernel
theorem dX12_first_8 : decode cX12_first 8 = .ok (.invokevirtual 608, 3) := by decide +kernel
theorem dX12_first_11 : decode cX12_first 11 = .ok (.ifCond .ne 9, 3) := by decide +kernel
theorem dX12_first_14 : decode cX12_first 14 = .ok (.aload_n 0, 1) := by decide +kernel
theorem dX12_first_15 : decode cX12_first 15 = .ok (.iconst 1, 1) := by decide +kernel
theorem dX12_first_16 : decode cX12_first 16 = .ok (.invokevirtual 426, 3) := by decide +kernel
theorem dX12_first_19 : decode cX12_first 19 = .ok (.ireturn, 1) := by decide +kernel
theorem dX12_first_20 : decode cX12_first 20 = .ok (.aload_n 0, 1) := by decide +kernel
theorem dX12_first_21 : decode cX12_first 21 = .ok (.aload_n 0, 1) := by decide +kernel
theorem dX12_first_22 : decode cX12_first 22 = .ok (.aload_n 0, 1) := by decide +kernel
theorem dX12_first_23 : decode cX12_first 23 = .ok (.getfield 148, 3) := by decide +kernel
theorem dX12_first_26 : decode cX12_first 26 = .ok (.iload_n 2, 1) := by decide +kernel
theorem dX12_first_27 : decode cX12_first 27 = .ok (.iaload, 1) := by decide +kernel
theorem dX12_first_28 : decode cX12_first 28 = .ok (.invokevirtual 620, 3) := by decide +kernel
theorem dX12_first_31 : decode cX12_first 31 = .ok (.invokevirtual 196, 3) := by decide +kernel
theorem dX12_first_34 : decode cX12_first 34 = .ok (.ireturn, 1) := by decide +kernel
theorem dX12_firstLetter_0 : decode cX12_firstLetter 0 = .ok (.aload_n 0, 1) := by decide +kernel
theorem dX12_firstLetter_1 : decode cX12_firstLetter 1 = .ok (.iconst 0, 1) := by decide +kernel
theorem dX12_firstLetter_2 : decode cX12_firstLetter 2 = .ok (.putfield 190, 3) := by decide +kernel
theorem dX12_firstLetter_5 : decode cX12_firstLetter 5 = .ok (.aload_n 0, 1) := by decide +kernel
theorem dX12_firstLetter_6 : decode cX12_firstLetter 6 = .ok (.iload_n 1, 1) := by decide +kernel
theorem dX12_firstLetter_7 : decode cX12_firstLetter 7 = .ok (.iload_n 2, 1) := by decide +kernel
theorem dX12_firstLetter_8 : decode cX12_firstLetter 8 = .ok (.invokevirtual 608, 3) := by decide +kernel
theorem dX12_firstLetter_11 : decode cX12_firstLetter 11 = .ok (.ifCond .eq 7, 3) := by decide +kernel
theorem dX12_firstLetter_14 : decode cX12_firstLetter 14 = .ok (.iload_n 3, 1) := by decide +kernel
theorem dX12_firstLetter_15 : decode cX12_firstLetter 15 = .ok (.ifCond .ge 9, 3) := by decide +kernel
theorem dX12_firstLetter_18 : decode cX12_firstLetter 18 = .ok (.aload_n 0, 1) := by decide +kernel
theorem dX12_firstLetter_19 : decode cX12_firstLetter 19 = .ok (.iconst 1, 1) := by decide +kernel
theorem dX12_firstLetter_20 : decode cX12_firstLetter 20 = .ok (.invokevirtual 426, 3) := by decide +kernel
theorem dX12_firstLetter_23 : decode cX12_firstLetter 23 = .ok (.ireturn, 1) := by decide +kernel
theorem dX12_firstLetter_24 : decode cX12_firstLetter 24 = .ok (.aload_n 0, 1) := by decide +kernel
theorem dX12_firstLetter_25 : decode cX12_firstLetter 25 = .ok (.getfield 148, 3) := by decide +kernel
theorem dX12_firstLetter_28 : decode cX12_firstLetter 28 = .ok (.iload_n 2, 1) := by decide +kernel
theorem dX12_firstLetter_29 : decode cX12_firstLetter 29 = .ok (.iaload, 1) := by decide +kernel
theorem dX12_firstLetter_30 : decode cX12_firstLetter 30 = .ok (.istore 4, 2) := by decide +kernel
theorem dX12_firstLetter_32 : decode cX12_firstLetter 32 = .ok (.aload_n 0, 1) := by decide +kernel
theorem dX12_firstLetter_33 : decode cX12_firstLetter 33 = .ok (.iload 4, 2) := by decide +kernel
theorem dX12_firstLetter_35 : decode cX12_firstLetter 35 = .ok (.invokevirtual 620, 3) := by decide +kernel
theorem dX12_firstLetter_38 : decode cX12_firstLetter 38 = .ok (.istore 5, 2) := by decide +kernel
theorem dX12_firstLetter_40 : decode cX12_firstLetter 40 = .ok (.iload_n 3, 1) := by decide +kernel
theorem dX12_firstLetter_41 : decode cX12_firstLetter 41 = .ok (.iload 5, 2) := by decide +kernel
theorem dX12_firstLetter_43 : decode cX12_firstLetter 43 = .ok (.if_icmp .lt 9, 3) := by decide +kernel
theorem dX12_firstLetter_46 : decode cX12_firstLetter 46 = .ok (.aload_n 0, 1) := by decide +kernel
theorem dX12_firstLetter_47 : decode cX12_firstLetter 47 = .ok (.iconst 1, 1) := by decide +kernel
theorem dX12_firstLetter_48 : decode cX12_firstLetter 48 = .ok (.invokevirtual 426, 3) := by decide +kernel
theorem dX12_firstLetter_51 : decode cX12_firstLetter 51 = .ok (.ireturn, 1) := by decide +kernel
theorem dX12_firstLetter_52 : decode cX12_firstLetter 52 = .ok (.iload 5, 2) := by decide +kernel
theorem dX12_firstLetter_54 : decode cX12_firstLetter 54 = .ok (.iconst 1, 1) := by decide +kernel
theorem dX12_firstLetter_55 : decode cX12_firstLetter 55 = .ok (.isub, 1) := by decide +kernel
theorem dX12_firstLetter_56 : decode cX12_firstLetter 56 = .ok (.istore 6, 2) := by decide +kernel
theorem dX12_firstLetter_58 : decode cX12_firstLetter 58 = .ok (.iload 6, 2) := by decide +kernel
theorem dX12_firstLetter_60 : decode cX12_firstLetter 60 = .ok (.iload_n 3, 1) := by decide +kernel
theorem dX12_firstLetter_61 : decode cX12_firstLetter 61 = .ok (.if_icmp .le 18, 3) := by decide +kernel
theorem dX12_firstLetter_64 : decode cX12_firstLetter 64 = .ok (.aload_n 0, 1) := by decide +kernel
theorem dX12_firstLetter_65 : decode cX12_firstLetter 65 = .ok (.getfield 139, 3) := by decide +kernel
theorem dX12_firstLetter_68 : decode cX12_firstLetter 68 = .ok (.iload 4, 2) := by decide +kernel
theorem dX12_firstLetter_70 : decode cX12_firstLetter 70 = .ok (.iaload, 1) := by decide +kernel
theorem dX12_firstLetter_71 : decode cX12_firstLetter 71 = .ok (.istore 4, 2) := by decide +kernel
theorem dX12_firstLetter_73 : decode cX12_firstLetter 73 = .ok (.iinc 6 (-1), 3) := by decide +kernel
theorem dX12_firstLetter_76 : decode cX12_firstLetter 76 = .ok (.goto (-18), 3) := by decide +kernel
theorem dX12_firstLetter_79 : decode cX12_firstLetter 79 = .ok (.aload_n 0, 1) := by decide +kernel
theorem dX12_firstLetter_80 : decode cX12_firstLetter 80 = .ok (.aload_n 0, 1) := by decide +kernel
theorem dX12_firstLetter_81 : decode cX12_firstLetter 81 = .ok (.getfield 142, 3) := by decide +kernel
theorem dX12_firstLetter_84 : decode cX12_firstLetter 84 = .ok (.iload 4, 2) := by decide +kernel
theorem dX12_firstLetter_86 : decode cX12_firstLetter 86 = .ok (.iaload, 1) := by decide +kernel
theorem dX12_firstLetter_87 : decode cX12_firstLetter 87 = .ok (.invokevirtual 196, 3) := by decide +kernel
theorem dX12_firstLetter_90 : decode cX12_firstLetter 90 = .ok (.ireturn, 1) := by decide +kernel
theorem dX12_partedBy_0 : decode cX12_partedBy 0 = .ok (.iload_n 1, 1) := by decide +kernel
theorem dX12_partedBy_1 : decode cX12_partedBy 1 = .ok (.iload_n 2, 1) := by decide +kernel
theorem dX12_partedBy_2 : decode cX12_partedBy 2 = .ok (.if_icmp .ne 8, 3) := by decide +kernel
theorem dX12_partedBy_5 : decode cX12_partedBy 5 = .ok (.bipush (-2), 2) := by decide +kernel
theorem dX12_partedBy_7 : decode cX12_partedBy 7 = .ok (.goto 24, 3) := by decide +kernel
theorem dX12_partedBy_10 : decode cX12_partedBy 10 = .ok (.aload_n 0, 1) := by decide +kernel
theorem dX12_partedBy_11 : decode cX12_partedBy 11 = .ok (.getfield 154, 3) := by decide +kernel
theorem dX12_partedBy_14 : decode cX12_partedBy 14 = .ok (.aload_n 0, 1) := by decide +kernel
theorem dX12_partedBy_15 : decode cX12_partedBy 15 = .ok (.getfield 148, 3) := by decide +kernel
theorem dX12_partedBy_18 : decode cX12_partedBy 18 = .ok (.iload_n 1, 1) := by decide +kernel
theorem dX12_partedBy_19 : decode cX12_partedBy 19 = .ok (.iaload, 1) := by decide +kernel
theorem dX12_partedBy_20 : decode cX12_partedBy 20 = .ok (.bipush 40, 2) := by decide +kernel
theorem dX12_partedBy_22 : decode cX12_partedBy 22 = .ok (.imul, 1) := by decide +kernel
theorem dX12_partedBy_23 : decode cX12_partedBy 23 = .ok (.aload_n 0, 1) := by decide +kernel
theorem dX12_partedBy_24 : decode cX12_partedBy 24 = .ok (.getfield 148, 3) := by decide +kernel
theorem dX12_partedBy_27 : decode cX12_partedBy 27 = .ok (.iload_n 2, 1) := by decide +kernel
theorem dX12_partedBy_28 : decode cX12_partedBy 28 = .ok (.iaload, 1) := by decide +kernel
theorem dX12_partedBy_29 : decode cX12_partedBy 29 = .ok (.iadd, 1) := by decide +kernel
theorem dX12_partedBy_30 : decode cX12_partedBy 30 = .ok (.iaload, 1) := by decide +kernel
theorem dX12_partedBy_31 : decode cX12_partedBy 31 = .ok (.ireturn, 1) := by decide +kernel
theorem dX12_parting_0 : decode cX12_parting 0 = .ok (.aload_n 0, 1) := by decide +kernel
theorem dX12_parting_1 : decode cX12_parting 1 = .ok (.iconst 0, 1) := by decide +kernel
theorem dX12_parting_2 : decode cX12_parting 2 = .ok (.putfield 190, 3) := by decide +kernel
theorem dX12_parting_5 : decode cX12_parting 5 = .ok (.aload_n 0, 1) := by decide +kernel
theorem dX12_parting_6 : decode cX12_parting 6 = .ok (.iload_n 1, 1) := by decide +kernel
theorem dX12_parting_7 : decode cX12_parting 7 = .ok (.iload_n 2, 1) := by decide +kernel
theorem dX12_parting_8 : decode cX12_parting 8 = .ok (.invokevirtual 608, 3) := by decide +kernel
theorem dX12_parting_11 : decode cX12_parting 11 = .ok (.ifCond .eq 12, 3) := by decide +kernel
theorem dX12_parting_14 : decode cX12_parting 14 = .ok (.aload_n 0, 1) := by decide +kernel
theorem dX12_parting_15 : decode cX12_parting 15 = .ok (.iload_n 1, 1) := by decide +kernel
theorem dX12_parting_16 : decode cX12_parting 16 = .ok (.iload_n 3, 1) := by decide +kernel
theorem dX12_parting_17 : decode cX12_parting 17 = .ok (.invokevirtual 608, 3) := by decide +kernel
theorem dX12_parting_20 : decode cX12_parting 20 = .ok (.ifCond .ne 9, 3) := by decide +kernel
theorem dX12_parting_23 : decode cX12_parting 23 = .ok (.aload_n 0, 1) := by decide +kernel
theorem dX12_parting_24 : decode cX12_parting 24 = .ok (.iconst 1, 1) := by decide +kernel
theorem dX12_parting_25 : decode cX12_parting 25 = .ok (.invokevirtual 426, 3) := by decide +kernel
theorem dX12_parting_28 : decode cX12_parting 28 = .ok (.ireturn, 1) := by decide +kernel
theorem dX12_parting_29 : decode cX12_parting 29 = .ok (.aload_n 0, 1) := by decide +kernel
theorem dX12_parting_30 : decode cX12_parting 30 = .ok (.aload_n 0, 1) := by decide +kernel
theorem dX12_parting_31 : decode cX12_parting 31 = .ok (.iload_n 2, 1) := by decide +kernel
theorem dX12_parting_32 : decode cX12_parting 32 = .ok (.iload_n 3, 1) := by decide +kernel
theorem dX12_parting_33 : decode cX12_parting 33 = .ok (.invokevirtual 623, 3) := by decide +kernel
theorem dX12_parting_36 : decode cX12_parting 36 = .ok (.invokevirtual 196, 3) := by decide +kernel
theorem dX12_parting_39 : decode cX12_parting 39 = .ok (.ireturn, 1) := by decide +kernel
theorem dX12_partingLetter_0 : decode cX12_partingLetter 0 = .ok (.aload_n 0, 1) := by decide +kernel
theorem dX12_partingLetter_1 : decode cX12_partingLetter 1 = .ok (.iconst 0, 1) := by decide +kernel
theorem dX12_partingLetter_2 : decode cX12_partingLetter 2 = .ok (.putfield 190, 3) := by decide +kernel
theorem dX12_partingLetter_5 : decode cX12_partingLetter 5 = .ok (.aload_n 0, 1) := by decide +kernel
theorem dX12_partingLetter_6 : decode cX12_partingLetter 6 = .ok (.iload_n 1, 1) := by decide +kernel
theorem dX12_partingLetter_7 : decode cX12_partingLetter 7 = .ok (.iload_n 2, 1) := by decide +kernel
theorem dX12_partingLetter_8 : decode cX12_partingLetter 8 = .ok (.invokevirtual 608, 3) := by decide +kernel
theorem dX12_partingLetter_11 : decode cX12_partingLetter 11 = .ok (.ifCond .eq 17, 3) := by decide +kernel
theorem dX12_partingLetter_14 : decode cX12_partingLetter 14 = .ok (.aload_n 0, 1) := by decide +kernel
theorem dX12_partingLetter_15 : decode cX12_partingLetter 15 = .ok (.iload_n 1, 1) := by decide +kernel
theorem dX12_partingLetter_16 : decode cX12_partingLetter 16 = .ok (.iload_n 3, 1) := by decide +kernel
theorem dX12_partingLetter_17 : decode cX12_partingLetter 17 = .ok (.invokevirtual 608, 3) := by decide +kernel
theorem dX12_partingLetter_20 : decode cX12_partingLetter 20 = .ok (.ifCond .eq 8, 3) := by decide +kernel
theorem dX12_partingLetter_23 : decode cX12_partingLetter 23 = .ok (.iload 4, 2) := by decide +kernel
theorem dX12_partingLetter_25 : decode cX12_partingLetter 25 = .ok (.ifCond .ge 9, 3) := by decide +kernel
theorem dX12_partingLetter_28 : decode cX12_partingLetter 28 = .ok (.aload_n 0, 1) := by decide +kernel
theorem dX12_partingLetter_29 : decode cX12_partingLetter 29 = .ok (.iconst 1, 1) := by decide +kernel
theorem dX12_partingLetter_30 : decode cX12_partingLetter 30 = .ok (.invokevirtual 426, 3) := by decide +kernel
theorem dX12_partingLetter_33 : decode cX12_partingLetter 33 = .ok (.ireturn, 1) := by decide +kernel
theorem dX12_partingLetter_34 : decode cX12_partingLetter 34 = .ok (.aload_n 0, 1) := by decide +kernel
theorem dX12_partingLetter_35 : decode cX12_partingLetter 35 = .ok (.iload_n 2, 1) := by decide +kernel
theorem dX12_partingLetter_36 : decode cX12_partingLetter 36 = .ok (.iload_n 3, 1) := by decide +kernel
theorem dX12_partingLetter_37 : decode cX12_partingLetter 37 = .ok (.invokevirtual 623, 3) := by decide +kernel
theorem dX12_partingLetter_40 : decode cX12_partingLetter 40 = .ok (.istore 5, 2) := by decide +kernel
theorem dX12_partingLetter_42 : decode cX12_partingLetter 42 = .ok (.iload 4, 2) := by decide +kernel
theorem dX12_partingLetter_44 : decode cX12_partingLetter 44 = .ok (.iload 5, 2) := by decide +kernel
theorem dX12_partingLetter_46 : decode cX12_partingLetter 46 = .ok (.if_icmp .lt 9, 3) := by decide +kernel
theorem dX12_partingLetter_49 : decode cX12_partingLetter 49 = .ok (.aload_n 0, 1) := by decide +kernel
theorem dX12_partingLetter_50 : decode cX12_partingLetter 50 = .ok (.iconst 1, 1) := by decide +kernel
theorem dX12_partingLetter_51 : decode cX12_partingLetter 51 = .ok (.invokevirtual 426, 3) := by decide +kernel
theorem dX12_partingLetter_54 : decode cX12_partingLetter 54 = .ok (.ireturn, 1) := by decide +kernel
theorem dX12_partingLetter_55 : decode cX12_partingLetter 55 = .ok (.aload_n 0, 1) := by decide +kernel
theorem dX12_partingLetter_56 : decode cX12_partingLetter 56 = .ok (.getfield 148, 3) := by decide +kernel
theorem dX12_partingLetter_59 : decode cX12_partingLetter 59 = .ok (.iload_n 2, 1) := by decide +kernel
theorem dX12_partingLetter_60 : decode cX12_partingLetter 60 = .ok (.iaload, 1) := by decide +kernel
theorem dX12_partingLetter_61 : decode cX12_partingLetter 61 = .ok (.istore 6, 2) := by decide +kernel
theorem dX12_partingLetter_63 : decode cX12_partingLetter 63 = .ok (.aload_n 0, 1) := by decide +kernel
theorem dX12_partingLetter_64 : decode cX12_partingLetter 64 = .ok (.getfield 148, 3) := by decide +kernel
theorem dX12_partingLetter_67 : decode cX12_partingLetter 67 = .ok (.iload_n 3, 1) := by decide +kernel
theorem dX12_partingLetter_68 : decode cX12_partingLetter 68 = .ok (.iaload, 1) := by decide +kernel
theorem dX12_partingLetter_69 : decode cX12_partingLetter 69 = .ok (.istore 7, 2) := by decide +kernel
theorem dX12_partingLetter_71 : decode cX12_partingLetter 71 = .ok (.iconst (-1), 1) := by decide +kernel
theorem dX12_partingLetter_72 : decode cX12_partingLetter 72 = .ok (.istore 8, 2) := by decide +kernel
theorem dX12_partingLetter_74 : decode cX12_partingLetter 74 = .ok (.iconst 0, 1) := by decide +kernel
theorem dX12_partingLetter_75 : decode cX12_partingLetter 75 = .ok (.istore 9, 2) := by decide +kernel
theorem dX12_partingLetter_77 : decode cX12_partingLetter 77 = .ok (.iload 9, 2) := by decide +kernel
theorem dX12_partingLetter_79 : decode cX12_partingLetter 79 = .ok (.iload 4, 2) := by decide +kernel
theorem dX12_partingLetter_81 : decode cX12_partingLetter 81 = .ok (.if_icmp .gt 48, 3) := by decide +kernel
theorem dX12_partingLetter_84 : decode cX12_partingLetter 84 = .ok (.aload_n 0, 1) := by decide +kernel
theorem dX12_partingLetter_85 : decode cX12_partingLetter 85 = .ok (.iload_n 1, 1) := by decide +kernel
theorem dX12_partingLetter_86 : decode cX12_partingLetter 86 = .ok (.iconst 0, 1) := by decide +kernel
theorem dX12_partingLetter_87 : decode cX12_partingLetter 87 = .ok (.iload 6, 2) := by decide +kernel
theorem dX12_partingLetter_89 : decode cX12_partingLetter 89 = .ok (.iload 7, 2) := by decide +kernel
theorem dX12_partingLetter_91 : decode cX12_partingLetter 91 = .ok (.iload 5, 2) := by decide +kernel
theorem dX12_partingLetter_93 : decode cX12_partingLetter 93 = .ok (.iload 9, 2) := by decide +kernel
theorem dX12_partingLetter_95 : decode cX12_partingLetter 95 = .ok (.isub, 1) := by decide +kernel
theorem dX12_partingLetter_96 : decode cX12_partingLetter 96 = .ok (.invokevirtual 551, 3) := by decide +kernel
theorem dX12_partingLetter_99 : decode cX12_partingLetter 99 = .ok (.istore 8, 2) := by decide +kernel
theorem dX12_partingLetter_101 : decode cX12_partingLetter 101 = .ok (.aload_n 0, 1) := by decide +kernel
theorem dX12_partingLetter_102 : decode cX12_partingLetter 102 = .ok (.iconst 0, 1) := by decide +kernel
theorem dX12_partingLetter_103 : decode cX12_partingLetter 103 = .ok (.iload 6, 2) := by decide +kernel
theorem dX12_partingLetter_105 : decode cX12_partingLetter 105 = .ok (.iload 8, 2) := by decide +kernel
theorem dX12_partingLetter_107 : decode cX12_partingLetter 107 = .ok (.invokevirtual 555, 3) := by decide +kernel
theorem dX12_partingLetter_110 : decode cX12_partingLetter 110 = .ok (.istore 6, 2) := by decide +kernel
theorem dX12_partingLetter_112 : decode cX12_partingLetter 112 = .ok (.aload_n 0, 1) := by decide +kernel
theorem dX12_partingLetter_113 : decode cX12_partingLetter 113 = .ok (.iconst 0, 1) := by decide +kernel
theorem dX12_partingLetter_114 : decode cX12_partingLetter 114 = .ok (.iload 7, 2) := by decide +kernel
theorem dX12_partingLetter_116 : decode cX12_partingLetter 116 = .ok (.iload 8, 2) := by decide +kernel
theorem dX12_partingLetter_118 : decode cX12_partingLetter 118 = .ok (.invokevirtual 555, 3) := by decide +kernel
theorem dX12_partingLetter_121 : decode cX12_partingLetter 121 = .ok (.istore 7, 2) := by decide +kernel
theorem dX12_partingLetter_123 : decode cX12_partingLetter 123 = .ok (.iinc 9 1, 3) := by decide +kernel
theorem dX12_partingLetter_126 : decode cX12_partingLetter 126 = .ok (.goto (-49), 3) := by decide +kernel
theorem dX12_partingLetter_129 : decode cX12_partingLetter 129 = .ok (.aload_n 0, 1) := by decide +kernel
theorem dX12_partingLetter_130 : decode cX12_partingLetter 130 = .ok (.aload_n 0, 1) := by decide +kernel
theorem dX12_partingLetter_131 : decode cX12_partingLetter 131 = .ok (.getfield 106, 3) := by decide +kernel
theorem dX12_partingLetter_134 : decode cX12_partingLetter 134 = .ok (.iload_n 1, 1) := by decide +kernel
theorem dX12_partingLetter_135 : decode cX12_partingLetter 135 = .ok (.sipush 128, 3) := by decide +kernel
theorem dX12_partingLetter_138 : decode cX12_partingLetter 138 = .ok (.imul, 1) := by decide +kernel
theorem dX12_partingLetter_139 : decode cX12_partingLetter 139 = .ok (.iload 8, 2) := by decide +kernel
theorem dX12_partingLetter_141 : decode cX12_partingLetter 141 = .ok (.iadd, 1) := by decide +kernel
theorem dX12_partingLetter_142 : decode cX12_partingLetter 142 = .ok (.iaload, 1) := by decide +kernel
theorem dX12_partingLetter_143 : decode cX12_partingLetter 143 = .ok (.invokevirtual 196, 3) := by decide +kernel
theorem dX12_partingLetter_146 : decode cX12_partingLetter 146 = .ok (.ireturn, 1) := by decide +kernel
theorem dX12_rounds_0 : decode cX12_rounds 0 = .ok (.aload_n 0, 1) := by decide +kernel
theorem dX12_rounds_1 : decode cX12_rounds 1 = .ok (.iconst 0, 1) := by decide +kernel
theorem dX12_rounds_2 : decode cX12_rounds 2 = .ok (.putfield 190, 3) := by decide +kernel
theorem dX12_rounds_5 : decode cX12_rounds 5 = .ok (.aload_n 0, 1) := by decide +kernel
theorem dX12_rounds_6 : decode cX12_rounds 6 = .ok (.iload_n 1, 1) := by decide +kernel
theorem dX12_rounds_7 : decode cX12_rounds 7 = .ok (.invokevirtual 561, 3) := by decide +kernel
theorem dX12_rounds_10 : decode cX12_rounds 10 = .ok (.ifCond .ne 9, 3) := by decide +kernel
theorem dX12_rounds_13 : decode cX12_rounds 13 = .ok (.aload_n 0, 1) := by decide +kernel
theorem dX12_rounds_14 : decode cX12_rounds 14 = .ok (.iconst 1, 1) := by decide +kernel
theorem dX12_rounds_15 : decode cX12_rounds 15 = .ok (.invokevirtual 426, 3) := by decide +kernel
theorem dX12_rounds_18 : decode cX12_rounds 18 = .ok (.ireturn, 1) := by decide +kernel
theorem dX12_rounds_19 : decode cX12_rounds 19 = .ok (.aload_n 0, 1) := by decide +kernel
theorem dX12_rounds_20 : decode cX12_rounds 20 = .ok (.iload_n 1, 1) := by decide +kernel
theorem dX12_rounds_21 : decode cX12_rounds 21 = .ok (.iconst 0, 1) := by decide +kernel
theorem dX12_rounds_22 : decode cX12_rounds 22 = .ok (.invokevirtual 568, 3) := by decide +kernel
theorem dX12_rounds_25 : decode cX12_rounds 25 = .ok (.aload_n 0, 1) := by decide +kernel
theorem dX12_rounds_26 : decode cX12_rounds 26 = .ok (.aload_n 0, 1) := by decide +kernel
theorem dX12_rounds_27 : decode cX12_rounds 27 = .ok (.getfield 545, 3) := by decide +kernel
theorem dX12_rounds_30 : decode cX12_rounds 30 = .ok (.invokevirtual 196, 3) := by decide +kernel
theorem dX12_rounds_33 : decode cX12_rounds 33 = .ok (.ireturn, 1) := by decide +kernel
theorem dX12_word_0 : decode cX12_word 0 = .ok (.aload_n 0, 1) := by decide +kernel
theorem dX12_word_1 : decode cX12_word 1 = .ok (.iconst 0, 1) := by decide +kernel
theorem dX12_word_2 : decode cX12_word 2 = .ok (.putfield 190, 3) := by decide +kernel
theorem dX12_word_5 : decode cX12_word 5 = .ok (.iload_n 1, 1) := by decide +kernel
theorem dX12_word_6 : decode cX12_word 6 = .ok (.iconst 0, 1) := by decide +kernel
theorem dX12_word_7 : decode cX12_word 7 = .ok (.iconst 4, 1) := by decide +kernel
theorem dX12_word_8 : decode cX12_word 8 = .ok (.invokestatic 201, 3) := by decide +kernel
theorem dX12_word_11 : decode cX12_word 11 = .ok (.ifCond .ne 9, 3) := by decide +kernel
theorem dX12_word_14 : decode cX12_word 14 = .ok (.aload_n 0, 1) := by decide +kernel
theorem dX12_word_15 : decode cX12_word 15 = .ok (.iconst 2, 1) := by decide +kernel
theorem dX12_word_16 : decode cX12_word 16 = .ok (.invokevirtual 426, 3) := by decide +kernel
theorem dX12_word_19 : decode cX12_word 19 = .ok (.ireturn, 1) := by decide +kernel
theorem dX12_word_20 : decode cX12_word 20 = .ok (.iconst 0, 1) := by decide +kernel
theorem dX12_word_21 : decode cX12_word 21 = .ok (.istore 6, 2) := by decide +kernel
theorem dX12_word_23 : decode cX12_word 23 = .ok (.iload 6, 2) := by decide +kernel
theorem dX12_word_25 : decode cX12_word 25 = .ok (.iload_n 1, 1) := by decide +kernel
theorem dX12_word_26 : decode cX12_word 26 = .ok (.if_icmp .ge 53, 3) := by decide +kernel
theorem dX12_word_29 : decode cX12_word 29 = .ok (.iload 6, 2) := by decide +kernel
theorem dX12_word_31 : decode cX12_word 31 = .ok (.ifCond .ne 7, 3) := by decide +kernel
theorem dX12_word_34 : decode cX12_word 34 = .ok (.iload_n 2, 1) := by decide +kernel
theorem dX12_word_35 : decode cX12_word 35 = .ok (.goto 26, 3) := by decide +kernel
theorem dX12_word_38 : decode cX12_word 38 = .ok (.iload 6, 2) := by decide +kernel
theorem dX12_word_40 : decode cX12_word 40 = .ok (.iconst 1, 1) := by decide +kernel
theorem dX12_word_41 : decode cX12_word 41 = .ok (.if_icmp .ne 7, 3) := by decide +kernel
theorem dX12_word_44 : decode cX12_word 44 = .ok (.iload_n 3, 1) := by decide +kernel
theorem dX12_word_45 : decode cX12_word 45 = .ok (.goto 16, 3) := by decide +kernel
theorem dX12_word_48 : decode cX12_word 48 = .ok (.iload 6, 2) := by decide +kernel
theorem dX12_word_50 : decode cX12_word 50 = .ok (.iconst 2, 1) := by decide +kernel
theorem dX12_word_51 : decode cX12_word 51 = .ok (.if_icmp .ne 8, 3) := by decide +kernel
theorem dX12_word_54 : decode cX12_word 54 = .ok (.iload 4, 2) := by decide +kernel
theorem dX12_word_56 : decode cX12_word 56 = .ok (.goto 5, 3) := by decide +kernel
theorem dX12_word_59 : decode cX12_word 59 = .ok (.iload 5, 2) := by decide +kernel
theorem dX12_word_61 : decode cX12_word 61 = .ok (.invokestatic 450, 3) := by decide +kernel
theorem dX12_word_64 : decode cX12_word 64 = .ok (.ifCond .ne 9, 3) := by decide +kernel
theorem dX12_word_67 : decode cX12_word 67 = .ok (.aload_n 0, 1) := by decide +kernel
theorem dX12_word_68 : decode cX12_word 68 = .ok (.iconst 2, 1) := by decide +kernel
theorem dX12_word_69 : decode cX12_word 69 = .ok (.invokevirtual 426, 3) := by decide +kernel
theorem dX12_word_72 : decode cX12_word 72 = .ok (.ireturn, 1) := by decide +kernel
theorem dX12_word_73 : decode cX12_word 73 = .ok (.iinc 6 1, 3) := by decide +kernel
theorem dX12_word_76 : decode cX12_word 76 = .ok (.goto (-53), 3) := by decide +kernel
theorem dX12_word_79 : decode cX12_word 79 = .ok (.iconst 0, 1) := by decide +kernel
theorem dX12_word_80 : decode cX12_word 80 = .ok (.istore 6, 2) := by decide +kernel
theorem dX12_word_82 : decode cX12_word 82 = .ok (.iload 6, 2) := by decide +kernel
theorem dX12_word_84 : decode cX12_word 84 = .ok (.iload_n 1, 1) := by decide +kernel
theorem dX12_word_85 : decode cX12_word 85 = .ok (.if_icmp .ge 48, 3) := by decide +kernel
theorem dX12_word_88 : decode cX12_word 88 = .ok (.aload_n 0, 1) := by decide +kernel
theorem dX12_word_89 : decode cX12_word 89 = .ok (.getfield 157, 3) := by decide +kernel
theorem dX12_word_92 : decode cX12_word 92 = .ok (.iload 6, 2) := by decide +kernel
theorem dX12_word_94 : decode cX12_word 94 = .ok (.iload 6, 2) := by decide +kernel
theorem dX12_word_96 : decode cX12_word 96 = .ok (.ifCond .ne 7, 3) := by decide +kernel
theorem dX12_word_99 : decode cX12_word 99 = .ok (.iload_n 2, 1) := by decide +kernel
theorem dX12_word_100 : decode cX12_word 100 = .ok (.goto 26, 3) := by decide +kernel
theorem dX12_word_103 : decode cX12_word 103 = .ok (.iload 6, 2) := by decide +kernel
theorem dX12_word_105 : decode cX12_word 105 = .ok (.iconst 1, 1) := by decide +kernel
theorem dX12_word_106 : decode cX12_word 106 = .ok (.if_icmp .ne 7, 3) := by decide +kernel
theorem dX12_word_109 : decode cX12_word 109 = .ok (.iload_n 3, 1) := by decide +kernel
theorem dX12_word_110 : decode cX12_word 110 = .ok (.goto 16, 3) := by decide +kernel
theorem dX12_word_113 : decode cX12_word 113 = .ok (.iload 6, 2) := by decide +kernel
theorem dX12_word_115 : decode cX12_word 115 = .ok (.iconst 2, 1) := by decide +kernel
theorem dX12_word_116 : decode cX12_word 116 = .ok (.if_icmp .ne 8, 3) := by decide +kernel
theorem dX12_word_119 : decode cX12_word 119 = .ok (.iload 4, 2) := by decide +kernel
theorem dX12_word_121 : decode cX12_word 121 = .ok (.goto 5, 3) := by decide +kernel
theorem dX12_word_124 : decode cX12_word 124 = .ok (.iload 5, 2) := by decide +kernel
theorem dX12_word_126 : decode cX12_word 126 = .ok (.iastore, 1) := by decide +kernel
theorem dX12_word_127 : decode cX12_word 127 = .ok (.iinc 6 1, 3) := by decide +kernel
theorem dX12_word_130 : decode cX12_word 130 = .ok (.goto (-48), 3) := by decide +kernel
theorem dX12_word_133 : decode cX12_word 133 = .ok (.aload_n 0, 1) := by decide +kernel
theorem dX12_word_134 : decode cX12_word 134 = .ok (.iload_n 1, 1) := by decide +kernel
theorem dX12_word_135 : decode cX12_word 135 = .ok (.putfield 626, 3) := by decide +kernel
theorem dX12_word_138 : decode cX12_word 138 = .ok (.aload_n 0, 1) := by decide +kernel
theorem dX12_word_139 : decode cX12_word 139 = .ok (.iload_n 1, 1) := by decide +kernel
theorem dX12_word_140 : decode cX12_word 140 = .ok (.invokevirtual 196, 3) := by decide +kernel
theorem dX12_word_143 : decode cX12_word 143 = .ok (.ireturn, 1) := by decide +kernel
theorem dX12_more_0 : decode cX12_more 0 = .ok (.aload_n 0, 1) := by decide +kernel
theorem dX12_more_1 : decode cX12_more 1 = .ok (.iconst 0, 1) := by decide +kernel
theorem dX12_more_2 : decode cX12_more 2 = .ok (.putfield 190, 3) := by decide +kernel
theorem dX12_more_5 : decode cX12_more 5 = .ok (.iload_n 1, 1) := by decide +kernel
theorem dX12_more_6 : decode cX12_more 6 = .ok (.invokestatic 450, 3) := by decide +kernel
theorem dX12_more_9 : decode cX12_more 9 = .ok (.ifCond .ne 9, 3) := by decide +kernel
theorem dX12_more_12 : decode cX12_more 12 = .ok (.aload_n 0, 1) := by decide +kernel
theorem dX12_more_13 : decode cX12_more 13 = .ok (.iconst 2, 1) := by decide +kernel
theorem dX12_more_14 : decode cX12_more 14 = .ok (.invokevirtual 426, 3) := by decide +kernel
theorem dX12_more_17 : decode cX12_more 17 = .ok (.ireturn, 1) := by decide +kernel
theorem dX12_more_18 : decode cX12_more 18 = .ok (.aload_n 0, 1) := by decide +kernel
theorem dX12_more_19 : decode cX12_more 19 = .ok (.getfield 626, 3) := by decide +kernel
theorem dX12_more_22 : decode cX12_more 22 = .ok (.bipush 16, 2) := by decide +kernel
theorem dX12_more_24 : decode cX12_more 24 = .ok (.if_icmp .ne 9, 3) := by decide +kernel
theorem dX12_more_27 : decode cX12_more 27 = .ok (.aload_n 0, 1) := by decide +kernel
theorem dX12_more_28 : decode cX12_more 28 = .ok (.iconst 3, 1) := by decide +kernel
theorem dX12_more_29 : decode cX12_more 29 = .ok (.invokevirtual 426, 3) := by decide +kernel
theorem dX12_more_32 : decode cX12_more 32 = .ok (.ireturn, 1) := by decide +kernel
theorem dX12_more_33 : decode cX12_more 33 = .ok (.aload_n 0, 1) := by decide +kernel
theorem dX12_more_34 : decode cX12_more 34 = .ok (.getfield 157, 3) := by decide +kernel
theorem dX12_more_37 : decode cX12_more 37 = .ok (.aload_n 0, 1) := by decide +kernel
theorem dX12_more_38 : decode cX12_more 38 = .ok (.getfield 626, 3) := by decide +kernel
theorem dX12_more_41 : decode cX12_more 41 = .ok (.iload_n 1, 1) := by decide +kernel
theorem dX12_more_42 : decode cX12_more 42 = .ok (.iastore, 1) := by decide +kernel
theorem dX12_more_43 : decode cX12_more 43 = .ok (.aload_n 0, 1) := by decide +kernel
theorem dX12_more_44 : decode cX12_more 44 = .ok (.dup, 1) := by decide +kernel
theorem dX12_more_45 : decode cX12_more 45 = .ok (.getfield 626, 3) := by decide +kernel
theorem dX12_more_48 : decode cX12_more 48 = .ok (.iconst 1, 1) := by decide +kernel
theorem dX12_more_49 : decode cX12_more 49 = .ok (.iadd, 1) := by decide +kernel
theorem dX12_more_50 : decode cX12_more 50 = .ok (.putfield 626, 3) := by decide +kernel
theorem dX12_more_53 : decode cX12_more 53 = .ok (.aload_n 0, 1) := by decide +kernel
theorem dX12_more_54 : decode cX12_more 54 = .ok (.aload_n 0, 1) := by decide +kernel
theorem dX12_more_55 : decode cX12_more 55 = .ok (.getfield 626, 3) := by decide +kernel
theorem dX12_more_58 : decode cX12_more 58 = .ok (.invokevirtual 196, 3) := by decide +kernel
theorem dX12_more_61 : decode cX12_more 61 = .ok (.ireturn, 1) := by decide +kernel
theorem dX12_led_0 : decode cX12_led 0 = .ok (.aload_n 0, 1) := by decide +kernel
theorem dX12_led_1 : decode cX12_led 1 = .ok (.iload_n 1, 1) := by decide +kernel
theorem dX12_led_2 : decode cX12_led 2 = .ok (.lconst 1, 1) := by decide +kernel
theorem dX12_led_3 : decode cX12_led 3 = .ok (.invokevirtual 530, 3) := by decide +kernel
theorem dX12_led_6 : decode cX12_led 6 = .ok (.lstore_n 2, 1) := by decide +kernel
theorem dX12_led_7 : decode cX12_led 7 = .ok (.iconst 0, 1) := by decide +kernel
theorem dX12_led_8 : decode cX12_led 8 = .ok (.istore 4, 2) := by decide +kernel
theorem dX12_led_10 : decode cX12_led 10 = .ok (.iload 4, 2) := by decide +kernel
theorem dX12_led_12 : decode cX12_led 12 = .ok (.aload_n 0, 1) := by decide +kernel
theorem dX12_led_13 : decode cX12_led 13 = .ok (.getfield 626, 3) := by decide +kernel
theorem dX12_led_16 : decode cX12_led 16 = .ok (.if_icmp .ge 28, 3) := by decide +kernel
theorem dX12_led_19 : decode cX12_led 19 = .ok (.aload_n 0, 1) := by decide +kernel
theorem dX12_led_20 : decode cX12_led 20 = .ok (.iload_n 1, 1) := by decide +kernel
theorem dX12_led_21 : decode cX12_led 21 = .ok (.lload_n 2, 1) := by decide +kernel
theorem dX12_led_22 : decode cX12_led 22 = .ok (.aload_n 0, 1) := by decide +kernel
theorem dX12_led_23 : decode cX12_led 23 = .ok (.iload_n 1, 1) := by decide +kernel
theorem dX12_led_24 : decode cX12_led 24 = .ok (.aload_n 0, 1) := by decide +kernel
theorem dX12_led_25 : decode cX12_led 25 = .ok (.getfield 157, 3) := by decide +kernel
theorem dX12_led_28 : decode cX12_led 28 = .ok (.iload 4, 2) := by decide +kernel
theorem dX12_led_30 : decode cX12_led 30 = .ok (.iaload, 1) := by decide +kernel
theorem dX12_led_31 : decode cX12_led 31 = .ok (.invokevirtual 524, 3) := by decide +kernel
theorem dX12_led_34 : decode cX12_led 34 = .ok (.invokevirtual 534, 3) := by decide +kernel
theorem dX12_led_37 : decode cX12_led 37 = .ok (.lstore_n 2, 1) := by decide +kernel
theorem dX12_led_38 : decode cX12_led 38 = .ok (.iinc 4 1, 3) := by decide +kernel
theorem dX12_led_41 : decode cX12_led 41 = .ok (.goto (-31), 3) := by decide +kernel
theorem dX12_led_44 : decode cX12_led 44 = .ok (.lload_n 2, 1) := by decide +kernel
theorem dX12_led_45 : decode cX12_led 45 = .ok (.lreturn, 1) := by decide +kernel
theorem dX12_taken_0 : decode cX12_taken 0 = .ok (.aload_n 0, 1) := by decide +kernel
theorem dX12_taken_1 : decode cX12_taken 1 = .ok (.iconst 0, 1) := by decide +kernel
theorem dX12_taken_2 : decode cX12_taken 2 = .ok (.putfield 190, 3) := by decide +kernel
theorem dX12_taken_5 : decode cX12_taken 5 = .ok (.aload_n 0, 1) := by decide +kernel
theorem dX12_taken_6 : decode cX12_taken 6 = .ok (.iload_n 1, 1) := by decide +kernel
theorem dX12_taken_7 : decode cX12_taken 7 = .ok (.invokevirtual 561, 3) := by decide +kernel
theorem dX12_taken_10 : decode cX12_taken 10 = .ok (.ifCond .ne 9, 3) := by decide +kernel
theorem dX12_taken_13 : decode cX12_taken 13 = .ok (.aload_n 0, 1) := by decide +kernel
theorem dX12_taken_14 : decode cX12_taken 14 = .ok (.iconst 1, 1) := by decide +kernel
theorem dX12_taken_15 : decode cX12_taken 15 = .ok (.invokevirtual 426, 3) := by decide +kernel
theorem dX12_taken_18 : decode cX12_taken 18 = .ok (.ireturn, 1) := by decide +kernel
theorem dX12_taken_19 : decode cX12_taken 19 = .ok (.aload_n 0, 1) := by decide +kernel
theorem dX12_taken_20 : decode cX12_taken 20 = .ok (.aload_n 0, 1) := by decide +kernel
theorem dX12_taken_21 : decode cX12_taken 21 = .ok (.iload_n 1, 1) := by decide +kernel
theorem dX12_taken_22 : decode cX12_taken 22 = .ok (.invokevirtual 629, 3) := by decide +kernel
theorem dX12_taken_25 : decode cX12_taken 25 = .ok (.aload_n 0, 1) := by decide +kernel
theorem dX12_taken_26 : decode cX12_taken 26 = .ok (.getfield 121, 3) := by decide +kernel
theorem dX12_taken_29 : decode cX12_taken 29 = .ok (.iload_n 1, 1) := by decide +kernel
theorem dX12_taken_30 : decode cX12_taken 30 = .ok (.laload, 1) := by decide +kernel
theorem dX12_taken_31 : decode cX12_taken 31 = .ok (.land, 1) := by decide +kernel
theorem dX12_taken_32 : decode cX12_taken 32 = .ok (.lconst 0, 1) := by decide +kernel
theorem dX12_taken_33 : decode cX12_taken 33 = .ok (.lcmp, 1) := by decide +kernel
theorem dX12_taken_34 : decode cX12_taken 34 = .ok (.ifCond .eq 7, 3) := by decide +kernel
theorem dX12_taken_37 : decode cX12_taken 37 = .ok (.iconst 1, 1) := by decide +kernel
theorem dX12_taken_38 : decode cX12_taken 38 = .ok (.goto 4, 3) := by decide +kernel
theorem dX12_taken_41 : decode cX12_taken 41 = .ok (.iconst 0, 1) := by decide +kernel
theorem dX12_taken_42 : decode cX12_taken 42 = .ok (.invokevirtual 196, 3) := by decide +kernel
theorem dX12_taken_45 : decode cX12_taken 45 = .ok (.ireturn, 1) := by decide +kernel
theorem dX12_leads_0 : decode cX12_leads 0 = .ok (.aload_n 0, 1) := by decide +kernel
theorem dX12_leads_1 : decode cX12_leads 1 = .ok (.iconst 0, 1) := by decide +kernel
theorem dX12_leads_2 : decode cX12_leads 2 = .ok (.putfield 190, 3) := by decide +kernel
theorem dX12_leads_5 : decode cX12_leads 5 = .ok (.aload_n 0, 1) := by decide +kernel
theorem dX12_leads_6 : decode cX12_leads 6 = .ok (.iload_n 1, 1) := by decide +kernel
theorem dX12_leads_7 : decode cX12_leads 7 = .ok (.invokevirtual 561, 3) := by decide +kernel
theorem dX12_leads_10 : decode cX12_leads 10 = .ok (.ifCond .ne 10, 3) := by decide +kernel
theorem dX12_leads_13 : decode cX12_leads 13 = .ok (.aload_n 0, 1) := by decide +kernel
theorem dX12_leads_14 : decode cX12_leads 14 = .ok (.iconst 1, 1) := by decide +kernel
theorem dX12_leads_15 : decode cX12_leads 15 = .ok (.invokevirtual 426, 3) := by decide +kernel
theorem dX12_leads_18 : decode cX12_leads 18 = .ok (.i2l, 1) := by decide +kernel
theorem dX12_leads_19 : decode cX12_leads 19 = .ok (.lreturn, 1) := by decide +kernel
theorem dX12_leads_20 : decode cX12_leads 20 = .ok (.aload_n 0, 1) := by decide +kernel
theorem dX12_leads_21 : decode cX12_leads 21 = .ok (.aload_n 0, 1) := by decide +kernel
theorem dX12_leads_22 : decode cX12_leads 22 = .ok (.iload_n 1, 1) := by decide +kernel
theorem dX12_leads_23 : decode cX12_leads 23 = .ok (.invokevirtual 629, 3) := by decide +kernel
theorem dX12_leads_26 : decode cX12_leads 26 = .ok (.invokevirtual 583, 3) := by decide +kernel
theorem dX12_leads_29 : decode cX12_leads 29 = .ok (.lreturn, 1) := by decide +kernel
theorem dX12_classOf_0 : decode cX12_classOf 0 = .ok (.aload_n 0, 1) := by decide +kernel
theorem dX12_classOf_1 : decode cX12_classOf 1 = .ok (.iconst 0, 1) := by decide +kernel
theorem dX12_classOf_2 : decode cX12_classOf 2 = .ok (.putfield 190, 3) := by decide +kernel
theorem dX12_classOf_5 : decode cX12_classOf 5 = .ok (.aload_n 0, 1) := by decide +kernel
theorem dX12_classOf_6 : decode cX12_classOf 6 = .ok (.iload_n 1, 1) := by decide +kernel
theorem dX12_classOf_7 : decode cX12_classOf 7 = .ok (.invokevirtual 561, 3) := by decide +kernel
theorem dX12_classOf_10 : decode cX12_classOf 10 = .ok (.ifCond .ne 9, 3) := by decide +kernel
theorem dX12_classOf_13 : decode cX12_classOf 13 = .ok (.aload_n 0, 1) := by decide +kernel
theorem dX12_classOf_14 : decode cX12_classOf 14 = .ok (.iconst 1, 1) := by decide +kernel
theorem dX12_classOf_15 : decode cX12_classOf 15 = .ok (.invokevirtual 426, 3) := by decide +kernel
theorem dX12_classOf_18 : decode cX12_classOf 18 = .ok (.ireturn, 1) := by decide +kernel
theorem dX12_classOf_19 : decode cX12_classOf 19 = .ok (.aload_n 0, 1) := by decide +kernel
theorem dX12_classOf_20 : decode cX12_classOf 20 = .ok (.iload_n 1, 1) := by decide +kernel
theorem dX12_classOf_21 : decode cX12_classOf 21 = .ok (.iconst 0, 1) := by decide +kernel
theorem dX12_classOf_22 : decode cX12_classOf 22 = .ok (.invokevirtual 568, 3) := by decide +kernel
theorem dX12_classOf_25 : decode cX12_classOf 25 = .ok (.aload_n 0, 1) := by decide +kernel
theorem dX12_classOf_26 : decode cX12_classOf 26 = .ok (.aload_n 0, 1) := by decide +kernel
theorem dX12_classOf_27 : decode cX12_classOf 27 = .ok (.getfield 145, 3) := by decide +kernel
theorem dX12_classOf_30 : decode cX12_classOf 30 = .ok (.aload_n 0, 1) := by decide +kernel
theorem dX12_classOf_31 : decode cX12_classOf 31 = .ok (.iconst 0, 1) := by decide +kernel
theorem dX12_classOf_32 : decode cX12_classOf 32 = .ok (.aload_n 0, 1) := by decide +kernel
theorem dX12_classOf_33 : decode cX12_classOf 33 = .ok (.getfield 133, 3) := by decide +kernel
theorem dX12_classOf_36 : decode cX12_classOf 36 = .ok (.iconst 0, 1) := by decide +kernel
theorem dX12_classOf_37 : decode cX12_classOf 37 = .ok (.iaload, 1) := by decide +kernel
theorem dX12_classOf_38 : decode cX12_classOf 38 = .ok (.aload_n 0, 1) := by decide +kernel
theorem dX12_classOf_39 : decode cX12_classOf 39 = .ok (.iload_n 1, 1) := by decide +kernel
theorem dX12_classOf_40 : decode cX12_classOf 40 = .ok (.invokevirtual 629, 3) := by decide +kernel
theorem dX12_classOf_43 : decode cX12_classOf 43 = .ok (.invokevirtual 538, 3) := by decide +kernel
theorem dX12_classOf_46 : decode cX12_classOf 46 = .ok (.iaload, 1) := by decide +kernel
theorem dX12_classOf_47 : decode cX12_classOf 47 = .ok (.invokevirtual 196, 3) := by decide +kernel
theorem dX12_classOf_50 : decode cX12_classOf 50 = .ok (.ireturn, 1) := by decide +kernel
theorem dX12_width_0 : decode cX12_width 0 = .ok (.aload_n 0, 1) := by decide +kernel
theorem dX12_width_1 : decode cX12_width 1 = .ok (.iload_n 1, 1) := by decide +kernel
theorem dX12_width_2 : decode cX12_width 2 = .ok (.iload_n 2, 1) := by decide +kernel
theorem dX12_width_3 : decode cX12_width 3 = .ok (.invokevirtual 571, 3) := by decide +kernel
theorem dX12_width_6 : decode cX12_width 6 = .ok (.aload_n 0, 1) := by decide +kernel
theorem dX12_width_7 : decode cX12_width 7 = .ok (.getfield 106, 3) := by decide +kernel
theorem dX12_width_10 : decode cX12_width 10 = .ok (.iload_n 1, 1) := by decide +kernel
theorem dX12_width_11 : decode cX12_width 11 = .ok (.sipush 128, 3) := by decide +kernel
theorem dX12_width_14 : decode cX12_width 14 = .ok (.imul, 1) := by decide +kernel
theorem dX12_width_15 : decode cX12_width 15 = .ok (.iload_n 2, 1) := by decide +kernel
theorem dX12_width_16 : decode cX12_width 16 = .ok (.iadd, 1) := by decide +kernel
theorem dX12_width_17 : decode cX12_width 17 = .ok (.iaload, 1) := by decide +kernel
theorem dX12_width_18 : decode cX12_width 18 = .ok (.isub, 1) := by decide +kernel
theorem dX12_width_19 : decode cX12_width 19 = .ok (.ireturn, 1) := by decide +kernel
theorem dX12_counts_0 : decode cX12_counts 0 = .ok (.aload_n 0, 1) := by decide +kernel
theorem dX12_counts_1 : decode cX12_counts 1 = .ok (.iload_n 1, 1) := by decide +kernel
theorem dX12_counts_2 : decode cX12_counts 2 = .ok (.iconst 0, 1) := by decide +kernel
theorem dX12_counts_3 : decode cX12_counts 3 = .ok (.invokevirtual 521, 3) := by decide +kernel
theorem dX12_counts_6 : decode cX12_counts 6 = .ok (.pop, 1) := by decide +kernel
theorem dX12_counts_7 : decode cX12_counts 7 = .ok (.iconst 0, 1) := by decide +kernel
theorem dX12_counts_8 : decode cX12_counts 8 = .ok (.istore_n 2, 1) := by decide +kernel
theorem dX12_counts_9 : decode cX12_counts 9 = .ok (.iload_n 2, 1) := by decide +kernel
theorem dX12_counts_10 : decode cX12_counts 10 = .ok (.iconst 3, 1) := by decide +kernel
theorem dX12_counts_11 : decode cX12_counts 11 = .ok (.if_icmp .gt 67, 3) := by decide +kernel
theorem dX12_counts_14 : decode cX12_counts 14 = .ok (.iconst 0, 1) := by decide +kernel
theorem dX12_counts_15 : decode cX12_counts 15 = .ok (.istore_n 3, 1) := by decide +kernel
theorem dX12_counts_16 : decode cX12_counts 16 = .ok (.iload_n 3, 1) := by decide +kernel
theorem dX12_counts_17 : decode cX12_counts 17 = .ok (.aload_n 0, 1) := by decide +kernel
theorem dX12_counts_18 : decode cX12_counts 18 = .ok (.getfield 133, 3) := by decide +kernel
theorem dX12_counts_21 : decode cX12_counts 21 = .ok (.iconst 0, 1) := by decide +kernel
theorem dX12_counts_22 : decode cX12_counts 22 = .ok (.iaload, 1) := by decide +kernel
theorem dX12_counts_23 : decode cX12_counts 23 = .ok (.if_icmp .ge 49, 3) := by decide +kernel
theorem dX12_counts_26 : decode cX12_counts 26 = .ok (.aload_n 0, 1) := by decide +kernel
theorem dX12_counts_27 : decode cX12_counts 27 = .ok (.getfield 160, 3) := by decide +kernel
theorem dX12_counts_30 : decode cX12_counts 30 = .ok (.iload_n 2, 1) := by decide +kernel
theorem dX12_counts_31 : decode cX12_counts 31 = .ok (.bipush 40, 2) := by decide +kernel
theorem dX12_counts_33 : decode cX12_counts 33 = .ok (.imul, 1) := by decide +kernel
theorem dX12_counts_34 : decode cX12_counts 34 = .ok (.iload_n 3, 1) := by decide +kernel
theorem dX12_counts_35 : decode cX12_counts 35 = .ok (.iadd, 1) := by decide +kernel
theorem dX12_counts_36 : decode cX12_counts 36 = .ok (.iload_n 2, 1) := by decide +kernel
theorem dX12_counts_37 : decode cX12_counts 37 = .ok (.ifCond .ne 21, 3) := by decide +kernel
theorem dX12_counts_40 : decode cX12_counts 40 = .ok (.aload_n 0, 1) := by decide +kernel
theorem dX12_counts_41 : decode cX12_counts 41 = .ok (.iload_n 1, 1) := by decide +kernel
theorem dX12_counts_42 : decode cX12_counts 42 = .ok (.iconst 0, 1) := by decide +kernel
theorem dX12_counts_43 : decode cX12_counts 43 = .ok (.iload_n 3, 1) := by decide +kernel
theorem dX12_counts_44 : decode cX12_counts 44 = .ok (.invokevirtual 542, 3) := by decide +kernel
theorem dX12_counts_47 : decode cX12_counts 47 = .ok (.ifCond .eq 7, 3) := by decide +kernel
theorem dX12_counts_50 : decode cX12_counts 50 = .ok (.lconst 1, 1) := by decide +kernel
theorem dX12_counts_51 : decode cX12_counts 51 = .ok (.goto 14, 3) := by decide +kernel
theorem dX12_counts_54 : decode cX12_counts 54 = .ok (.lconst 0, 1) := by decide +kernel
theorem dX12_counts_55 : decode cX12_counts 55 = .ok (.goto 10, 3) := by decide +kernel
theorem dX12_counts_58 : decode cX12_counts 58 = .ok (.aload_n 0, 1) := by decide +kernel
theorem dX12_counts_59 : decode cX12_counts 59 = .ok (.iload_n 1, 1) := by decide +kernel
theorem dX12_counts_60 : decode cX12_counts 60 = .ok (.iload_n 2, 1) := by decide +kernel
theorem dX12_counts_61 : decode cX12_counts 61 = .ok (.iload_n 3, 1) := by decide +kernel
theorem dX12_counts_62 : decode cX12_counts 62 = .ok (.invokevirtual 633, 3) := by decide +kernel
theorem dX12_counts_65 : decode cX12_counts 65 = .ok (.lastore, 1) := by decide +kernel
theorem dX12_counts_66 : decode cX12_counts 66 = .ok (.iinc 3 1, 3) := by decide +kernel
theorem dX12_counts_69 : decode cX12_counts 69 = .ok (.goto (-53), 3) := by decide +kernel
theorem dX12_counts_72 : decode cX12_counts 72 = .ok (.iinc 2 1, 3) := by decide +kernel
theorem dX12_counts_75 : decode cX12_counts 75 = .ok (.goto (-66), 3) := by decide +kernel
theorem dX12_counts_78 : decode cX12_counts 78 = .ok (.return_, 1) := by decide +kernel
theorem dX12_waysFrom_0 : decode cX12_waysFrom 0 = .ok (.lconst 0, 1) := by decide +kernel
theorem dX12_waysFrom_1 : decode cX12_waysFrom 1 = .ok (.lstore 4, 2) := by decide +kernel
theorem dX12_waysFrom_3 : decode cX12_waysFrom 3 = .ok (.iconst 0, 1) := by decide +kernel
theorem dX12_waysFrom_4 : decode cX12_waysFrom 4 = .ok (.istore 6, 2) := by decide +kernel
theorem dX12_waysFrom_6 : decode cX12_waysFrom 6 = .ok (.iload 6, 2) := by decide +kernel
theorem dX12_waysFrom_8 : decode cX12_waysFrom 8 = .ok (.aload_n 0, 1) := by decide +kernel
theorem dX12_waysFrom_9 : decode cX12_waysFrom 9 = .ok (.getfield 103, 3) := by decide +kernel
theorem dX12_waysFrom_12 : decode cX12_waysFrom 12 = .ok (.iload_n 1, 1) := by decide +kernel
theorem dX12_waysFrom_13 : decode cX12_waysFrom 13 = .ok (.iaload, 1) := by decide +kernel
theorem dX12_waysFrom_14 : decode cX12_waysFrom 14 = .ok (.if_icmp .ge 23, 3) := by decide +kernel
theorem dX12_waysFrom_17 : decode cX12_waysFrom 17 = .ok (.lload 4, 2) := by decide +kernel
theorem dX12_waysFrom_19 : decode cX12_waysFrom 19 = .ok (.aload_n 0, 1) := by decide +kernel
theorem dX12_waysFrom_20 : decode cX12_waysFrom 20 = .ok (.iload_n 1, 1) := by decide +kernel
theorem dX12_waysFrom_21 : decode cX12_waysFrom 21 = .ok (.iload_n 2, 1) := by decide +kernel
theorem dX12_waysFrom_22 : decode cX12_waysFrom 22 = .ok (.iload_n 3, 1) := by decide +kernel
theorem dX12_waysFrom_23 : decode cX12_waysFrom 23 = .ok (.iload 6, 2) := by decide +kernel
theorem dX12_waysFrom_25 : decode cX12_waysFrom 25 = .ok (.invokevirtual 637, 3) := by decide +kernel
theorem dX12_waysFrom_28 : decode cX12_waysFrom 28 = .ok (.ladd, 1) := by decide +kernel
theorem dX12_waysFrom_29 : decode cX12_waysFrom 29 = .ok (.lstore 4, 2) := by decide +kernel
theorem dX12_waysFrom_31 : decode cX12_waysFrom 31 = .ok (.iinc 6 1, 3) := by decide +kernel
theorem dX12_waysFrom_34 : decode cX12_waysFrom 34 = .ok (.goto (-28), 3) := by decide +kernel
theorem dX12_waysFrom_37 : decode cX12_waysFrom 37 = .ok (.lload 4, 2) := by decide +kernel
theorem dX12_waysFrom_39 : decode cX12_waysFrom 39 = .ok (.lreturn, 1) := by decide +kernel
theorem dX12_waysBy_0 : decode cX12_waysBy 0 = .ok (.aload_n 0, 1) := by decide +kernel
theorem dX12_waysBy_1 : decode cX12_waysBy 1 = .ok (.iload_n 1, 1) := by decide +kernel
theorem dX12_waysBy_2 : decode cX12_waysBy 2 = .ok (.iload 4, 2) := by decide +kernel
theorem dX12_waysBy_4 : decode cX12_waysBy 4 = .ok (.invokevirtual 641, 3) := by decide +kernel
theorem dX12_waysBy_7 : decode cX12_waysBy 7 = .ok (.i2l, 1) := by decide +kernel
theorem dX12_waysBy_8 : decode cX12_waysBy 8 = .ok (.aload_n 0, 1) := by decide +kernel
theorem dX12_waysBy_9 : decode cX12_waysBy 9 = .ok (.getfield 160, 3) := by decide +kernel
theorem dX12_waysBy_12 : decode cX12_waysBy 12 = .ok (.iload_n 2, 1) := by decide +kernel
theorem dX12_waysBy_13 : decode cX12_waysBy 13 = .ok (.iconst 1, 1) := by decide +kernel
theorem dX12_waysBy_14 : decode cX12_waysBy 14 = .ok (.isub, 1) := by decide +kernel
theorem dX12_waysBy_15 : decode cX12_waysBy 15 = .ok (.bipush 40, 2) := by decide +kernel
theorem dX12_waysBy_17 : decode cX12_waysBy 17 = .ok (.imul, 1) := by decide +kernel
theorem dX12_waysBy_18 : decode cX12_waysBy 18 = .ok (.aload_n 0, 1) := by decide +kernel
theorem dX12_waysBy_19 : decode cX12_waysBy 19 = .ok (.iconst 0, 1) := by decide +kernel
theorem dX12_waysBy_20 : decode cX12_waysBy 20 = .ok (.iload_n 3, 1) := by decide +kernel
theorem dX12_waysBy_21 : decode cX12_waysBy 21 = .ok (.iload 4, 2) := by decide +kernel
theorem dX12_waysBy_23 : decode cX12_waysBy 23 = .ok (.invokevirtual 555, 3) := by decide +kernel
theorem dX12_waysBy_26 : decode cX12_waysBy 26 = .ok (.iadd, 1) := by decide +kernel
theorem dX12_waysBy_27 : decode cX12_waysBy 27 = .ok (.laload, 1) := by decide +kernel
theorem dX12_waysBy_28 : decode cX12_waysBy 28 = .ok (.lmul, 1) := by decide +kernel
theorem dX12_waysBy_29 : decode cX12_waysBy 29 = .ok (.lreturn, 1) := by decide +kernel
theorem dX12_place_0 : decode cX12_place 0 = .ok (.aload_n 0, 1) := by decide +kernel
theorem dX12_place_1 : decode cX12_place 1 = .ok (.iconst 0, 1) := by decide +kernel
theorem dX12_place_2 : decode cX12_place 2 = .ok (.putfield 190, 3) := by decide +kernel
theorem dX12_place_5 : decode cX12_place 5 = .ok (.aload_n 0, 1) := by decide +kernel
theorem dX12_place_6 : decode cX12_place 6 = .ok (.iload_n 1, 1) := by decide +kernel
theorem dX12_place_7 : decode cX12_place 7 = .ok (.invokevirtual 561, 3) := by decide +kernel
theorem dX12_place_10 : decode cX12_place 10 = .ok (.ifCond .ne 10, 3) := by decide +kernel
theorem dX12_place_13 : decode cX12_place 13 = .ok (.aload_n 0, 1) := by decide +kernel
theorem dX12_place_14 : decode cX12_place 14 = .ok (.iconst 1, 1) := by decide +kernel
theorem dX12_place_15 : decode cX12_place 15 = .ok (.invokevirtual 426, 3) := by decide +kernel
theorem dX12_place_18 : decode cX12_place 18 = .ok (.i2l, 1) := by decide +kernel
theorem dX12_place_19 : decode cX12_place 19 = .ok (.lreturn, 1) := by decide +kernel
theorem dX12_place_20 : decode cX12_place 20 = .ok (.aload_n 0, 1) := by decide +kernel
theorem dX12_place_21 : decode cX12_place 21 = .ok (.getfield 626, 3) := by decide +kernel
theorem dX12_place_24 : decode cX12_place 24 = .ok (.iconst 3, 1) := by decide +kernel
theorem dX12_place_25 : decode cX12_place 25 = .ok (.if_icmp .le 10, 3) := by decide +kernel
theorem dX12_place_28 : decode cX12_place 28 = .ok (.aload_n 0, 1) := by decide +kernel
theorem dX12_place_29 : decode cX12_place 29 = .ok (.iconst 5, 1) := by decide +kernel
theorem dX12_place_30 : decode cX12_place 30 = .ok (.invokevirtual 426, 3) := by decide +kernel
theorem dX12_place_33 : decode cX12_place 33 = .ok (.i2l, 1) := by decide +kernel
theorem dX12_place_34 : decode cX12_place 34 = .ok (.lreturn, 1) := by decide +kernel
theorem dX12_place_35 : decode cX12_place 35 = .ok (.aload_n 0, 1) := by decide +kernel
theorem dX12_place_36 : decode cX12_place 36 = .ok (.iload_n 1, 1) := by decide +kernel
theorem dX12_place_37 : decode cX12_place 37 = .ok (.invokevirtual 644, 3) := by decide +kernel
theorem dX12_place_40 : decode cX12_place 40 = .ok (.lconst 0, 1) := by decide +kernel
theorem dX12_place_41 : decode cX12_place 41 = .ok (.lstore_n 2, 1) := by decide +kernel
theorem dX12_place_42 : decode cX12_place 42 = .ok (.iconst 0, 1) := by decide +kernel
theorem dX12_place_43 : decode cX12_place 43 = .ok (.istore 4, 2) := by decide +kernel
theorem dX12_place_45 : decode cX12_place 45 = .ok (.iconst 0, 1) := by decide +kernel
theorem dX12_place_46 : decode cX12_place 46 = .ok (.istore 5, 2) := by decide +kernel
theorem dX12_place_48 : decode cX12_place 48 = .ok (.iload 5, 2) := by decide +kernel
theorem dX12_place_50 : decode cX12_place 50 = .ok (.aload_n 0, 1) := by decide +kernel
theorem dX12_place_51 : decode cX12_place 51 = .ok (.getfield 626, 3) := by decide +kernel
theorem dX12_place_54 : decode cX12_place 54 = .ok (.if_icmp .ge 114, 3) := by decide +kernel
theorem dX12_place_57 : decode cX12_place 57 = .ok (.aload_n 0, 1) := by decide +kernel
theorem dX12_place_58 : decode cX12_place 58 = .ok (.getfield 626, 3) := by decide +kernel
theorem dX12_place_61 : decode cX12_place 61 = .ok (.iload 5, 2) := by decide +kernel
theorem dX12_place_63 : decode cX12_place 63 = .ok (.isub, 1) := by decide +kernel
theorem dX12_place_64 : decode cX12_place 64 = .ok (.istore 6, 2) := by decide +kernel
theorem dX12_place_66 : decode cX12_place 66 = .ok (.aload_n 0, 1) := by decide +kernel
theorem dX12_place_67 : decode cX12_place 67 = .ok (.iload_n 1, 1) := by decide +kernel
theorem dX12_place_68 : decode cX12_place 68 = .ok (.aload_n 0, 1) := by decide +kernel
theorem dX12_place_69 : decode cX12_place 69 = .ok (.getfield 157, 3) := by decide +kernel
theorem dX12_place_72 : decode cX12_place 72 = .ok (.iload 5, 2) := by decide +kernel
theorem dX12_place_74 : decode cX12_place 74 = .ok (.iaload, 1) := by decide +kernel
theorem dX12_place_75 : decode cX12_place 75 = .ok (.invokevirtual 524, 3) := by decide +kernel
theorem dX12_place_78 : decode cX12_place 78 = .ok (.istore 7, 2) := by decide +kernel
theorem dX12_place_80 : decode cX12_place 80 = .ok (.iconst 0, 1) := by decide +kernel
theorem dX12_place_81 : decode cX12_place 81 = .ok (.istore 8, 2) := by decide +kernel
theorem dX12_place_83 : decode cX12_place 83 = .ok (.iload 8, 2) := by decide +kernel
theorem dX12_place_85 : decode cX12_place 85 = .ok (.iload 7, 2) := by decide +kernel
theorem dX12_place_87 : decode cX12_place 87 = .ok (.if_icmp .ge 23, 3) := by decide +kernel
theorem dX12_place_90 : decode cX12_place 90 = .ok (.lload_n 2, 1) := by decide +kernel
theorem dX12_place_91 : decode cX12_place 91 = .ok (.aload_n 0, 1) := by decide +kernel
theorem dX12_place_92 : decode cX12_place 92 = .ok (.iload_n 1, 1) := by decide +kernel
theorem dX12_place_93 : decode cX12_place 93 = .ok (.iload 6, 2) := by decide +kernel
theorem dX12_place_95 : decode cX12_place 95 = .ok (.iload 4, 2) := by decide +kernel
theorem dX12_place_97 : decode cX12_place 97 = .ok (.iload 8, 2) := by decide +kernel
theorem dX12_place_99 : decode cX12_place 99 = .ok (.invokevirtual 637, 3) := by decide +kernel
theorem dX12_place_102 : decode cX12_place 102 = .ok (.ladd, 1) := by decide +kernel
theorem dX12_place_103 : decode cX12_place 103 = .ok (.lstore_n 2, 1) := by decide +kernel
theorem dX12_place_104 : decode cX12_place 104 = .ok (.iinc 8 1, 3) := by decide +kernel
theorem dX12_place_107 : decode cX12_place 107 = .ok (.goto (-24), 3) := by decide +kernel
theorem dX12_place_110 : decode cX12_place 110 = .ok (.aload_n 0, 1) := by decide +kernel
theorem dX12_place_111 : decode cX12_place 111 = .ok (.iconst 0, 1) := by decide +kernel
theorem dX12_place_112 : decode cX12_place 112 = .ok (.iload 4, 2) := by decide +kernel
theorem dX12_place_114 : decode cX12_place 114 = .ok (.iload 7, 2) := by decide +kernel
theorem dX12_place_116 : decode cX12_place 116 = .ok (.invokevirtual 555, 3) := by decide +kernel
theorem dX12_place_119 : decode cX12_place 119 = .ok (.istore 4, 2) := by decide +kernel
theorem dX12_place_121 : decode cX12_place 121 = .ok (.lload_n 2, 1) := by decide +kernel
theorem dX12_place_122 : decode cX12_place 122 = .ok (.aload_n 0, 1) := by decide +kernel
theorem dX12_place_123 : decode cX12_place 123 = .ok (.getfield 157, 3) := by decide +kernel
theorem dX12_place_126 : decode cX12_place 126 = .ok (.iload 5, 2) := by decide +kernel
theorem dX12_place_128 : decode cX12_place 128 = .ok (.iaload, 1) := by decide +kernel
theorem dX12_place_129 : decode cX12_place 129 = .ok (.aload_n 0, 1) := by decide +kernel
theorem dX12_place_130 : decode cX12_place 130 = .ok (.getfield 106, 3) := by decide +kernel
theorem dX12_place_133 : decode cX12_place 133 = .ok (.iload_n 1, 1) := by decide +kernel
theorem dX12_place_134 : decode cX12_place 134 = .ok (.sipush 128, 3) := by decide +kernel
theorem dX12_place_137 : decode cX12_place 137 = .ok (.imul, 1) := by decide +kernel
theorem dX12_place_138 : decode cX12_place 138 = .ok (.iload 7, 2) := by decide +kernel
theorem dX12_place_140 : decode cX12_place 140 = .ok (.iadd, 1) := by decide +kernel
theorem dX12_place_141 : decode cX12_place 141 = .ok (.iaload, 1) := by decide +kernel
theorem dX12_place_142 : decode cX12_place 142 = .ok (.isub, 1) := by decide +kernel
theorem dX12_place_143 : decode cX12_place 143 = .ok (.i2l, 1) := by decide +kernel
theorem dX12_place_144 : decode cX12_place 144 = .ok (.aload_n 0, 1) := by decide +kernel
theorem dX12_place_145 : decode cX12_place 145 = .ok (.getfield 160, 3) := by decide +kernel
theorem dX12_place_148 : decode cX12_place 148 = .ok (.iload 6, 2) := by decide +kernel
theorem dX12_place_150 : decode cX12_place 150 = .ok (.iconst 1, 1) := by decide +kernel
theorem dX12_place_151 : decode cX12_place 151 = .ok (.isub, 1) := by decide +kernel
theorem dX12_place_152 : decode cX12_place 152 = .ok (.bipush 40, 2) := by decide +kernel
theorem dX12_place_154 : decode cX12_place 154 = .ok (.imul, 1) := by decide +kernel
theorem dX12_place_155 : decode cX12_place 155 = .ok (.iload 4, 2) := by decide +kernel
theorem dX12_place_157 : decode cX12_place 157 = .ok (.iadd, 1) := by decide +kernel
theorem dX12_place_158 : decode cX12_place 158 = .ok (.laload, 1) := by decide +kernel
theorem dX12_place_159 : decode cX12_place 159 = .ok (.lmul, 1) := by decide +kernel
theorem dX12_place_160 : decode cX12_place 160 = .ok (.ladd, 1) := by decide +kernel
theorem dX12_place_161 : decode cX12_place 161 = .ok (.lstore_n 2, 1) := by decide +kernel
theorem dX12_place_162 : decode cX12_place 162 = .ok (.iinc 5 1, 3) := by decide +kernel
theorem dX12_place_165 : decode cX12_place 165 = .ok (.goto (-117), 3) := by decide +kernel
theorem dX12_place_168 : decode cX12_place 168 = .ok (.aload_n 0, 1) := by decide +kernel
theorem dX12_place_169 : decode cX12_place 169 = .ok (.lload_n 2, 1) := by decide +kernel
theorem dX12_place_170 : decode cX12_place 170 = .ok (.invokevirtual 583, 3) := by decide +kernel
theorem dX12_place_173 : decode cX12_place 173 = .ok (.lreturn, 1) := by decide +kernel
theorem dX12_count_0 : decode cX12_count 0 = .ok (.aload_n 0, 1) := by decide +kernel
theorem dX12_count_1 : decode cX12_count 1 = .ok (.iconst 0, 1) := by decide +kernel
theorem dX12_count_2 : decode cX12_count 2 = .ok (.putfield 190, 3) := by decide +kernel
theorem dX12_count_5 : decode cX12_count 5 = .ok (.aload_n 0, 1) := by decide +kernel
theorem dX12_count_6 : decode cX12_count 6 = .ok (.iload_n 1, 1) := by decide +kernel
theorem dX12_count_7 : decode cX12_count 7 = .ok (.invokevirtual 561, 3) := by decide +kernel
theorem dX12_count_10 : decode cX12_count 10 = .ok (.ifCond .ne 10, 3) := by decide +kernel
theorem dX12_count_13 : decode cX12_count 13 = .ok (.aload_n 0, 1) := by decide +kernel
theorem dX12_count_14 : decode cX12_count 14 = .ok (.iconst 1, 1) := by decide +kernel
theorem dX12_count_15 : decode cX12_count 15 = .ok (.invokevirtual 426, 3) := by decide +kernel
theorem dX12_count_18 : decode cX12_count 18 = .ok (.i2l, 1) := by decide +kernel
theorem dX12_count_19 : decode cX12_count 19 = .ok (.lreturn, 1) := by decide +kernel
theorem dX12_count_20 : decode cX12_count 20 = .ok (.iload_n 2, 1) := by decide +kernel
theorem dX12_count_21 : decode cX12_count 21 = .ok (.iconst 0, 1) := by decide +kernel
theorem dX12_count_22 : decode cX12_count 22 = .ok (.iconst 3, 1) := by decide +kernel
theorem dX12_count_23 : decode cX12_count 23 = .ok (.invokestatic 201, 3) := by decide +kernel
theorem dX12_count_26 : decode cX12_count 26 = .ok (.ifCond .ne 10, 3) := by decide +kernel
theorem dX12_count_29 : decode cX12_count 29 = .ok (.aload_n 0, 1) := by decide +kernel
theorem dX12_count_30 : decode cX12_count 30 = .ok (.iconst 2, 1) := by decide +kernel
theorem dX12_count_31 : decode cX12_count 31 = .ok (.invokevirtual 426, 3) := by decide +kernel
theorem dX12_count_34 : decode cX12_count 34 = .ok (.i2l, 1) := by decide +kernel
theorem dX12_count_35 : decode cX12_count 35 = .ok (.lreturn, 1) := by decide +kernel
theorem dX12_count_36 : decode cX12_count 36 = .ok (.aload_n 0, 1) := by decide +kernel
theorem dX12_count_37 : decode cX12_count 37 = .ok (.iload_n 1, 1) := by decide +kernel
theorem dX12_count_38 : decode cX12_count 38 = .ok (.invokevirtual 644, 3) := by decide +kernel
theorem dX12_count_41 : decode cX12_count 41 = .ok (.aload_n 0, 1) := by decide +kernel
theorem dX12_count_42 : decode cX12_count 42 = .ok (.aload_n 0, 1) := by decide +kernel
theorem dX12_count_43 : decode cX12_count 43 = .ok (.getfield 160, 3) := by decide +kernel
theorem dX12_count_46 : decode cX12_count 46 = .ok (.iload_n 2, 1) := by decide +kernel
theorem dX12_count_47 : decode cX12_count 47 = .ok (.bipush 40, 2) := by decide +kernel
theorem dX12_count_49 : decode cX12_count 49 = .ok (.imul, 1) := by decide +kernel
theorem dX12_count_50 : decode cX12_count 50 = .ok (.laload, 1) := by decide +kernel
theorem dX12_count_51 : decode cX12_count 51 = .ok (.invokevirtual 583, 3) := by decide +kernel
theorem dX12_count_54 : decode cX12_count 54 = .ok (.lreturn, 1) := by decide +kernel
theorem dX12_at_0 : decode cX12_at 0 = .ok (.aload_n 0, 1) := by decide +kernel
theorem dX12_at_1 : decode cX12_at 1 = .ok (.iconst 0, 1) := by decide +kernel
theorem dX12_at_2 : decode cX12_at 2 = .ok (.putfield 190, 3) := by decide +kernel
theorem dX12_at_5 : decode cX12_at 5 = .ok (.aload_n 0, 1) := by decide +kernel
theorem dX12_at_6 : decode cX12_at 6 = .ok (.iload_n 1, 1) := by decide +kernel
theorem dX12_at_7 : decode cX12_at 7 = .ok (.invokevirtual 561, 3) := by decide +kernel
theorem dX12_at_10 : decode cX12_at 10 = .ok (.ifCond .ne 9, 3) := by decide +kernel
theorem dX12_at_13 : decode cX12_at 13 = .ok (.aload_n 0, 1) := by decide +kernel
theorem dX12_at_14 : decode cX12_at 14 = .ok (.iconst 1, 1) := by decide +kernel
theorem dX12_at_15 : decode cX12_at 15 = .ok (.invokevirtual 426, 3) := by decide +kernel
theorem dX12_at_18 : decode cX12_at 18 = .ok (.ireturn, 1) := by decide +kernel
theorem dX12_at_19 : decode cX12_at 19 = .ok (.iload_n 2, 1) := by decide +kernel
theorem dX12_at_20 : decode cX12_at 20 = .ok (.iconst 1, 1) := by decide +kernel
theorem dX12_at_21 : decode cX12_at 21 = .ok (.iconst 3, 1) := by decide +kernel
theorem dX12_at_22 : decode cX12_at 22 = .ok (.invokestatic 201, 3) := by decide +kernel
theorem dX12_at_25 : decode cX12_at 25 = .ok (.ifCond .ne 9, 3) := by decide +kernel
theorem dX12_at_28 : decode cX12_at 28 = .ok (.aload_n 0, 1) := by decide +kernel
theorem dX12_at_29 : decode cX12_at 29 = .ok (.iconst 2, 1) := by decide +kernel
theorem dX12_at_30 : decode cX12_at 30 = .ok (.invokevirtual 426, 3) := by decide +kernel
theorem dX12_at_33 : decode cX12_at 33 = .ok (.ireturn, 1) := by decide +kernel
theorem dX12_at_34 : decode cX12_at 34 = .ok (.aload_n 0, 1) := by decide +kernel
theorem dX12_at_35 : decode cX12_at 35 = .ok (.iload_n 1, 1) := by decide +kernel
theorem dX12_at_36 : decode cX12_at 36 = .ok (.invokevirtual 644, 3) := by decide +kernel
theorem dX12_at_39 : decode cX12_at 39 = .ok (.lload_n 3, 1) := by decide +kernel
theorem dX12_at_40 : decode cX12_at 40 = .ok (.lconst 0, 1) := by decide +kernel
theorem dX12_at_41 : decode cX12_at 41 = .ok (.lcmp, 1) := by decide +kernel
theorem dX12_at_42 : decode cX12_at 42 = .ok (.ifCond .lt 28, 3) := by decide +kernel
theorem dX12_at_45 : decode cX12_at 45 = .ok (.lload_n 3, 1) := by decide +kernel
theorem dX12_at_46 : decode cX12_at 46 = .ok (.aload_n 0, 1) := by decide +kernel
theorem dX12_at_47 : decode cX12_at 47 = .ok (.getfield 160, 3) := by decide +kernel
theorem dX12_at_50 : decode cX12_at 50 = .ok (.iload_n 2, 1) := by decide +kernel
theorem dX12_at_51 : decode cX12_at 51 = .ok (.bipush 40, 2) := by decide +kernel
theorem dX12_at_53 : decode cX12_at 53 = .ok (.imul, 1) := by decide +kernel
theorem dX12_at_54 : decode cX12_at 54 = .ok (.laload, 1) := by decide +kernel
theorem dX12_at_55 : decode cX12_at 55 = .ok (.lcmp, 1) := by decide +kernel
theorem dX12_at_56 : decode cX12_at 56 = .ok (.ifCond .ge 14, 3) := by decide +kernel
theorem dX12_at_59 : decode cX12_at 59 = .ok (.iload 5, 2) := by decide +kernel
theorem dX12_at_61 : decode cX12_at 61 = .ok (.ifCond .lt 9, 3) := by decide +kernel
theorem dX12_at_64 : decode cX12_at 64 = .ok (.iload 5, 2) := by decide +kernel
theorem dX12_at_66 : decode cX12_at 66 = .ok (.iload_n 2, 1) := by decide +kernel
theorem dX12_at_67 : decode cX12_at 67 = .ok (.if_icmp .lt 9, 3) := by decide +kernel
theorem dX12_at_70 : decode cX12_at 70 = .ok (.aload_n 0, 1) := by decide +kernel
theorem dX12_at_71 : decode cX12_at 71 = .ok (.iconst 1, 1) := by decide +kernel
theorem dX12_at_72 : decode cX12_at 72 = .ok (.invokevirtual 426, 3) := by decide +kernel
theorem dX12_at_75 : decode cX12_at 75 = .ok (.ireturn, 1) := by decide +kernel
theorem dX12_at_76 : decode cX12_at 76 = .ok (.lload_n 3, 1) := by decide +kernel
theorem dX12_at_77 : decode cX12_at 77 = .ok (.lstore 6, 2) := by decide +kernel
theorem dX12_at_79 : decode cX12_at 79 = .ok (.iconst 0, 1) := by decide +kernel
theorem dX12_at_80 : decode cX12_at 80 = .ok (.istore 8, 2) := by decide +kernel
theorem dX12_at_82 : decode cX12_at 82 = .ok (.iconst (-1), 1) := by decide +kernel
theorem dX12_at_83 : decode cX12_at 83 = .ok (.istore 9, 2) := by decide +kernel
theorem dX12_at_85 : decode cX12_at 85 = .ok (.iconst 0, 1) := by decide +kernel
theorem dX12_at_86 : decode cX12_at 86 = .ok (.istore 10, 2) := by decide +kernel
theorem dX12_at_88 : decode cX12_at 88 = .ok (.iload 10, 2) := by decide +kernel
theorem dX12_at_90 : decode cX12_at 90 = .ok (.iload 5, 2) := by decide +kernel
theorem dX12_at_92 : decode cX12_at 92 = .ok (.if_icmp .gt 114, 3) := by decide +kernel
theorem dX12_at_95 : decode cX12_at 95 = .ok (.iconst 0, 1) := by decide +kernel
theorem dX12_at_96 : decode cX12_at 96 = .ok (.istore 11, 2) := by decide +kernel
theorem dX12_at_98 : decode cX12_at 98 = .ok (.lload 6, 2) := by decide +kernel
theorem dX12_at_100 : decode cX12_at 100 = .ok (.aload_n 0, 1) := by decide +kernel
theorem dX12_at_101 : decode cX12_at 101 = .ok (.iload_n 1, 1) := by decide +kernel
theorem dX12_at_102 : decode cX12_at 102 = .ok (.iload_n 2, 1) := by decide +kernel
theorem dX12_at_103 : decode cX12_at 103 = .ok (.iload 10, 2) := by decide +kernel
theorem dX12_at_105 : decode cX12_at 105 = .ok (.isub, 1) := by decide +kernel
theorem dX12_at_106 : decode cX12_at 106 = .ok (.iload 8, 2) := by decide +kernel
theorem dX12_at_108 : decode cX12_at 108 = .ok (.iload 11, 2) := by decide +kernel
theorem dX12_at_110 : decode cX12_at 110 = .ok (.invokevirtual 637, 3) := by decide +kernel
theorem dX12_at_113 : decode cX12_at 113 = .ok (.lcmp, 1) := by decide +kernel
theorem dX12_at_114 : decode cX12_at 114 = .ok (.ifCond .lt 27, 3) := by decide +kernel
theorem dX12_at_117 : decode cX12_at 117 = .ok (.lload 6, 2) := by decide +kernel
theorem dX12_at_119 : decode cX12_at 119 = .ok (.aload_n 0, 1) := by decide +kernel
theorem dX12_at_120 : decode cX12_at 120 = .ok (.iload_n 1, 1) := by decide +kernel
theorem dX12_at_121 : decode cX12_at 121 = .ok (.iload_n 2, 1) := by decide +kernel
theorem dX12_at_122 : decode cX12_at 122 = .ok (.iload 10, 2) := by decide +kernel
theorem dX12_at_124 : decode cX12_at 124 = .ok (.isub, 1) := by decide +kernel
theorem dX12_at_125 : decode cX12_at 125 = .ok (.iload 8, 2) := by decide +kernel
theorem dX12_at_127 : decode cX12_at 127 = .ok (.iload 11, 2) := by decide +kernel
theorem dX12_at_129 : decode cX12_at 129 = .ok (.invokevirtual 637, 3) := by decide +kernel
theorem dX12_at_132 : decode cX12_at 132 = .ok (.lsub, 1) := by decide +kernel
theorem dX12_at_133 : decode cX12_at 133 = .ok (.lstore 6, 2) := by decide +kernel
theorem dX12_at_135 : decode cX12_at 135 = .ok (.iinc 11 1, 3) := by decide +kernel
theorem dX12_at_138 : decode cX12_at 138 = .ok (.goto (-40), 3) := by decide +kernel
theorem dX12_at_141 : decode cX12_at 141 = .ok (.aload_n 0, 1) := by decide +kernel
theorem dX12_at_142 : decode cX12_at 142 = .ok (.iconst 0, 1) := by decide +kernel
theorem dX12_at_143 : decode cX12_at 143 = .ok (.iload 8, 2) := by decide +kernel
theorem dX12_at_145 : decode cX12_at 145 = .ok (.iload 11, 2) := by decide +kernel
theorem dX12_at_147 : decode cX12_at 147 = .ok (.invokevirtual 555, 3) := by decide +kernel
theorem dX12_at_150 : decode cX12_at 150 = .ok (.istore 8, 2) := by decide +kernel
theorem dX12_at_152 : decode cX12_at 152 = .ok (.aload_n 0, 1) := by decide +kernel
theorem dX12_at_153 : decode cX12_at 153 = .ok (.getfield 160, 3) := by decide +kernel
theorem dX12_at_156 : decode cX12_at 156 = .ok (.iload_n 2, 1) := by decide +kernel
theorem dX12_at_157 : decode cX12_at 157 = .ok (.iload 10, 2) := by decide +kernel
theorem dX12_at_159 : decode cX12_at 159 = .ok (.isub, 1) := by decide +kernel
theorem dX12_at_160 : decode cX12_at 160 = .ok (.iconst 1, 1) := by decide +kernel
theorem dX12_at_161 : decode cX12_at 161 = .ok (.isub, 1) := by decide +kernel
theorem dX12_at_162 : decode cX12_at 162 = .ok (.bipush 40, 2) := by decide +kernel
theorem dX12_at_164 : decode cX12_at 164 = .ok (.imul, 1) := by decide +kernel
theorem dX12_at_165 : decode cX12_at 165 = .ok (.iload 8, 2) := by decide +kernel
theorem dX12_at_167 : decode cX12_at 167 = .ok (.iadd, 1) := by decide +kernel
theorem dX12_at_168 : decode cX12_at 168 = .ok (.laload, 1) := by decide +kernel
theorem dX12_at_169 : decode cX12_at 169 = .ok (.lstore 12, 2) := by decide +kernel
theorem dX12_at_171 : decode cX12_at 171 = .ok (.aload_n 0, 1) := by decide +kernel
theorem dX12_at_172 : decode cX12_at 172 = .ok (.getfield 106, 3) := by decide +kernel
theorem dX12_at_175 : decode cX12_at 175 = .ok (.iload_n 1, 1) := by decide +kernel
theorem dX12_at_176 : decode cX12_at 176 = .ok (.sipush 128, 3) := by decide +kernel
theorem dX12_at_179 : decode cX12_at 179 = .ok (.imul, 1) := by decide +kernel
theorem dX12_at_180 : decode cX12_at 180 = .ok (.iload 11, 2) := by decide +kernel
theorem dX12_at_182 : decode cX12_at 182 = .ok (.iadd, 1) := by decide +kernel
theorem dX12_at_183 : decode cX12_at 183 = .ok (.iaload, 1) := by decide +kernel
theorem dX12_at_184 : decode cX12_at 184 = .ok (.lload 6, 2) := by decide +kernel
theorem dX12_at_186 : decode cX12_at 186 = .ok (.lload 12, 2) := by decide +kernel
theorem dX12_at_188 : decode cX12_at 188 = .ok (.ldiv, 1) := by decide +kernel
theorem dX12_at_189 : decode cX12_at 189 = .ok (.l2i, 1) := by decide +kernel
theorem dX12_at_190 : decode cX12_at 190 = .ok (.iadd, 1) := by decide +kernel
theorem dX12_at_191 : decode cX12_at 191 = .ok (.istore 9, 2) := by decide +kernel
theorem dX12_at_193 : decode cX12_at 193 = .ok (.lload 6, 2) := by decide +kernel
theorem dX12_at_195 : decode cX12_at 195 = .ok (.lload 12, 2) := by decide +kernel
theorem dX12_at_197 : decode cX12_at 197 = .ok (.lrem, 1) := by decide +kernel
theorem dX12_at_198 : decode cX12_at 198 = .ok (.lstore 6, 2) := by decide +kernel
theorem dX12_at_200 : decode cX12_at 200 = .ok (.iinc 10 1, 3) := by decide +kernel
theorem dX12_at_203 : decode cX12_at 203 = .ok (.goto (-115), 3) := by decide +kernel
theorem dX12_at_206 : decode cX12_at 206 = .ok (.aload_n 0, 1) := by decide +kernel
theorem dX12_at_207 : decode cX12_at 207 = .ok (.iload 9, 2) := by decide +kernel
theorem dX12_at_209 : decode cX12_at 209 = .ok (.invokevirtual 196, 3) := by decide +kernel
theorem dX12_at_212 : decode cX12_at 212 = .ok (.ireturn, 1) := by decide +kernel
