theorem dX0_readBody_0 : decode cX0_readBody 0 = .ok (.aload_n 0, 1) := by decide +kernel
theorem dX0_readBody_1 : decode cX0_readBody 1 = .ok (.getfield 40, 3) := by decide +kernel
theorem dX0_readBody_4 : decode cX0_readBody 4 = .ok (.getfield 44, 3) := by decide +kernel
theorem dX0_readBody_7 : decode cX0_readBody 7 = .ok (.istore_n 3, 1) := by decide +kernel
theorem dX0_readBody_8 : decode cX0_readBody 8 = .ok (.aload_n 0, 1) := by decide +kernel
theorem dX0_readBody_9 : decode cX0_readBody 9 = .ok (.iconst 0, 1) := by decide +kernel
theorem dX0_readBody_10 : decode cX0_readBody 10 = .ok (.putfield 50, 3) := by decide +kernel
theorem dX0_readBody_13 : decode cX0_readBody 13 = .ok (.aload_n 0, 1) := by decide +kernel
theorem dX0_readBody_14 : decode cX0_readBody 14 = .ok (.iconst 0, 1) := by decide +kernel
theorem dX0_readBody_15 : decode cX0_readBody 15 = .ok (.putfield 53, 3) := by decide +kernel
theorem dX0_readBody_18 : decode cX0_readBody 18 = .ok (.aload_n 0, 1) := by decide +kernel
theorem dX0_readBody_19 : decode cX0_readBody 19 = .ok (.invokevirtual 56, 3) := by decide +kernel
theorem dX0_readBody_22 : decode cX0_readBody 22 = .ok (.iconst 1, 1) := by decide +kernel
theorem dX0_readBody_23 : decode cX0_readBody 23 = .ok (.istore 4, 2) := by decide +kernel
theorem dX0_readBody_25 : decode cX0_readBody 25 = .ok (.iconst 0, 1) := by decide +kernel
theorem dX0_readBody_26 : decode cX0_readBody 26 = .ok (.istore 5, 2) := by decide +kernel
theorem dX0_readBody_28 : decode cX0_readBody 28 = .ok (.iload 4, 2) := by decide +kernel
theorem dX0_readBody_30 : decode cX0_readBody 30 = .ok (.ifCond .eq 43, 3) := by decide +kernel
theorem dX0_readBody_33 : decode cX0_readBody 33 = .ok (.iload 5, 2) := by decide +kernel
theorem dX0_readBody_35 : decode cX0_readBody 35 = .ok (.sipush 900, 3) := by decide +kernel
theorem dX0_readBody_38 : decode cX0_readBody 38 = .ok (.if_icmp .gt 35, 3) := by decide +kernel
theorem dX0_readBody_41 : decode cX0_readBody 41 = .ok (.aload_n 0, 1) := by decide +kernel
theorem dX0_readBody_42 : decode cX0_readBody 42 = .ok (.getfield 59, 3) := by decide +kernel
theorem dX0_readBody_45 : decode cX0_readBody 45 = .ok (.ifCond .ne 12, 3) := by decide +kernel
theorem dX0_readBody_48 : decode cX0_readBody 48 = .ok (.aload_n 0, 1) := by decide +kernel
theorem dX0_readBody_49 : decode cX0_readBody 49 = .ok (.invokevirtual 63, 3) := by decide +kernel
theorem dX0_readBody_52 : decode cX0_readBody 52 = .ok (.istore 4, 2) := by decide +kernel
theorem dX0_readBody_54 : decode cX0_readBody 54 = .ok (.goto 13, 3) := by decide +kernel
theorem dX0_readBody_57 : decode cX0_readBody 57 = .ok (.aload_n 0, 1) := by decide +kernel
theorem dX0_readBody_58 : decode cX0_readBody 58 = .ok (.aload_n 1, 1) := by decide +kernel
theorem dX0_readBody_59 : decode cX0_readBody 59 = .ok (.invokevirtual 67, 3) := by decide +kernel
theorem dX0_readBody_62 : decode cX0_readBody 62 = .ok (.ifCond .ne 5, 3) := by decide +kernel
theorem dX0_readBody_65 : decode cX0_readBody 65 = .ok (.iconst 0, 1) := by decide +kernel
theorem dX0_readBody_66 : decode cX0_readBody 66 = .ok (.ireturn, 1) := by decide +kernel
theorem dX0_readBody_67 : decode cX0_readBody 67 = .ok (.iinc 5 1, 3) := by decide +kernel
theorem dX0_readBody_70 : decode cX0_readBody 70 = .ok (.goto (-42), 3) := by decide +kernel
theorem dX0_readBody_73 : decode cX0_readBody 73 = .ok (.aload_n 0, 1) := by decide +kernel
theorem dX0_readBody_74 : decode cX0_readBody 74 = .ok (.getfield 50, 3) := by decide +kernel
theorem dX0_readBody_77 : decode cX0_readBody 77 = .ok (.ifCond .le 12, 3) := by decide +kernel
theorem dX0_readBody_80 : decode cX0_readBody 80 = .ok (.aload_n 0, 1) := by decide +kernel
theorem dX0_readBody_81 : decode cX0_readBody 81 = .ok (.getfield 40, 3) := by decide +kernel
theorem dX0_readBody_84 : decode cX0_readBody 84 = .ok (.iconst 1, 1) := by decide +kernel
theorem dX0_readBody_85 : decode cX0_readBody 85 = .ok (.invokevirtual 71, 3) := by decide +kernel
theorem dX0_readBody_88 : decode cX0_readBody 88 = .ok (.ireturn, 1) := by decide +kernel
theorem dX0_readBody_89 : decode cX0_readBody 89 = .ok (.aload_n 0, 1) := by decide +kernel
theorem dX0_readBody_90 : decode cX0_readBody 90 = .ok (.invokevirtual 75, 3) := by decide +kernel
theorem dX0_readBody_93 : decode cX0_readBody 93 = .ok (.aload_n 0, 1) := by decide +kernel
theorem dX0_readBody_94 : decode cX0_readBody 94 = .ok (.getfield 13, 3) := by decide +kernel
theorem dX0_readBody_97 : decode cX0_readBody 97 = .ok (.iconst 0, 1) := by decide +kernel
theorem dX0_readBody_98 : decode cX0_readBody 98 = .ok (.aaload, 1) := by decide +kernel
theorem dX0_readBody_99 : decode cX0_readBody 99 = .ok (.invokevirtual 78, 3) := by decide +kernel
theorem dX0_readBody_102 : decode cX0_readBody 102 = .ok (.bipush 24, 2) := by decide +kernel
theorem dX0_readBody_104 : decode cX0_readBody 104 = .ok (.if_icmp .le 13, 3) := by decide +kernel
theorem dX0_readBody_107 : decode cX0_readBody 107 = .ok (.aload_n 0, 1) := by decide +kernel
theorem dX0_readBody_108 : decode cX0_readBody 108 = .ok (.getfield 40, 3) := by decide +kernel
theorem dX0_readBody_111 : decode cX0_readBody 111 = .ok (.iconst 5, 1) := by decide +kernel
theorem dX0_readBody_112 : decode cX0_readBody 112 = .ok (.iload_n 3, 1) := by decide +kernel
theorem dX0_readBody_113 : decode cX0_readBody 113 = .ok (.invokevirtual 82, 3) := by decide +kernel
theorem dX0_readBody_116 : decode cX0_readBody 116 = .ok (.ireturn, 1) := by decide +kernel
theorem dX0_readBody_117 : decode cX0_readBody 117 = .ok (.aload_n 2, 1) := by decide +kernel
theorem dX0_readBody_118 : decode cX0_readBody 118 = .ok (.aload_n 0, 1) := by decide +kernel
theorem dX0_readBody_119 : decode cX0_readBody 119 = .ok (.getfield 13, 3) := by decide +kernel
theorem dX0_readBody_122 : decode cX0_readBody 122 = .ok (.iconst 0, 1) := by decide +kernel
theorem dX0_readBody_123 : decode cX0_readBody 123 = .ok (.aaload, 1) := by decide +kernel
theorem dX0_readBody_124 : decode cX0_readBody 124 = .ok (.invokevirtual 86, 3) := by decide +kernel
theorem dX0_readBody_127 : decode cX0_readBody 127 = .ok (.iconst 1, 1) := by decide +kernel
theorem dX0_readBody_128 : decode cX0_readBody 128 = .ok (.ireturn, 1) := by decide +kernel
theorem dX0_openLevel_0 : decode cX0_openLevel 0 = .ok (.aload_n 0, 1) := by decide +kernel
theorem dX0_openLevel_1 : decode cX0_openLevel 1 = .ok (.getfield 13, 3) := by decide +kernel
theorem dX0_openLevel_4 : decode cX0_openLevel 4 = .ok (.aload_n 0, 1) := by decide +kernel
theorem dX0_openLevel_5 : decode cX0_openLevel 5 = .ok (.getfield 50, 3) := by decide +kernel
theorem dX0_openLevel_8 : decode cX0_openLevel 8 = .ok (.aaload, 1) := by decide +kernel
theorem dX0_openLevel_9 : decode cX0_openLevel 9 = .ok (.invokevirtual 90, 3) := by decide +kernel
theorem dX0_openLevel_12 : decode cX0_openLevel 12 = .ok (.aload_n 0, 1) := by decide +kernel
theorem dX0_openLevel_13 : decode cX0_openLevel 13 = .ok (.getfield 24, 3) := by decide +kernel
theorem dX0_openLevel_16 : decode cX0_openLevel 16 = .ok (.aload_n 0, 1) := by decide +kernel
theorem dX0_openLevel_17 : decode cX0_openLevel 17 = .ok (.getfield 50, 3) := by decide +kernel
theorem dX0_openLevel_20 : decode cX0_openLevel 20 = .ok (.iconst 0, 1) := by decide +kernel
theorem dX0_openLevel_21 : decode cX0_openLevel 21 = .ok (.iastore, 1) := by decide +kernel
theorem dX0_openLevel_22 : decode cX0_openLevel 22 = .ok (.aload_n 0, 1) := by decide +kernel
theorem dX0_openLevel_23 : decode cX0_openLevel 23 = .ok (.invokevirtual 93, 3) := by decide +kernel
theorem dX0_openLevel_26 : decode cX0_openLevel 26 = .ok (.return_, 1) := by decide +kernel
theorem dX0_openMeet_0 : decode cX0_openMeet 0 = .ok (.aload_n 0, 1) := by decide +kernel
theorem dX0_openMeet_1 : decode cX0_openMeet 1 = .ok (.getfield 17, 3) := by decide +kernel
theorem dX0_openMeet_4 : decode cX0_openMeet 4 = .ok (.aload_n 0, 1) := by decide +kernel
theorem dX0_openMeet_5 : decode cX0_openMeet 5 = .ok (.getfield 50, 3) := by decide +kernel
theorem dX0_openMeet_8 : decode cX0_openMeet 8 = .ok (.aaload, 1) := by decide +kernel
theorem dX0_openMeet_9 : decode cX0_openMeet 9 = .ok (.iconst 0, 1) := by decide +kernel
theorem dX0_openMeet_10 : decode cX0_openMeet 10 = .ok (.ldc 96, 2) := by decide +kernel
theorem dX0_openMeet_12 : decode cX0_openMeet 12 = .ok (.invokevirtual 97, 3) := by decide +kernel
theorem dX0_openMeet_15 : decode cX0_openMeet 15 = .ok (.aload_n 0, 1) := by decide +kernel
theorem dX0_openMeet_16 : decode cX0_openMeet 16 = .ok (.getfield 20, 3) := by decide +kernel
theorem dX0_openMeet_19 : decode cX0_openMeet 19 = .ok (.aload_n 0, 1) := by decide +kernel
theorem dX0_openMeet_20 : decode cX0_openMeet 20 = .ok (.getfield 50, 3) := by decide +kernel
theorem dX0_openMeet_23 : decode cX0_openMeet 23 = .ok (.bipush 8, 2) := by decide +kernel
theorem dX0_openMeet_25 : decode cX0_openMeet 25 = .ok (.iastore, 1) := by decide +kernel
theorem dX0_openMeet_26 : decode cX0_openMeet 26 = .ok (.aload_n 0, 1) := by decide +kernel
theorem dX0_openMeet_27 : decode cX0_openMeet 27 = .ok (.iconst 1, 1) := by decide +kernel
theorem dX0_openMeet_28 : decode cX0_openMeet 28 = .ok (.putfield 59, 3) := by decide +kernel
theorem dX0_openMeet_31 : decode cX0_openMeet 31 = .ok (.return_, 1) := by decide +kernel
theorem dX0_closeMeet_0 : decode cX0_closeMeet 0 = .ok (.aload_n 0, 1) := by decide +kernel
theorem dX0_closeMeet_1 : decode cX0_closeMeet 1 = .ok (.getfield 37, 3) := by decide +kernel
theorem dX0_closeMeet_4 : decode cX0_closeMeet 4 = .ok (.aload_n 0, 1) := by decide +kernel
theorem dX0_closeMeet_5 : decode cX0_closeMeet 5 = .ok (.getfield 13, 3) := by decide +kernel
theorem dX0_closeMeet_8 : decode cX0_closeMeet 8 = .ok (.aload_n 0, 1) := by decide +kernel
theorem dX0_closeMeet_9 : decode cX0_closeMeet 9 = .ok (.getfield 50, 3) := by decide +kernel
theorem dX0_closeMeet_12 : decode cX0_closeMeet 12 = .ok (.aaload, 1) := by decide +kernel
theorem dX0_closeMeet_13 : decode cX0_closeMeet 13 = .ok (.aload_n 0, 1) := by decide +kernel
theorem dX0_closeMeet_14 : decode cX0_closeMeet 14 = .ok (.getfield 17, 3) := by decide +kernel
theorem dX0_closeMeet_17 : decode cX0_closeMeet 17 = .ok (.aload_n 0, 1) := by decide +kernel
theorem dX0_closeMeet_18 : decode cX0_closeMeet 18 = .ok (.getfield 50, 3) := by decide +kernel
theorem dX0_closeMeet_21 : decode cX0_closeMeet 21 = .ok (.aaload, 1) := by decide +kernel
theorem dX0_closeMeet_22 : decode cX0_closeMeet 22 = .ok (.bipush 14, 2) := by decide +kernel
theorem dX0_closeMeet_24 : decode cX0_closeMeet 24 = .ok (.invokevirtual 101, 3) := by decide +kernel
theorem dX0_closeMeet_27 : decode cX0_closeMeet 27 = .ok (.aload_n 0, 1) := by decide +kernel
theorem dX0_closeMeet_28 : decode cX0_closeMeet 28 = .ok (.getfield 13, 3) := by decide +kernel
theorem dX0_closeMeet_31 : decode cX0_closeMeet 31 = .ok (.aload_n 0, 1) := by decide +kernel
theorem dX0_closeMeet_32 : decode cX0_closeMeet 32 = .ok (.getfield 50, 3) := by decide +kernel
theorem dX0_closeMeet_35 : decode cX0_closeMeet 35 = .ok (.aaload, 1) := by decide +kernel
theorem dX0_closeMeet_36 : decode cX0_closeMeet 36 = .ok (.astore_n 1, 1) := by decide +kernel
theorem dX0_closeMeet_37 : decode cX0_closeMeet 37 = .ok (.aload_n 0, 1) := by decide +kernel
theorem dX0_closeMeet_38 : decode cX0_closeMeet 38 = .ok (.getfield 13, 3) := by decide +kernel
theorem dX0_closeMeet_41 : decode cX0_closeMeet 41 = .ok (.aload_n 0, 1) := by decide +kernel
theorem dX0_closeMeet_42 : decode cX0_closeMeet 42 = .ok (.getfield 50, 3) := by decide +kernel
theorem dX0_closeMeet_45 : decode cX0_closeMeet 45 = .ok (.aload_n 0, 1) := by decide +kernel
theorem dX0_closeMeet_46 : decode cX0_closeMeet 46 = .ok (.getfield 37, 3) := by decide +kernel
theorem dX0_closeMeet_49 : decode cX0_closeMeet 49 = .ok (.aastore, 1) := by decide +kernel
theorem dX0_closeMeet_50 : decode cX0_closeMeet 50 = .ok (.aload_n 0, 1) := by decide +kernel
theorem dX0_closeMeet_51 : decode cX0_closeMeet 51 = .ok (.aload_n 1, 1) := by decide +kernel
theorem dX0_closeMeet_52 : decode cX0_closeMeet 52 = .ok (.putfield 37, 3) := by decide +kernel
theorem dX0_closeMeet_55 : decode cX0_closeMeet 55 = .ok (.return_, 1) := by decide +kernel
theorem dX0_closePart_0 : decode cX0_closePart 0 = .ok (.aload_n 0, 1) := by decide +kernel
theorem dX0_closePart_1 : decode cX0_closePart 1 = .ok (.getfield 20, 3) := by decide +kernel
theorem dX0_closePart_4 : decode cX0_closePart 4 = .ok (.aload_n 0, 1) := by decide +kernel
theorem dX0_closePart_5 : decode cX0_closePart 5 = .ok (.getfield 50, 3) := by decide +kernel
theorem dX0_closePart_8 : decode cX0_closePart 8 = .ok (.iaload, 1) := by decide +kernel
theorem dX0_closePart_9 : decode cX0_closePart 9 = .ok (.istore_n 2, 1) := by decide +kernel
theorem dX0_closePart_10 : decode cX0_closePart 10 = .ok (.aload_n 0, 1) := by decide +kernel
theorem dX0_closePart_11 : decode cX0_closePart 11 = .ok (.getfield 24, 3) := by decide +kernel
theorem dX0_closePart_14 : decode cX0_closePart 14 = .ok (.aload_n 0, 1) := by decide +kernel
theorem dX0_closePart_15 : decode cX0_closePart 15 = .ok (.getfield 50, 3) := by decide +kernel
theorem dX0_closePart_18 : decode cX0_closePart 18 = .ok (.iaload, 1) := by decide +kernel
theorem dX0_closePart_19 : decode cX0_closePart 19 = .ok (.iconst 2, 1) := by decide +kernel
theorem dX0_closePart_20 : decode cX0_closePart 20 = .ok (.irem, 1) := by decide +kernel
theorem dX0_closePart_21 : decode cX0_closePart 21 = .ok (.iconst 1, 1) := by decide +kernel
theorem dX0_closePart_22 : decode cX0_closePart 22 = .ok (.if_icmp .ne 13, 3) := by decide +kernel
theorem dX0_closePart_25 : decode cX0_closePart 25 = .ok (.iload_n 2, 1) := by decide +kernel
theorem dX0_closePart_26 : decode cX0_closePart 26 = .ok (.iconst 3, 1) := by decide +kernel
theorem dX0_closePart_27 : decode cX0_closePart 27 = .ok (.iand, 1) := by decide +kernel
theorem dX0_closePart_28 : decode cX0_closePart 28 = .ok (.iconst 2, 1) := by decide +kernel
theorem dX0_closePart_29 : decode cX0_closePart 29 = .ok (.ishl, 1) := by decide +kernel
theorem dX0_closePart_30 : decode cX0_closePart 30 = .ok (.iload_n 2, 1) := by decide +kernel
theorem dX0_closePart_31 : decode cX0_closePart 31 = .ok (.iconst 2, 1) := by decide +kernel
theorem dX0_closePart_32 : decode cX0_closePart 32 = .ok (.ishr, 1) := by decide +kernel
theorem dX0_closePart_33 : decode cX0_closePart 33 = .ok (.ior, 1) := by decide +kernel
theorem dX0_closePart_34 : decode cX0_closePart 34 = .ok (.istore_n 2, 1) := by decide +kernel
theorem dX0_closePart_35 : decode cX0_closePart 35 = .ok (.aload_n 0, 1) := by decide +kernel
theorem dX0_closePart_36 : decode cX0_closePart 36 = .ok (.getfield 37, 3) := by decide +kernel
theorem dX0_closePart_39 : decode cX0_closePart 39 = .ok (.aload_n 0, 1) := by decide +kernel
theorem dX0_closePart_40 : decode cX0_closePart 40 = .ok (.getfield 17, 3) := by decide +kernel
theorem dX0_closePart_43 : decode cX0_closePart 43 = .ok (.aload_n 0, 1) := by decide +kernel
theorem dX0_closePart_44 : decode cX0_closePart 44 = .ok (.getfield 50, 3) := by decide +kernel
theorem dX0_closePart_47 : decode cX0_closePart 47 = .ok (.aaload, 1) := by decide +kernel
theorem dX0_closePart_48 : decode cX0_closePart 48 = .ok (.aload_n 1, 1) := by decide +kernel
theorem dX0_closePart_49 : decode cX0_closePart 49 = .ok (.iload_n 2, 1) := by decide +kernel
theorem dX0_closePart_50 : decode cX0_closePart 50 = .ok (.invokevirtual 101, 3) := by decide +kernel
theorem dX0_closePart_53 : decode cX0_closePart 53 = .ok (.aload_n 0, 1) := by decide +kernel
theorem dX0_closePart_54 : decode cX0_closePart 54 = .ok (.getfield 17, 3) := by decide +kernel
theorem dX0_closePart_57 : decode cX0_closePart 57 = .ok (.aload_n 0, 1) := by decide +kernel
theorem dX0_closePart_58 : decode cX0_closePart 58 = .ok (.getfield 50, 3) := by decide +kernel
theorem dX0_closePart_61 : decode cX0_closePart 61 = .ok (.aaload, 1) := by decide +kernel
theorem dX0_closePart_62 : decode cX0_closePart 62 = .ok (.astore_n 3, 1) := by decide +kernel
theorem dX0_closePart_63 : decode cX0_closePart 63 = .ok (.aload_n 0, 1) := by decide +kernel
theorem dX0_closePart_64 : decode cX0_closePart 64 = .ok (.getfield 17, 3) := by decide +kernel
theorem dX0_closePart_67 : decode cX0_closePart 67 = .ok (.aload_n 0, 1) := by decide +kernel
theorem dX0_closePart_68 : decode cX0_closePart 68 = .ok (.getfield 50, 3) := by decide +kernel
theorem dX0_closePart_71 : decode cX0_closePart 71 = .ok (.aload_n 0, 1) := by decide +kernel
theorem dX0_closePart_72 : decode cX0_closePart 72 = .ok (.getfield 37, 3) := by decide +kernel
theorem dX0_closePart_75 : decode cX0_closePart 75 = .ok (.aastore, 1) := by decide +kernel
theorem dX0_closePart_76 : decode cX0_closePart 76 = .ok (.aload_n 0, 1) := by decide +kernel
theorem dX0_closePart_77 : decode cX0_closePart 77 = .ok (.aload_n 3, 1) := by decide +kernel
theorem dX0_closePart_78 : decode cX0_closePart 78 = .ok (.putfield 37, 3) := by decide +kernel
theorem dX0_closePart_81 : decode cX0_closePart 81 = .ok (.aload_n 0, 1) := by decide +kernel
theorem dX0_closePart_82 : decode cX0_closePart 82 = .ok (.dup, 1) := by decide +kernel
theorem dX0_closePart_83 : decode cX0_closePart 83 = .ok (.getfield 53, 3) := by decide +kernel
theorem dX0_closePart_86 : decode cX0_closePart 86 = .ok (.aload_n 0, 1) := by decide +kernel
theorem dX0_closePart_87 : decode cX0_closePart 87 = .ok (.getfield 24, 3) := by decide +kernel
theorem dX0_closePart_90 : decode cX0_closePart 90 = .ok (.aload_n 0, 1) := by decide +kernel
theorem dX0_closePart_91 : decode cX0_closePart 91 = .ok (.getfield 50, 3) := by decide +kernel
theorem dX0_closePart_94 : decode cX0_closePart 94 = .ok (.iaload, 1) := by decide +kernel
theorem dX0_closePart_95 : decode cX0_closePart 95 = .ok (.isub, 1) := by decide +kernel
theorem dX0_closePart_96 : decode cX0_closePart 96 = .ok (.putfield 53, 3) := by decide +kernel
theorem dX0_closePart_99 : decode cX0_closePart 99 = .ok (.aload_n 0, 1) := by decide +kernel
theorem dX0_closePart_100 : decode cX0_closePart 100 = .ok (.getfield 24, 3) := by decide +kernel
theorem dX0_closePart_103 : decode cX0_closePart 103 = .ok (.aload_n 0, 1) := by decide +kernel
theorem dX0_closePart_104 : decode cX0_closePart 104 = .ok (.getfield 50, 3) := by decide +kernel
theorem dX0_closePart_107 : decode cX0_closePart 107 = .ok (.iconst 0, 1) := by decide +kernel
theorem dX0_closePart_108 : decode cX0_closePart 108 = .ok (.iastore, 1) := by decide +kernel
theorem dX0_closePart_109 : decode cX0_closePart 109 = .ok (.aload_n 0, 1) := by decide +kernel
theorem dX0_closePart_110 : decode cX0_closePart 110 = .ok (.iconst 0, 1) := by decide +kernel
theorem dX0_closePart_111 : decode cX0_closePart 111 = .ok (.putfield 59, 3) := by decide +kernel
theorem dX0_closePart_114 : decode cX0_closePart 114 = .ok (.return_, 1) := by decide +kernel
theorem dX0_readPart_0 : decode cX0_readPart 0 = .ok (.aload_n 0, 1) := by decide +kernel
theorem dX0_readPart_1 : decode cX0_readPart 1 = .ok (.getfield 40, 3) := by decide +kernel
theorem dX0_readPart_4 : decode cX0_readPart 4 = .ok (.getfield 105, 3) := by decide +kernel
theorem dX0_readPart_7 : decode cX0_readPart 7 = .ok (.bipush 33, 2) := by decide +kernel
theorem dX0_readPart_9 : decode cX0_readPart 9 = .ok (.if_icmp .ne 7, 3) := by decide +kernel
theorem dX0_readPart_12 : decode cX0_readPart 12 = .ok (.iconst 1, 1) := by decide +kernel
theorem dX0_readPart_13 : decode cX0_readPart 13 = .ok (.goto 4, 3) := by decide +kernel
theorem dX0_readPart_16 : decode cX0_readPart 16 = .ok (.iconst 0, 1) := by decide +kernel
theorem dX0_readPart_17 : decode cX0_readPart 17 = .ok (.istore_n 2, 1) := by decide +kernel
theorem dX0_readPart_18 : decode cX0_readPart 18 = .ok (.iload_n 2, 1) := by decide +kernel
theorem dX0_readPart_19 : decode cX0_readPart 19 = .ok (.ifCond .ne 15, 3) := by decide +kernel
theorem dX0_readPart_22 : decode cX0_readPart 22 = .ok (.aload_n 0, 1) := by decide +kernel
theorem dX0_readPart_23 : decode cX0_readPart 23 = .ok (.getfield 40, 3) := by decide +kernel
theorem dX0_readPart_26 : decode cX0_readPart 26 = .ok (.getfield 105, 3) := by decide +kernel
theorem dX0_readPart_29 : decode cX0_readPart 29 = .ok (.bipush 40, 2) := by decide +kernel
theorem dX0_readPart_31 : decode cX0_readPart 31 = .ok (.if_icmp .ne 86, 3) := by decide +kernel
theorem dX0_readPart_34 : decode cX0_readPart 34 = .ok (.aload_n 0, 1) := by decide +kernel
theorem dX0_readPart_35 : decode cX0_readPart 35 = .ok (.getfield 53, 3) := by decide +kernel
theorem dX0_readPart_38 : decode cX0_readPart 38 = .ok (.bipush 12, 2) := by decide +kernel
theorem dX0_readPart_40 : decode cX0_readPart 40 = .ok (.if_icmp .ge 14, 3) := by decide +kernel
theorem dX0_readPart_43 : decode cX0_readPart 43 = .ok (.aload_n 0, 1) := by decide +kernel
theorem dX0_readPart_44 : decode cX0_readPart 44 = .ok (.getfield 50, 3) := by decide +kernel
theorem dX0_readPart_47 : decode cX0_readPart 47 = .ok (.iconst 1, 1) := by decide +kernel
theorem dX0_readPart_48 : decode cX0_readPart 48 = .ok (.iadd, 1) := by decide +kernel
theorem dX0_readPart_49 : decode cX0_readPart 49 = .ok (.bipush 13, 2) := by decide +kernel
theorem dX0_readPart_51 : decode cX0_readPart 51 = .ok (.if_icmp .lt 13, 3) := by decide +kernel
theorem dX0_readPart_54 : decode cX0_readPart 54 = .ok (.aload_n 0, 1) := by decide +kernel
theorem dX0_readPart_55 : decode cX0_readPart 55 = .ok (.getfield 40, 3) := by decide +kernel
theorem dX0_readPart_58 : decode cX0_readPart 58 = .ok (.bipush 6, 2) := by decide +kernel
theorem dX0_readPart_60 : decode cX0_readPart 60 = .ok (.invokevirtual 71, 3) := by decide +kernel
theorem dX0_readPart_63 : decode cX0_readPart 63 = .ok (.ireturn, 1) := by decide +kernel
theorem dX0_readPart_64 : decode cX0_readPart 64 = .ok (.aload_n 0, 1) := by decide +kernel
theorem dX0_readPart_65 : decode cX0_readPart 65 = .ok (.dup, 1) := by decide +kernel
theorem dX0_readPart_66 : decode cX0_readPart 66 = .ok (.getfield 53, 3) := by decide +kernel
theorem dX0_readPart_69 : decode cX0_readPart 69 = .ok (.iconst 1, 1) := by decide +kernel
theorem dX0_readPart_70 : decode cX0_readPart 70 = .ok (.iadd, 1) := by decide +kernel
theorem dX0_readPart_71 : decode cX0_readPart 71 = .ok (.putfield 53, 3) := by decide +kernel
theorem dX0_readPart_74 : decode cX0_readPart 74 = .ok (.aload_n 0, 1) := by decide +kernel
theorem dX0_readPart_75 : decode cX0_readPart 75 = .ok (.getfield 40, 3) := by decide +kernel
theorem dX0_readPart_78 : decode cX0_readPart 78 = .ok (.invokevirtual 108, 3) := by decide +kernel
theorem dX0_readPart_81 : decode cX0_readPart 81 = .ok (.iload_n 2, 1) := by decide +kernel
theorem dX0_readPart_82 : decode cX0_readPart 82 = .ok (.ifCond .eq 19, 3) := by decide +kernel
theorem dX0_readPart_85 : decode cX0_readPart 85 = .ok (.aload_n 0, 1) := by decide +kernel
theorem dX0_readPart_86 : decode cX0_readPart 86 = .ok (.getfield 24, 3) := by decide +kernel
theorem dX0_readPart_89 : decode cX0_readPart 89 = .ok (.aload_n 0, 1) := by decide +kernel
theorem dX0_readPart_90 : decode cX0_readPart 90 = .ok (.getfield 50, 3) := by decide +kernel
theorem dX0_readPart_93 : decode cX0_readPart 93 = .ok (.dup2, 1) := by decide +kernel
theorem dX0_readPart_94 : decode cX0_readPart 94 = .ok (.iaload, 1) := by decide +kernel
theorem dX0_readPart_95 : decode cX0_readPart 95 = .ok (.iconst 1, 1) := by decide +kernel
theorem dX0_readPart_96 : decode cX0_readPart 96 = .ok (.iadd, 1) := by decide +kernel
theorem dX0_readPart_97 : decode cX0_readPart 97 = .ok (.iastore, 1) := by decide +kernel
theorem dX0_readPart_98 : decode cX0_readPart 98 = .ok (.goto 17, 3) := by decide +kernel
theorem dX0_readPart_101 : decode cX0_readPart 101 = .ok (.aload_n 0, 1) := by decide +kernel
theorem dX0_readPart_102 : decode cX0_readPart 102 = .ok (.dup, 1) := by decide +kernel
theorem dX0_readPart_103 : decode cX0_readPart 103 = .ok (.getfield 50, 3) := by decide +kernel
theorem dX0_readPart_106 : decode cX0_readPart 106 = .ok (.iconst 1, 1) := by decide +kernel
theorem dX0_readPart_107 : decode cX0_readPart 107 = .ok (.iadd, 1) := by decide +kernel
theorem dX0_readPart_108 : decode cX0_readPart 108 = .ok (.putfield 50, 3) := by decide +kernel
theorem dX0_readPart_111 : decode cX0_readPart 111 = .ok (.aload_n 0, 1) := by decide +kernel
theorem dX0_readPart_112 : decode cX0_readPart 112 = .ok (.invokevirtual 56, 3) := by decide +kernel
theorem dX0_readPart_115 : decode cX0_readPart 115 = .ok (.iconst 1, 1) := by decide +kernel
theorem dX0_readPart_116 : decode cX0_readPart 116 = .ok (.ireturn, 1) := by decide +kernel
theorem dX0_readPart_117 : decode cX0_readPart 117 = .ok (.aload_n 0, 1) := by decide +kernel
theorem dX0_readPart_118 : decode cX0_readPart 118 = .ok (.getfield 40, 3) := by decide +kernel
theorem dX0_readPart_121 : decode cX0_readPart 121 = .ok (.getfield 105, 3) := by decide +kernel
theorem dX0_readPart_124 : decode cX0_readPart 124 = .ok (.bipush 91, 2) := by decide +kernel
theorem dX0_readPart_126 : decode cX0_readPart 126 = .ok (.if_icmp .ne 13, 3) := by decide +kernel
theorem dX0_readPart_129 : decode cX0_readPart 129 = .ok (.aload_n 0, 1) := by decide +kernel
theorem dX0_readPart_130 : decode cX0_readPart 130 = .ok (.invokevirtual 111, 3) := by decide +kernel
theorem dX0_readPart_133 : decode cX0_readPart 133 = .ok (.ifCond .ne 16, 3) := by decide +kernel
theorem dX0_readPart_136 : decode cX0_readPart 136 = .ok (.goto 11, 3) := by decide +kernel
theorem dX0_readPart_139 : decode cX0_readPart 139 = .ok (.aload_n 0, 1) := by decide +kernel
theorem dX0_readPart_140 : decode cX0_readPart 140 = .ok (.aload_n 1, 1) := by decide +kernel
theorem dX0_readPart_141 : decode cX0_readPart 141 = .ok (.invokevirtual 114, 3) := by decide +kernel
theorem dX0_readPart_144 : decode cX0_readPart 144 = .ok (.ifCond .ne 5, 3) := by decide +kernel
theorem dX0_readPart_147 : decode cX0_readPart 147 = .ok (.iconst 0, 1) := by decide +kernel
theorem dX0_readPart_148 : decode cX0_readPart 148 = .ok (.ireturn, 1) := by decide +kernel
theorem dX0_readPart_149 : decode cX0_readPart 149 = .ok (.aload_n 0, 1) := by decide +kernel
theorem dX0_readPart_150 : decode cX0_readPart 150 = .ok (.aload_n 0, 1) := by decide +kernel
theorem dX0_readPart_151 : decode cX0_readPart 151 = .ok (.getfield 34, 3) := by decide +kernel
theorem dX0_readPart_154 : decode cX0_readPart 154 = .ok (.invokevirtual 117, 3) := by decide +kernel
theorem dX0_readPart_157 : decode cX0_readPart 157 = .ok (.iconst 1, 1) := by decide +kernel
theorem dX0_readPart_158 : decode cX0_readPart 158 = .ok (.ireturn, 1) := by decide +kernel
theorem dX0_readName_0 : decode cX0_readName 0 = .ok (.aload_n 0, 1) := by decide +kernel
theorem dX0_readName_1 : decode cX0_readName 1 = .ok (.getfield 40, 3) := by decide +kernel
theorem dX0_readName_4 : decode cX0_readName 4 = .ok (.getfield 105, 3) := by decide +kernel
theorem dX0_readName_7 : decode cX0_readName 7 = .ok (.bipush 10, 2) := by decide +kernel
theorem dX0_readName_9 : decode cX0_readName 9 = .ok (.if_icmp .ne 22, 3) := by decide +kernel
theorem dX0_readName_12 : decode cX0_readName 12 = .ok (.aload_n 0, 1) := by decide +kernel
theorem dX0_readName_13 : decode cX0_readName 13 = .ok (.getfield 34, 3) := by decide +kernel
theorem dX0_readName_16 : decode cX0_readName 16 = .ok (.iconst 0, 1) := by decide +kernel
theorem dX0_readName_17 : decode cX0_readName 17 = .ok (.ldc 96, 2) := by decide +kernel
theorem dX0_readName_19 : decode cX0_readName 19 = .ok (.invokevirtual 97, 3) := by decide +kernel
theorem dX0_readName_22 : decode cX0_readName 22 = .ok (.aload_n 0, 1) := by decide +kernel
theorem dX0_readName_23 : decode cX0_readName 23 = .ok (.getfield 40, 3) := by decide +kernel
theorem dX0_readName_26 : decode cX0_readName 26 = .ok (.invokevirtual 108, 3) := by decide +kernel
theorem dX0_readName_29 : decode cX0_readName 29 = .ok (.iconst 1, 1) := by decide +kernel
theorem dX0_readName_30 : decode cX0_readName 30 = .ok (.ireturn, 1) := by decide +kernel
theorem dX0_readName_31 : decode cX0_readName 31 = .ok (.aload_n 0, 1) := by decide +kernel
theorem dX0_readName_32 : decode cX0_readName 32 = .ok (.getfield 40, 3) := by decide +kernel
theorem dX0_readName_35 : decode cX0_readName 35 = .ok (.getfield 105, 3) := by decide +kernel
theorem dX0_readName_38 : decode cX0_readName 38 = .ok (.iconst 2, 1) := by decide +kernel
theorem dX0_readName_39 : decode cX0_readName 39 = .ok (.if_icmp .eq 12, 3) := by decide +kernel
theorem dX0_readName_42 : decode cX0_readName 42 = .ok (.aload_n 0, 1) := by decide +kernel
theorem dX0_readName_43 : decode cX0_readName 43 = .ok (.getfield 40, 3) := by decide +kernel
theorem dX0_readName_46 : decode cX0_readName 46 = .ok (.iconst 1, 1) := by decide +kernel
theorem dX0_readName_47 : decode cX0_readName 47 = .ok (.invokevirtual 71, 3) := by decide +kernel
theorem dX0_readName_50 : decode cX0_readName 50 = .ok (.ireturn, 1) := by decide +kernel
theorem dX0_readName_51 : decode cX0_readName 51 = .ok (.aload_n 1, 1) := by decide +kernel
theorem dX0_readName_52 : decode cX0_readName 52 = .ok (.aload_n 0, 1) := by decide +kernel
theorem dX0_readName_53 : decode cX0_readName 53 = .ok (.getfield 40, 3) := by decide +kernel
theorem dX0_readName_56 : decode cX0_readName 56 = .ok (.getfield 120, 3) := by decide +kernel
theorem dX0_readName_59 : decode cX0_readName 59 = .ok (.invokevirtual 124, 3) := by decide +kernel
theorem dX0_readName_62 : decode cX0_readName 62 = .ok (.istore_n 2, 1) := by decide +kernel
theorem dX0_readName_63 : decode cX0_readName 63 = .ok (.iload_n 2, 1) := by decide +kernel
theorem dX0_readName_64 : decode cX0_readName 64 = .ok (.iconst (-1), 1) := by decide +kernel
theorem dX0_readName_65 : decode cX0_readName 65 = .ok (.if_icmp .ne 12, 3) := by decide +kernel
theorem dX0_readName_68 : decode cX0_readName 68 = .ok (.aload_n 0, 1) := by decide +kernel
theorem dX0_readName_69 : decode cX0_readName 69 = .ok (.getfield 40, 3) := by decide +kernel
theorem dX0_readName_72 : decode cX0_readName 72 = .ok (.iconst 2, 1) := by decide +kernel
theorem dX0_readName_73 : decode cX0_readName 73 = .ok (.invokevirtual 71, 3) := by decide +kernel
theorem dX0_readName_76 : decode cX0_readName 76 = .ok (.ireturn, 1) := by decide +kernel
theorem dX0_readName_77 : decode cX0_readName 77 = .ok (.aload_n 0, 1) := by decide +kernel
theorem dX0_readName_78 : decode cX0_readName 78 = .ok (.getfield 34, 3) := by decide +kernel
theorem dX0_readName_81 : decode cX0_readName 81 = .ok (.aload_n 1, 1) := by decide +kernel
theorem dX0_readName_82 : decode cX0_readName 82 = .ok (.getfield 130, 3) := by decide +kernel
theorem dX0_readName_85 : decode cX0_readName 85 = .ok (.iload_n 2, 1) := by decide +kernel
theorem dX0_readName_86 : decode cX0_readName 86 = .ok (.aaload, 1) := by decide +kernel
theorem dX0_readName_87 : decode cX0_readName 87 = .ok (.invokevirtual 86, 3) := by decide +kernel
theorem dX0_readName_90 : decode cX0_readName 90 = .ok (.aload_n 0, 1) := by decide +kernel
theorem dX0_readName_91 : decode cX0_readName 91 = .ok (.getfield 40, 3) := by decide +kernel
theorem dX0_readName_94 : decode cX0_readName 94 = .ok (.invokevirtual 108, 3) := by decide +kernel
theorem dX0_readName_97 : decode cX0_readName 97 = .ok (.iconst 1, 1) := by decide +kernel
theorem dX0_readName_98 : decode cX0_readName 98 = .ok (.ireturn, 1) := by decide +kernel
theorem dX0_readRanges_0 : decode cX0_readRanges 0 = .ok (.aload_n 0, 1) := by decide +kernel
theorem dX0_readRanges_1 : decode cX0_readRanges 1 = .ok (.getfield 34, 3) := by decide +kernel
theorem dX0_readRanges_4 : decode cX0_readRanges 4 = .ok (.invokevirtual 90, 3) := by decide +kernel
theorem dX0_readRanges_7 : decode cX0_readRanges 7 = .ok (.iconst 0, 1) := by decide +kernel
theorem dX0_readRanges_8 : decode cX0_readRanges 8 = .ok (.istore_n 1, 1) := by decide +kernel
theorem dX0_readRanges_9 : decode cX0_readRanges 9 = .ok (.iload_n 1, 1) := by decide +kernel
theorem dX0_readRanges_10 : decode cX0_readRanges 10 = .ok (.sipush 900, 3) := by decide +kernel
theorem dX0_readRanges_13 : decode cX0_readRanges 13 = .ok (.if_icmp .ge 146, 3) := by decide +kernel
theorem dX0_readRanges_16 : decode cX0_readRanges 16 = .ok (.aload_n 0, 1) := by decide +kernel
theorem dX0_readRanges_17 : decode cX0_readRanges 17 = .ok (.getfield 40, 3) := by decide +kernel
theorem dX0_readRanges_20 : decode cX0_readRanges 20 = .ok (.invokevirtual 108, 3) := by decide +kernel
theorem dX0_readRanges_23 : decode cX0_readRanges 23 = .ok (.aload_n 0, 1) := by decide +kernel
theorem dX0_readRanges_24 : decode cX0_readRanges 24 = .ok (.iconst 0, 1) := by decide +kernel
theorem dX0_readRanges_25 : decode cX0_readRanges 25 = .ok (.invokevirtual 133, 3) := by decide +kernel
theorem dX0_readRanges_28 : decode cX0_readRanges 28 = .ok (.istore_n 2, 1) := by decide +kernel
theorem dX0_readRanges_29 : decode cX0_readRanges 29 = .ok (.iload_n 2, 1) := by decide +kernel
theorem dX0_readRanges_30 : decode cX0_readRanges 30 = .ok (.istore_n 3, 1) := by decide +kernel
theorem dX0_readRanges_31 : decode cX0_readRanges 31 = .ok (.iload_n 2, 1) := by decide +kernel
theorem dX0_readRanges_32 : decode cX0_readRanges 32 = .ok (.ifCond .lt 27, 3) := by decide +kernel
theorem dX0_readRanges_35 : decode cX0_readRanges 35 = .ok (.aload_n 0, 1) := by decide +kernel
theorem dX0_readRanges_36 : decode cX0_readRanges 36 = .ok (.getfield 40, 3) := by decide +kernel
theorem dX0_readRanges_39 : decode cX0_readRanges 39 = .ok (.getfield 105, 3) := by decide +kernel
theorem dX0_readRanges_42 : decode cX0_readRanges 42 = .ok (.iconst 4, 1) := by decide +kernel
theorem dX0_readRanges_43 : decode cX0_readRanges 43 = .ok (.if_icmp .ne 16, 3) := by decide +kernel
theorem dX0_readRanges_46 : decode cX0_readRanges 46 = .ok (.aload_n 0, 1) := by decide +kernel
theorem dX0_readRanges_47 : decode cX0_readRanges 47 = .ok (.getfield 40, 3) := by decide +kernel
theorem dX0_readRanges_50 : decode cX0_readRanges 50 = .ok (.invokevirtual 108, 3) := by decide +kernel
theorem dX0_readRanges_53 : decode cX0_readRanges 53 = .ok (.aload_n 0, 1) := by decide +kernel
theorem dX0_readRanges_54 : decode cX0_readRanges 54 = .ok (.iload_n 2, 1) := by decide +kernel
theorem dX0_readRanges_55 : decode cX0_readRanges 55 = .ok (.invokevirtual 133, 3) := by decide +kernel
theorem dX0_readRanges_58 : decode cX0_readRanges 58 = .ok (.istore_n 3, 1) := by decide +kernel
theorem dX0_readRanges_59 : decode cX0_readRanges 59 = .ok (.iload_n 3, 1) := by decide +kernel
theorem dX0_readRanges_60 : decode cX0_readRanges 60 = .ok (.ifCond .ge 5, 3) := by decide +kernel
theorem dX0_readRanges_63 : decode cX0_readRanges 63 = .ok (.iconst 0, 1) := by decide +kernel
theorem dX0_readRanges_64 : decode cX0_readRanges 64 = .ok (.ireturn, 1) := by decide +kernel
theorem dX0_readRanges_65 : decode cX0_readRanges 65 = .ok (.aload_n 0, 1) := by decide +kernel
theorem dX0_readRanges_66 : decode cX0_readRanges 66 = .ok (.getfield 30, 3) := by decide +kernel
theorem dX0_readRanges_69 : decode cX0_readRanges 69 = .ok (.iload_n 2, 1) := by decide +kernel
theorem dX0_readRanges_70 : decode cX0_readRanges 70 = .ok (.iload_n 3, 1) := by decide +kernel
theorem dX0_readRanges_71 : decode cX0_readRanges 71 = .ok (.invokevirtual 97, 3) := by decide +kernel
theorem dX0_readRanges_74 : decode cX0_readRanges 74 = .ok (.aload_n 0, 1) := by decide +kernel
theorem dX0_readRanges_75 : decode cX0_readRanges 75 = .ok (.getfield 37, 3) := by decide +kernel
theorem dX0_readRanges_78 : decode cX0_readRanges 78 = .ok (.aload_n 0, 1) := by decide +kernel
theorem dX0_readRanges_79 : decode cX0_readRanges 79 = .ok (.getfield 34, 3) := by decide +kernel
theorem dX0_readRanges_82 : decode cX0_readRanges 82 = .ok (.aload_n 0, 1) := by decide +kernel
theorem dX0_readRanges_83 : decode cX0_readRanges 83 = .ok (.getfield 30, 3) := by decide +kernel
theorem dX0_readRanges_86 : decode cX0_readRanges 86 = .ok (.bipush 14, 2) := by decide +kernel
theorem dX0_readRanges_88 : decode cX0_readRanges 88 = .ok (.invokevirtual 101, 3) := by decide +kernel
theorem dX0_readRanges_91 : decode cX0_readRanges 91 = .ok (.aload_n 0, 1) := by decide +kernel
theorem dX0_readRanges_92 : decode cX0_readRanges 92 = .ok (.getfield 34, 3) := by decide +kernel
theorem dX0_readRanges_95 : decode cX0_readRanges 95 = .ok (.astore 4, 2) := by decide +kernel
theorem dX0_readRanges_97 : decode cX0_readRanges 97 = .ok (.aload_n 0, 1) := by decide +kernel
theorem dX0_readRanges_98 : decode cX0_readRanges 98 = .ok (.aload_n 0, 1) := by decide +kernel
theorem dX0_readRanges_99 : decode cX0_readRanges 99 = .ok (.getfield 37, 3) := by decide +kernel
theorem dX0_readRanges_102 : decode cX0_readRanges 102 = .ok (.putfield 34, 3) := by decide +kernel
theorem dX0_readRanges_105 : decode cX0_readRanges 105 = .ok (.aload_n 0, 1) := by decide +kernel
theorem dX0_readRanges_106 : decode cX0_readRanges 106 = .ok (.aload 4, 2) := by decide +kernel
theorem dX0_readRanges_108 : decode cX0_readRanges 108 = .ok (.putfield 37, 3) := by decide +kernel
theorem dX0_readRanges_111 : decode cX0_readRanges 111 = .ok (.aload_n 0, 1) := by decide +kernel
theorem dX0_readRanges_112 : decode cX0_readRanges 112 = .ok (.getfield 40, 3) := by decide +kernel
theorem dX0_readRanges_115 : decode cX0_readRanges 115 = .ok (.getfield 105, 3) := by decide +kernel
theorem dX0_readRanges_118 : decode cX0_readRanges 118 = .ok (.bipush 93, 2) := by decide +kernel
theorem dX0_readRanges_120 : decode cX0_readRanges 120 = .ok (.if_icmp .ne 12, 3) := by decide +kernel
theorem dX0_readRanges_123 : decode cX0_readRanges 123 = .ok (.aload_n 0, 1) := by decide +kernel
theorem dX0_readRanges_124 : decode cX0_readRanges 124 = .ok (.getfield 40, 3) := by decide +kernel
theorem dX0_readRanges_127 : decode cX0_readRanges 127 = .ok (.invokevirtual 108, 3) := by decide +kernel
theorem dX0_readRanges_130 : decode cX0_readRanges 130 = .ok (.iconst 1, 1) := by decide +kernel
theorem dX0_readRanges_131 : decode cX0_readRanges 131 = .ok (.ireturn, 1) := by decide +kernel
theorem dX0_readRanges_132 : decode cX0_readRanges 132 = .ok (.aload_n 0, 1) := by decide +kernel
theorem dX0_readRanges_133 : decode cX0_readRanges 133 = .ok (.getfield 40, 3) := by decide +kernel
theorem dX0_readRanges_136 : decode cX0_readRanges 136 = .ok (.getfield 105, 3) := by decide +kernel
theorem dX0_readRanges_139 : decode cX0_readRanges 139 = .ok (.bipush 44, 2) := by decide +kernel
theorem dX0_readRanges_141 : decode cX0_readRanges 141 = .ok (.if_icmp .eq 12, 3) := by decide +kernel
theorem dX0_readRanges_144 : decode cX0_readRanges 144 = .ok (.aload_n 0, 1) := by decide +kernel
theorem dX0_readRanges_145 : decode cX0_readRanges 145 = .ok (.getfield 40, 3) := by decide +kernel
theorem dX0_readRanges_148 : decode cX0_readRanges 148 = .ok (.iconst 1, 1) := by decide +kernel
theorem dX0_readRanges_149 : decode cX0_readRanges 149 = .ok (.invokevirtual 71, 3) := by decide +kernel
theorem dX0_readRanges_152 : decode cX0_readRanges 152 = .ok (.ireturn, 1) := by decide +kernel
theorem dX0_readRanges_153 : decode cX0_readRanges 153 = .ok (.iinc 1 1, 3) := by decide +kernel
theorem dX0_readRanges_156 : decode cX0_readRanges 156 = .ok (.goto (-147), 3) := by decide +kernel
theorem dX0_readRanges_159 : decode cX0_readRanges 159 = .ok (.aload_n 0, 1) := by decide +kernel
theorem dX0_readRanges_160 : decode cX0_readRanges 160 = .ok (.getfield 40, 3) := by decide +kernel
theorem dX0_readRanges_163 : decode cX0_readRanges 163 = .ok (.iconst 1, 1) := by decide +kernel
theorem dX0_readRanges_164 : decode cX0_readRanges 164 = .ok (.invokevirtual 71, 3) := by decide +kernel
theorem dX0_readRanges_167 : decode cX0_readRanges 167 = .ok (.ireturn, 1) := by decide +kernel
theorem dX0_readBound_0 : decode cX0_readBound 0 = .ok (.aload_n 0, 1) := by decide +kernel
theorem dX0_readBound_1 : decode cX0_readBound 1 = .ok (.getfield 40, 3) := by decide +kernel
theorem dX0_readBound_4 : decode cX0_readBound 4 = .ok (.getfield 105, 3) := by decide +kernel
theorem dX0_readBound_7 : decode cX0_readBound 7 = .ok (.iconst 3, 1) := by decide +kernel
theorem dX0_readBound_8 : decode cX0_readBound 8 = .ok (.if_icmp .eq 14, 3) := by decide +kernel
theorem dX0_readBound_11 : decode cX0_readBound 11 = .ok (.aload_n 0, 1) := by decide +kernel
theorem dX0_readBound_12 : decode cX0_readBound 12 = .ok (.getfield 40, 3) := by decide +kernel
theorem dX0_readBound_15 : decode cX0_readBound 15 = .ok (.iconst 1, 1) := by decide +kernel
theorem dX0_readBound_16 : decode cX0_readBound 16 = .ok (.invokevirtual 71, 3) := by decide +kernel
theorem dX0_readBound_19 : decode cX0_readBound 19 = .ok (.pop, 1) := by decide +kernel
theorem dX0_readBound_20 : decode cX0_readBound 20 = .ok (.iconst (-1), 1) := by decide +kernel
theorem dX0_readBound_21 : decode cX0_readBound 21 = .ok (.ireturn, 1) := by decide +kernel
theorem dX0_readBound_22 : decode cX0_readBound 22 = .ok (.aload_n 0, 1) := by decide +kernel
theorem dX0_readBound_23 : decode cX0_readBound 23 = .ok (.getfield 40, 3) := by decide +kernel
theorem dX0_readBound_26 : decode cX0_readBound 26 = .ok (.getfield 120, 3) := by decide +kernel
theorem dX0_readBound_29 : decode cX0_readBound 29 = .ok (.lstore_n 2, 1) := by decide +kernel
theorem dX0_readBound_30 : decode cX0_readBound 30 = .ok (.lload_n 2, 1) := by decide +kernel
theorem dX0_readBound_31 : decode cX0_readBound 31 = .ok (.ldc2_w 137, 3) := by decide +kernel
theorem dX0_readBound_34 : decode cX0_readBound 34 = .ok (.lcmp, 1) := by decide +kernel
theorem dX0_readBound_35 : decode cX0_readBound 35 = .ok (.ifCond .ge 10, 3) := by decide +kernel
theorem dX0_readBound_38 : decode cX0_readBound 38 = .ok (.lload_n 2, 1) := by decide +kernel
theorem dX0_readBound_39 : decode cX0_readBound 39 = .ok (.iload_n 1, 1) := by decide +kernel
theorem dX0_readBound_40 : decode cX0_readBound 40 = .ok (.i2l, 1) := by decide +kernel
theorem dX0_readBound_41 : decode cX0_readBound 41 = .ok (.lcmp, 1) := by decide +kernel
theorem dX0_readBound_42 : decode cX0_readBound 42 = .ok (.ifCond .ge 14, 3) := by decide +kernel
theorem dX0_readBound_45 : decode cX0_readBound 45 = .ok (.aload_n 0, 1) := by decide +kernel
theorem dX0_readBound_46 : decode cX0_readBound 46 = .ok (.getfield 40, 3) := by decide +kernel
theorem dX0_readBound_49 : decode cX0_readBound 49 = .ok (.iconst 4, 1) := by decide +kernel
theorem dX0_readBound_50 : decode cX0_readBound 50 = .ok (.invokevirtual 71, 3) := by decide +kernel
theorem dX0_readBound_53 : decode cX0_readBound 53 = .ok (.pop, 1) := by decide +kernel
theorem dX0_readBound_54 : decode cX0_readBound 54 = .ok (.iconst (-1), 1) := by decide +kernel
theorem dX0_readBound_55 : decode cX0_readBound 55 = .ok (.ireturn, 1) := by decide +kernel
theorem dX0_readBound_56 : decode cX0_readBound 56 = .ok (.aload_n 0, 1) := by decide +kernel
theorem dX0_readBound_57 : decode cX0_readBound 57 = .ok (.getfield 40, 3) := by decide +kernel
theorem dX0_readBound_60 : decode cX0_readBound 60 = .ok (.invokevirtual 108, 3) := by decide +kernel
theorem dX0_readBound_63 : decode cX0_readBound 63 = .ok (.lload_n 2, 1) := by decide +kernel
theorem dX0_readBound_64 : decode cX0_readBound 64 = .ok (.l2i, 1) := by decide +kernel
theorem dX0_readBound_65 : decode cX0_readBound 65 = .ok (.ireturn, 1) := by decide +kernel
theorem dX0_readSign_0 : decode cX0_readSign 0 = .ok (.aload_n 0, 1) := by decide +kernel
theorem dX0_readSign_1 : decode cX0_readSign 1 = .ok (.getfield 40, 3) := by decide +kernel
theorem dX0_readSign_4 : decode cX0_readSign 4 = .ok (.getfield 105, 3) := by decide +kernel
theorem dX0_readSign_7 : decode cX0_readSign 7 = .ok (.istore_n 1, 1) := by decide +kernel
theorem dX0_readSign_8 : decode cX0_readSign 8 = .ok (.iload_n 1, 1) := by decide +kernel
theorem dX0_readSign_9 : decode cX0_readSign 9 = .ok (.bipush 124, 2) := by decide +kernel
theorem dX0_readSign_11 : decode cX0_readSign 11 = .ok (.if_icmp .ne 14, 3) := by decide +kernel
theorem dX0_readSign_14 : decode cX0_readSign 14 = .ok (.aload_n 0, 1) := by decide +kernel
theorem dX0_readSign_15 : decode cX0_readSign 15 = .ok (.invokevirtual 75, 3) := by decide +kernel
theorem dX0_readSign_18 : decode cX0_readSign 18 = .ok (.aload_n 0, 1) := by decide +kernel
theorem dX0_readSign_19 : decode cX0_readSign 19 = .ok (.invokevirtual 93, 3) := by decide +kernel
theorem dX0_readSign_22 : decode cX0_readSign 22 = .ok (.goto 101, 3) := by decide +kernel
theorem dX0_readSign_25 : decode cX0_readSign 25 = .ok (.iload_n 1, 1) := by decide +kernel
theorem dX0_readSign_26 : decode cX0_readSign 26 = .ok (.bipush 38, 2) := by decide +kernel
theorem dX0_readSign_28 : decode cX0_readSign 28 = .ok (.if_icmp .eq 9, 3) := by decide +kernel
theorem dX0_readSign_31 : decode cX0_readSign 31 = .ok (.iload_n 1, 1) := by decide +kernel
theorem dX0_readSign_32 : decode cX0_readSign 32 = .ok (.bipush 45, 2) := by decide +kernel
theorem dX0_readSign_34 : decode cX0_readSign 34 = .ok (.if_icmp .ne 32, 3) := by decide +kernel
theorem dX0_readSign_37 : decode cX0_readSign 37 = .ok (.aload_n 0, 1) := by decide +kernel
theorem dX0_readSign_38 : decode cX0_readSign 38 = .ok (.getfield 20, 3) := by decide +kernel
theorem dX0_readSign_41 : decode cX0_readSign 41 = .ok (.aload_n 0, 1) := by decide +kernel
theorem dX0_readSign_42 : decode cX0_readSign 42 = .ok (.getfield 50, 3) := by decide +kernel
theorem dX0_readSign_45 : decode cX0_readSign 45 = .ok (.iload_n 1, 1) := by decide +kernel
theorem dX0_readSign_46 : decode cX0_readSign 46 = .ok (.bipush 38, 2) := by decide +kernel
theorem dX0_readSign_48 : decode cX0_readSign 48 = .ok (.if_icmp .ne 8, 3) := by decide +kernel
theorem dX0_readSign_51 : decode cX0_readSign 51 = .ok (.bipush 8, 2) := by decide +kernel
theorem dX0_readSign_53 : decode cX0_readSign 53 = .ok (.goto 4, 3) := by decide +kernel
theorem dX0_readSign_56 : decode cX0_readSign 56 = .ok (.iconst 2, 1) := by decide +kernel
theorem dX0_readSign_57 : decode cX0_readSign 57 = .ok (.iastore, 1) := by decide +kernel
theorem dX0_readSign_58 : decode cX0_readSign 58 = .ok (.aload_n 0, 1) := by decide +kernel
theorem dX0_readSign_59 : decode cX0_readSign 59 = .ok (.iconst 1, 1) := by decide +kernel
theorem dX0_readSign_60 : decode cX0_readSign 60 = .ok (.putfield 59, 3) := by decide +kernel
theorem dX0_readSign_63 : decode cX0_readSign 63 = .ok (.goto 60, 3) := by decide +kernel
theorem dX0_readSign_66 : decode cX0_readSign 66 = .ok (.iload_n 1, 1) := by decide +kernel
theorem dX0_readSign_67 : decode cX0_readSign 67 = .ok (.bipush 41, 2) := by decide +kernel
theorem dX0_readSign_69 : decode cX0_readSign 69 = .ok (.if_icmp .ne 52, 3) := by decide +kernel
theorem dX0_readSign_72 : decode cX0_readSign 72 = .ok (.aload_n 0, 1) := by decide +kernel
theorem dX0_readSign_73 : decode cX0_readSign 73 = .ok (.getfield 50, 3) := by decide +kernel
theorem dX0_readSign_76 : decode cX0_readSign 76 = .ok (.ifCond .le 45, 3) := by decide +kernel
theorem dX0_readSign_79 : decode cX0_readSign 79 = .ok (.aload_n 0, 1) := by decide +kernel
theorem dX0_readSign_80 : decode cX0_readSign 80 = .ok (.invokevirtual 75, 3) := by decide +kernel
theorem dX0_readSign_83 : decode cX0_readSign 83 = .ok (.aload_n 0, 1) := by decide +kernel
theorem dX0_readSign_84 : decode cX0_readSign 84 = .ok (.dup, 1) := by decide +kernel
theorem dX0_readSign_85 : decode cX0_readSign 85 = .ok (.getfield 50, 3) := by decide +kernel
theorem dX0_readSign_88 : decode cX0_readSign 88 = .ok (.iconst 1, 1) := by decide +kernel
theorem dX0_readSign_89 : decode cX0_readSign 89 = .ok (.isub, 1) := by decide +kernel
theorem dX0_readSign_90 : decode cX0_readSign 90 = .ok (.putfield 50, 3) := by decide +kernel
theorem dX0_readSign_93 : decode cX0_readSign 93 = .ok (.aload_n 0, 1) := by decide +kernel
theorem dX0_readSign_94 : decode cX0_readSign 94 = .ok (.dup, 1) := by decide +kernel
theorem dX0_readSign_95 : decode cX0_readSign 95 = .ok (.getfield 53, 3) := by decide +kernel
theorem dX0_readSign_98 : decode cX0_readSign 98 = .ok (.iconst 1, 1) := by decide +kernel
theorem dX0_readSign_99 : decode cX0_readSign 99 = .ok (.isub, 1) := by decide +kernel
theorem dX0_readSign_100 : decode cX0_readSign 100 = .ok (.putfield 53, 3) := by decide +kernel
theorem dX0_readSign_103 : decode cX0_readSign 103 = .ok (.aload_n 0, 1) := by decide +kernel
theorem dX0_readSign_104 : decode cX0_readSign 104 = .ok (.aload_n 0, 1) := by decide +kernel
theorem dX0_readSign_105 : decode cX0_readSign 105 = .ok (.getfield 13, 3) := by decide +kernel
theorem dX0_readSign_108 : decode cX0_readSign 108 = .ok (.aload_n 0, 1) := by decide +kernel
theorem dX0_readSign_109 : decode cX0_readSign 109 = .ok (.getfield 50, 3) := by decide +kernel
theorem dX0_readSign_112 : decode cX0_readSign 112 = .ok (.iconst 1, 1) := by decide +kernel
theorem dX0_readSign_113 : decode cX0_readSign 113 = .ok (.iadd, 1) := by decide +kernel
theorem dX0_readSign_114 : decode cX0_readSign 114 = .ok (.aaload, 1) := by decide +kernel
theorem dX0_readSign_115 : decode cX0_readSign 115 = .ok (.invokevirtual 117, 3) := by decide +kernel
theorem dX0_readSign_118 : decode cX0_readSign 118 = .ok (.goto 5, 3) := by decide +kernel
theorem dX0_readSign_121 : decode cX0_readSign 121 = .ok (.iconst 0, 1) := by decide +kernel
theorem dX0_readSign_122 : decode cX0_readSign 122 = .ok (.ireturn, 1) := by decide +kernel
theorem dX0_readSign_123 : decode cX0_readSign 123 = .ok (.aload_n 0, 1) := by decide +kernel
theorem dX0_readSign_124 : decode cX0_readSign 124 = .ok (.getfield 40, 3) := by decide +kernel
theorem dX0_readSign_127 : decode cX0_readSign 127 = .ok (.invokevirtual 108, 3) := by decide +kernel
theorem dX0_readSign_130 : decode cX0_readSign 130 = .ok (.iconst 1, 1) := by decide +kernel
theorem dX0_readSign_131 : decode cX0_readSign 131 = .ok (.ireturn, 1) := by decide +kernel
theorem dX1_fill_0 : decode cX1_fill 0 = .ok (.iconst 0, 1) := by decide +kernel
theorem dX1_fill_1 : decode cX1_fill 1 = .ok (.istore_n 3, 1) := by decide +kernel
theorem dX1_fill_2 : decode cX1_fill 2 = .ok (.iload_n 3, 1) := by decide +kernel
theorem dX1_fill_3 : decode cX1_fill 3 = .ok (.aload_n 1, 1) := by decide +kernel
theorem dX1_fill_4 : decode cX1_fill 4 = .ok (.getfield 15, 3) := by decide +kernel
theorem dX1_fill_7 : decode cX1_fill 7 = .ok (.getfield 21, 3) := by decide +kernel
theorem dX1_fill_10 : decode cX1_fill 10 = .ok (.if_icmp .ge 31, 3) := by decide +kernel
theorem dX1_fill_13 : decode cX1_fill 13 = .ok (.aload_n 0, 1) := by decide +kernel
theorem dX1_fill_14 : decode cX1_fill 14 = .ok (.getfield 9, 3) := by decide +kernel
theorem dX1_fill_17 : decode cX1_fill 17 = .ok (.iload_n 3, 1) := by decide +kernel
theorem dX1_fill_18 : decode cX1_fill 18 = .ok (.aload_n 1, 1) := by decide +kernel
theorem dX1_fill_19 : decode cX1_fill 19 = .ok (.getfield 15, 3) := by decide +kernel
theorem dX1_fill_22 : decode cX1_fill 22 = .ok (.iload_n 3, 1) := by decide +kernel
theorem dX1_fill_23 : decode cX1_fill 23 = .ok (.invokevirtual 27, 3) := by decide +kernel
theorem dX1_fill_26 : decode cX1_fill 26 = .ok (.ifCond .eq 7, 3) := by decide +kernel
theorem dX1_fill_29 : decode cX1_fill 29 = .ok (.lconst 1, 1) := by decide +kernel
theorem dX1_fill_30 : decode cX1_fill 30 = .ok (.goto 4, 3) := by decide +kernel
theorem dX1_fill_33 : decode cX1_fill 33 = .ok (.lconst 0, 1) := by decide +kernel
theorem dX1_fill_34 : decode cX1_fill 34 = .ok (.lastore, 1) := by decide +kernel
theorem dX1_fill_35 : decode cX1_fill 35 = .ok (.iinc 3 1, 3) := by decide +kernel
theorem dX1_fill_38 : decode cX1_fill 38 = .ok (.goto (-36), 3) := by decide +kernel
theorem dX1_fill_41 : decode cX1_fill 41 = .ok (.iconst 1, 1) := by decide +kernel
theorem dX1_fill_42 : decode cX1_fill 42 = .ok (.istore_n 3, 1) := by decide +kernel
theorem dX1_fill_43 : decode cX1_fill 43 = .ok (.iload_n 3, 1) := by decide +kernel
theorem dX1_fill_44 : decode cX1_fill 44 = .ok (.iload_n 2, 1) := by decide +kernel
theorem dX1_fill_45 : decode cX1_fill 45 = .ok (.if_icmp .gt 101, 3) := by decide +kernel
theorem dX1_fill_48 : decode cX1_fill 48 = .ok (.iload_n 3, 1) := by decide +kernel
theorem dX1_fill_49 : decode cX1_fill 49 = .ok (.iconst 3, 1) := by decide +kernel
theorem dX1_fill_50 : decode cX1_fill 50 = .ok (.if_icmp .gt 96, 3) := by decide +kernel
theorem dX1_fill_53 : decode cX1_fill 53 = .ok (.iconst 0, 1) := by decide +kernel
theorem dX1_fill_54 : decode cX1_fill 54 = .ok (.istore 4, 2) := by decide +kernel
theorem dX1_fill_56 : decode cX1_fill 56 = .ok (.iload 4, 2) := by decide +kernel
theorem dX1_fill_58 : decode cX1_fill 58 = .ok (.aload_n 1, 1) := by decide +kernel
theorem dX1_fill_59 : decode cX1_fill 59 = .ok (.getfield 15, 3) := by decide +kernel
theorem dX1_fill_62 : decode cX1_fill 62 = .ok (.getfield 21, 3) := by decide +kernel
theorem dX1_fill_65 : decode cX1_fill 65 = .ok (.if_icmp .ge 75, 3) := by decide +kernel
theorem dX1_fill_68 : decode cX1_fill 68 = .ok (.lconst 0, 1) := by decide +kernel
theorem dX1_fill_69 : decode cX1_fill 69 = .ok (.lstore 5, 2) := by decide +kernel
theorem dX1_fill_71 : decode cX1_fill 71 = .ok (.iconst 0, 1) := by decide +kernel
theorem dX1_fill_72 : decode cX1_fill 72 = .ok (.istore 7, 2) := by decide +kernel
theorem dX1_fill_74 : decode cX1_fill 74 = .ok (.iload 7, 2) := by decide +kernel
theorem dX1_fill_76 : decode cX1_fill 76 = .ok (.aload_n 1, 1) := by decide +kernel
theorem dX1_fill_77 : decode cX1_fill 77 = .ok (.getfield 31, 3) := by decide +kernel
theorem dX1_fill_80 : decode cX1_fill 80 = .ok (.if_icmp .ge 40, 3) := by decide +kernel
theorem dX1_fill_83 : decode cX1_fill 83 = .ok (.lload 5, 2) := by decide +kernel
theorem dX1_fill_85 : decode cX1_fill 85 = .ok (.aload_n 1, 1) := by decide +kernel
theorem dX1_fill_86 : decode cX1_fill 86 = .ok (.iload 7, 2) := by decide +kernel
theorem dX1_fill_88 : decode cX1_fill 88 = .ok (.invokevirtual 34, 3) := by decide +kernel
theorem dX1_fill_91 : decode cX1_fill 91 = .ok (.i2l, 1) := by decide +kernel
theorem dX1_fill_92 : decode cX1_fill 92 = .ok (.aload_n 0, 1) := by decide +kernel
theorem dX1_fill_93 : decode cX1_fill 93 = .ok (.iload_n 3, 1) := by decide +kernel
theorem dX1_fill_94 : decode cX1_fill 94 = .ok (.iconst 1, 1) := by decide +kernel
theorem dX1_fill_95 : decode cX1_fill 95 = .ok (.isub, 1) := by decide +kernel
theorem dX1_fill_96 : decode cX1_fill 96 = .ok (.aload_n 1, 1) := by decide +kernel
theorem dX1_fill_97 : decode cX1_fill 97 = .ok (.getfield 15, 3) := by decide +kernel
theorem dX1_fill_100 : decode cX1_fill 100 = .ok (.iload 4, 2) := by decide +kernel
theorem dX1_fill_102 : decode cX1_fill 102 = .ok (.iload 7, 2) := by decide +kernel
theorem dX1_fill_104 : decode cX1_fill 104 = .ok (.invokevirtual 38, 3) := by decide +kernel
theorem dX1_fill_107 : decode cX1_fill 107 = .ok (.invokevirtual 42, 3) := by decide +kernel
theorem dX1_fill_110 : decode cX1_fill 110 = .ok (.lmul, 1) := by decide +kernel
theorem dX1_fill_111 : decode cX1_fill 111 = .ok (.ladd, 1) := by decide +kernel
theorem dX1_fill_112 : decode cX1_fill 112 = .ok (.lstore 5, 2) := by decide +kernel
theorem dX1_fill_114 : decode cX1_fill 114 = .ok (.iinc 7 1, 3) := by decide +kernel
theorem dX1_fill_117 : decode cX1_fill 117 = .ok (.goto (-43), 3) := by decide +kernel
theorem dX1_fill_120 : decode cX1_fill 120 = .ok (.aload_n 0, 1) := by decide +kernel
theorem dX1_fill_121 : decode cX1_fill 121 = .ok (.getfield 9, 3) := by decide +kernel
theorem dX1_fill_124 : decode cX1_fill 124 = .ok (.iload_n 3, 1) := by decide +kernel
theorem dX1_fill_125 : decode cX1_fill 125 = .ok (.bipush 40, 2) := by decide +kernel
theorem dX1_fill_127 : decode cX1_fill 127 = .ok (.imul, 1) := by decide +kernel
theorem dX1_fill_128 : decode cX1_fill 128 = .ok (.iload 4, 2) := by decide +kernel
theorem dX1_fill_130 : decode cX1_fill 130 = .ok (.iadd, 1) := by decide +kernel
theorem dX1_fill_131 : decode cX1_fill 131 = .ok (.lload 5, 2) := by decide +kernel
theorem dX1_fill_133 : decode cX1_fill 133 = .ok (.lastore, 1) := by decide +kernel
theorem dX1_fill_134 : decode cX1_fill 134 = .ok (.iinc 4 1, 3) := by decide +kernel
theorem dX1_fill_137 : decode cX1_fill 137 = .ok (.goto (-81), 3) := by decide +kernel
theorem dX1_fill_140 : decode cX1_fill 140 = .ok (.iinc 3 1, 3) := by decide +kernel
theorem dX1_fill_143 : decode cX1_fill 143 = .ok (.goto (-100), 3) := by decide +kernel
theorem dX1_fill_146 : decode cX1_fill 146 = .ok (.return_, 1) := by decide +kernel
theorem dX1_behindSheaf_0 : decode cX1_behindSheaf 0 = .ok (.aload_n 0, 1) := by decide +kernel
theorem dX1_behindSheaf_1 : decode cX1_behindSheaf 1 = .ok (.getfield 9, 3) := by decide +kernel
theorem dX1_behindSheaf_4 : decode cX1_behindSheaf 4 = .ok (.iload_n 1, 1) := by decide +kernel
theorem dX1_behindSheaf_5 : decode cX1_behindSheaf 5 = .ok (.bipush 40, 2) := by decide +kernel
theorem dX1_behindSheaf_7 : decode cX1_behindSheaf 7 = .ok (.imul, 1) := by decide +kernel
theorem dX1_behindSheaf_8 : decode cX1_behindSheaf 8 = .ok (.iload_n 2, 1) := by decide +kernel
theorem dX1_behindSheaf_9 : decode cX1_behindSheaf 9 = .ok (.iadd, 1) := by decide +kernel
theorem dX1_behindSheaf_10 : decode cX1_behindSheaf 10 = .ok (.laload, 1) := by decide +kernel
theorem dX1_behindSheaf_11 : decode cX1_behindSheaf 11 = .ok (.lreturn, 1) := by decide +kernel
theorem dX1_aheadOf_0 : decode cX1_aheadOf 0 = .ok (.lconst 0, 1) := by decide +kernel
theorem dX1_aheadOf_1 : decode cX1_aheadOf 1 = .ok (.lstore 4, 2) := by decide +kernel
theorem dX1_aheadOf_3 : decode cX1_aheadOf 3 = .ok (.iconst 0, 1) := by decide +kernel
theorem dX1_aheadOf_4 : decode cX1_aheadOf 4 = .ok (.istore 6, 2) := by decide +kernel
theorem dX1_aheadOf_6 : decode cX1_aheadOf 6 = .ok (.iconst 0, 1) := by decide +kernel
theorem dX1_aheadOf_7 : decode cX1_aheadOf 7 = .ok (.istore 7, 2) := by decide +kernel
theorem dX1_aheadOf_9 : decode cX1_aheadOf 9 = .ok (.iload 7, 2) := by decide +kernel
theorem dX1_aheadOf_11 : decode cX1_aheadOf 11 = .ok (.iload_n 3, 1) := by decide +kernel
theorem dX1_aheadOf_12 : decode cX1_aheadOf 12 = .ok (.if_icmp .ge 108, 3) := by decide +kernel
theorem dX1_aheadOf_15 : decode cX1_aheadOf 15 = .ok (.iload 7, 2) := by decide +kernel
theorem dX1_aheadOf_17 : decode cX1_aheadOf 17 = .ok (.aload_n 2, 1) := by decide +kernel
theorem dX1_aheadOf_18 : decode cX1_aheadOf 18 = .ok (.arraylength, 1) := by decide +kernel
theorem dX1_aheadOf_19 : decode cX1_aheadOf 19 = .ok (.if_icmp .ge 101, 3) := by decide +kernel
theorem dX1_aheadOf_22 : decode cX1_aheadOf 22 = .ok (.aload_n 1, 1) := by decide +kernel
theorem dX1_aheadOf_23 : decode cX1_aheadOf 23 = .ok (.aload_n 2, 1) := by decide +kernel
theorem dX1_aheadOf_24 : decode cX1_aheadOf 24 = .ok (.iload 7, 2) := by decide +kernel
theorem dX1_aheadOf_26 : decode cX1_aheadOf 26 = .ok (.iaload, 1) := by decide +kernel
theorem dX1_aheadOf_27 : decode cX1_aheadOf 27 = .ok (.invokevirtual 46, 3) := by decide +kernel
theorem dX1_aheadOf_30 : decode cX1_aheadOf 30 = .ok (.istore 8, 2) := by decide +kernel
theorem dX1_aheadOf_32 : decode cX1_aheadOf 32 = .ok (.iconst 0, 1) := by decide +kernel
theorem dX1_aheadOf_33 : decode cX1_aheadOf 33 = .ok (.istore 9, 2) := by decide +kernel
theorem dX1_aheadOf_35 : decode cX1_aheadOf 35 = .ok (.iload 9, 2) := by decide +kernel
theorem dX1_aheadOf_37 : decode cX1_aheadOf 37 = .ok (.iload 8, 2) := by decide +kernel
theorem dX1_aheadOf_39 : decode cX1_aheadOf 39 = .ok (.if_icmp .gt 62, 3) := by decide +kernel
theorem dX1_aheadOf_42 : decode cX1_aheadOf 42 = .ok (.aload_n 1, 1) := by decide +kernel
theorem dX1_aheadOf_43 : decode cX1_aheadOf 43 = .ok (.iload 9, 2) := by decide +kernel
theorem dX1_aheadOf_45 : decode cX1_aheadOf 45 = .ok (.invokevirtual 49, 3) := by decide +kernel
theorem dX1_aheadOf_48 : decode cX1_aheadOf 48 = .ok (.aload_n 2, 1) := by decide +kernel
theorem dX1_aheadOf_49 : decode cX1_aheadOf 49 = .ok (.iload 7, 2) := by decide +kernel
theorem dX1_aheadOf_51 : decode cX1_aheadOf 51 = .ok (.iaload, 1) := by decide +kernel
theorem dX1_aheadOf_52 : decode cX1_aheadOf 52 = .ok (.invokestatic 52, 3) := by decide +kernel
theorem dX1_aheadOf_55 : decode cX1_aheadOf 55 = .ok (.aload_n 1, 1) := by decide +kernel
theorem dX1_aheadOf_56 : decode cX1_aheadOf 56 = .ok (.getfield 57, 3) := by decide +kernel
theorem dX1_aheadOf_59 : decode cX1_aheadOf 59 = .ok (.iload 9, 2) := by decide +kernel
theorem dX1_aheadOf_61 : decode cX1_aheadOf 61 = .ok (.iaload, 1) := by decide +kernel
theorem dX1_aheadOf_62 : decode cX1_aheadOf 62 = .ok (.isub, 1) := by decide +kernel
theorem dX1_aheadOf_63 : decode cX1_aheadOf 63 = .ok (.istore 10, 2) := by decide +kernel
theorem dX1_aheadOf_65 : decode cX1_aheadOf 65 = .ok (.lload 4, 2) := by decide +kernel
theorem dX1_aheadOf_67 : decode cX1_aheadOf 67 = .ok (.iload 10, 2) := by decide +kernel
theorem dX1_aheadOf_69 : decode cX1_aheadOf 69 = .ok (.i2l, 1) := by decide +kernel
theorem dX1_aheadOf_70 : decode cX1_aheadOf 70 = .ok (.aload_n 0, 1) := by decide +kernel
theorem dX1_aheadOf_71 : decode cX1_aheadOf 71 = .ok (.iload_n 3, 1) := by decide +kernel
theorem dX1_aheadOf_72 : decode cX1_aheadOf 72 = .ok (.iconst 1, 1) := by decide +kernel
theorem dX1_aheadOf_73 : decode cX1_aheadOf 73 = .ok (.isub, 1) := by decide +kernel
theorem dX1_aheadOf_74 : decode cX1_aheadOf 74 = .ok (.iload 7, 2) := by decide +kernel
theorem dX1_aheadOf_76 : decode cX1_aheadOf 76 = .ok (.isub, 1) := by decide +kernel
theorem dX1_aheadOf_77 : decode cX1_aheadOf 77 = .ok (.aload_n 1, 1) := by decide +kernel
theorem dX1_aheadOf_78 : decode cX1_aheadOf 78 = .ok (.getfield 15, 3) := by decide +kernel
theorem dX1_aheadOf_81 : decode cX1_aheadOf 81 = .ok (.iload 6, 2) := by decide +kernel
theorem dX1_aheadOf_83 : decode cX1_aheadOf 83 = .ok (.iload 9, 2) := by decide +kernel
theorem dX1_aheadOf_85 : decode cX1_aheadOf 85 = .ok (.invokevirtual 38, 3) := by decide +kernel
theorem dX1_aheadOf_88 : decode cX1_aheadOf 88 = .ok (.invokevirtual 42, 3) := by decide +kernel
theorem dX1_aheadOf_91 : decode cX1_aheadOf 91 = .ok (.lmul, 1) := by decide +kernel
theorem dX1_aheadOf_92 : decode cX1_aheadOf 92 = .ok (.ladd, 1) := by decide +kernel
theorem dX1_aheadOf_93 : decode cX1_aheadOf 93 = .ok (.lstore 4, 2) := by decide +kernel
theorem dX1_aheadOf_95 : decode cX1_aheadOf 95 = .ok (.iinc 9 1, 3) := by decide +kernel
theorem dX1_aheadOf_98 : decode cX1_aheadOf 98 = .ok (.goto (-63), 3) := by decide +kernel
theorem dX1_aheadOf_101 : decode cX1_aheadOf 101 = .ok (.aload_n 1, 1) := by decide +kernel
theorem dX1_aheadOf_102 : decode cX1_aheadOf 102 = .ok (.getfield 15, 3) := by decide +kernel
theorem dX1_aheadOf_105 : decode cX1_aheadOf 105 = .ok (.iload 6, 2) := by decide +kernel
theorem dX1_aheadOf_107 : decode cX1_aheadOf 107 = .ok (.iload 8, 2) := by decide +kernel
theorem dX1_aheadOf_109 : decode cX1_aheadOf 109 = .ok (.invokevirtual 38, 3) := by decide +kernel
theorem dX1_aheadOf_112 : decode cX1_aheadOf 112 = .ok (.istore 6, 2) := by decide +kernel
theorem dX1_aheadOf_114 : decode cX1_aheadOf 114 = .ok (.iinc 7 1, 3) := by decide +kernel
theorem dX1_aheadOf_117 : decode cX1_aheadOf 117 = .ok (.goto (-108), 3) := by decide +kernel
theorem dX1_aheadOf_120 : decode cX1_aheadOf 120 = .ok (.lload 4, 2) := by decide +kernel
theorem dX1_aheadOf_122 : decode cX1_aheadOf 122 = .ok (.lreturn, 1) := by decide +kernel
theorem dX1_letterOfKth_0 : decode cX1_letterOfKth 0 = .ok (.lload_n 3, 1) := by decide +kernel
theorem dX1_letterOfKth_1 : decode cX1_letterOfKth 1 = .ok (.lstore 6, 2) := by decide +kernel
theorem dX1_letterOfKth_3 : decode cX1_letterOfKth 3 = .ok (.iconst 0, 1) := by decide +kernel
theorem dX1_letterOfKth_4 : decode cX1_letterOfKth 4 = .ok (.istore 8, 2) := by decide +kernel
theorem dX1_letterOfKth_6 : decode cX1_letterOfKth 6 = .ok (.iconst (-1), 1) := by decide +kernel
theorem dX1_letterOfKth_7 : decode cX1_letterOfKth 7 = .ok (.istore 9, 2) := by decide +kernel
theorem dX1_letterOfKth_9 : decode cX1_letterOfKth 9 = .ok (.iload_n 2, 1) := by decide +kernel
theorem dX1_letterOfKth_10 : decode cX1_letterOfKth 10 = .ok (.iconst 1, 1) := by decide +kernel
theorem dX1_letterOfKth_11 : decode cX1_letterOfKth 11 = .ok (.isub, 1) := by decide +kernel
theorem dX1_letterOfKth_12 : decode cX1_letterOfKth 12 = .ok (.istore 10, 2) := by decide +kernel
theorem dX1_letterOfKth_14 : decode cX1_letterOfKth 14 = .ok (.iload 10, 2) := by decide +kernel
theorem dX1_letterOfKth_16 : decode cX1_letterOfKth 16 = .ok (.iload_n 2, 1) := by decide +kernel
theorem dX1_letterOfKth_17 : decode cX1_letterOfKth 17 = .ok (.iconst 1, 1) := by decide +kernel
theorem dX1_letterOfKth_18 : decode cX1_letterOfKth 18 = .ok (.isub, 1) := by decide +kernel
theorem dX1_letterOfKth_19 : decode cX1_letterOfKth 19 = .ok (.iload 5, 2) := by decide +kernel
theorem dX1_letterOfKth_21 : decode cX1_letterOfKth 21 = .ok (.isub, 1) := by decide +kernel
theorem dX1_letterOfKth_22 : decode cX1_letterOfKth 22 = .ok (.if_icmp .lt 147, 3) := by decide +kernel
theorem dX1_letterOfKth_25 : decode cX1_letterOfKth 25 = .ok (.iload 10, 2) := by decide +kernel
theorem dX1_letterOfKth_27 : decode cX1_letterOfKth 27 = .ok (.ifCond .lt 142, 3) := by decide +kernel
theorem dX1_letterOfKth_30 : decode cX1_letterOfKth 30 = .ok (.iconst 0, 1) := by decide +kernel
theorem dX1_letterOfKth_31 : decode cX1_letterOfKth 31 = .ok (.istore 11, 2) := by decide +kernel
theorem dX1_letterOfKth_33 : decode cX1_letterOfKth 33 = .ok (.aload_n 0, 1) := by decide +kernel
theorem dX1_letterOfKth_34 : decode cX1_letterOfKth 34 = .ok (.iload 10, 2) := by decide +kernel
theorem dX1_letterOfKth_36 : decode cX1_letterOfKth 36 = .ok (.aload_n 1, 1) := by decide +kernel
theorem dX1_letterOfKth_37 : decode cX1_letterOfKth 37 = .ok (.getfield 15, 3) := by decide +kernel
theorem dX1_letterOfKth_40 : decode cX1_letterOfKth 40 = .ok (.iload 8, 2) := by decide +kernel
theorem dX1_letterOfKth_42 : decode cX1_letterOfKth 42 = .ok (.iconst 0, 1) := by decide +kernel
theorem dX1_letterOfKth_43 : decode cX1_letterOfKth 43 = .ok (.invokevirtual 38, 3) := by decide +kernel
theorem dX1_letterOfKth_46 : decode cX1_letterOfKth 46 = .ok (.invokevirtual 42, 3) := by decide +kernel
theorem dX1_letterOfKth_49 : decode cX1_letterOfKth 49 = .ok (.lstore 12, 2) := by decide +kernel
theorem dX1_letterOfKth_51 : decode cX1_letterOfKth 51 = .ok (.iload 11, 2) := by decide +kernel
theorem dX1_letterOfKth_53 : decode cX1_letterOfKth 53 = .ok (.iconst 1, 1) := by decide +kernel
theorem dX1_letterOfKth_54 : decode cX1_letterOfKth 54 = .ok (.iadd, 1) := by decide +kernel
theorem dX1_letterOfKth_55 : decode cX1_letterOfKth 55 = .ok (.aload_n 1, 1) := by decide +kernel
theorem dX1_letterOfKth_56 : decode cX1_letterOfKth 56 = .ok (.getfield 31, 3) := by decide +kernel
theorem dX1_letterOfKth_59 : decode cX1_letterOfKth 59 = .ok (.if_icmp .ge 59, 3) := by decide +kernel
theorem dX1_letterOfKth_62 : decode cX1_letterOfKth 62 = .ok (.lload 6, 2) := by decide +kernel
theorem dX1_letterOfKth_64 : decode cX1_letterOfKth 64 = .ok (.aload_n 1, 1) := by decide +kernel
theorem dX1_letterOfKth_65 : decode cX1_letterOfKth 65 = .ok (.iload 11, 2) := by decide +kernel
theorem dX1_letterOfKth_67 : decode cX1_letterOfKth 67 = .ok (.invokevirtual 34, 3) := by decide +kernel
theorem dX1_letterOfKth_70 : decode cX1_letterOfKth 70 = .ok (.i2l, 1) := by decide +kernel
theorem dX1_letterOfKth_71 : decode cX1_letterOfKth 71 = .ok (.lload 12, 2) := by decide +kernel
theorem dX1_letterOfKth_73 : decode cX1_letterOfKth 73 = .ok (.lmul, 1) := by decide +kernel
theorem dX1_letterOfKth_74 : decode cX1_letterOfKth 74 = .ok (.lcmp, 1) := by decide +kernel
theorem dX1_letterOfKth_75 : decode cX1_letterOfKth 75 = .ok (.ifCond .lt 43, 3) := by decide +kernel
theorem dX1_letterOfKth_78 : decode cX1_letterOfKth 78 = .ok (.lload 6, 2) := by decide +kernel
theorem dX1_letterOfKth_80 : decode cX1_letterOfKth 80 = .ok (.aload_n 1, 1) := by decide +kernel
theorem dX1_letterOfKth_81 : decode cX1_letterOfKth 81 = .ok (.iload 11, 2) := by decide +kernel
theorem dX1_letterOfKth_83 : decode cX1_letterOfKth 83 = .ok (.invokevirtual 34, 3) := by decide +kernel
theorem dX1_letterOfKth_86 : decode cX1_letterOfKth 86 = .ok (.i2l, 1) := by decide +kernel
theorem dX1_letterOfKth_87 : decode cX1_letterOfKth 87 = .ok (.lload 12, 2) := by decide +kernel
theorem dX1_letterOfKth_89 : decode cX1_letterOfKth 89 = .ok (.lmul, 1) := by decide +kernel
theorem dX1_letterOfKth_90 : decode cX1_letterOfKth 90 = .ok (.lsub, 1) := by decide +kernel
theorem dX1_letterOfKth_91 : decode cX1_letterOfKth 91 = .ok (.lstore 6, 2) := by decide +kernel
theorem dX1_letterOfKth_93 : decode cX1_letterOfKth 93 = .ok (.iinc 11 1, 3) := by decide +kernel
theorem dX1_letterOfKth_96 : decode cX1_letterOfKth 96 = .ok (.aload_n 0, 1) := by decide +kernel
theorem dX1_letterOfKth_97 : decode cX1_letterOfKth 97 = .ok (.iload 10, 2) := by decide +kernel
theorem dX1_letterOfKth_99 : decode cX1_letterOfKth 99 = .ok (.aload_n 1, 1) := by decide +kernel
theorem dX1_letterOfKth_100 : decode cX1_letterOfKth 100 = .ok (.getfield 15, 3) := by decide +kernel
theorem dX1_letterOfKth_103 : decode cX1_letterOfKth 103 = .ok (.iload 8, 2) := by decide +kernel
theorem dX1_letterOfKth_105 : decode cX1_letterOfKth 105 = .ok (.iload 11, 2) := by decide +kernel
theorem dX1_letterOfKth_107 : decode cX1_letterOfKth 107 = .ok (.invokevirtual 38, 3) := by decide +kernel
theorem dX1_letterOfKth_110 : decode cX1_letterOfKth 110 = .ok (.invokevirtual 42, 3) := by decide +kernel
theorem dX1_letterOfKth_113 : decode cX1_letterOfKth 113 = .ok (.lstore 12, 2) := by decide +kernel
theorem dX1_letterOfKth_115 : decode cX1_letterOfKth 115 = .ok (.goto (-64), 3) := by decide +kernel
theorem dX1_letterOfKth_118 : decode cX1_letterOfKth 118 = .ok (.lload 12, 2) := by decide +kernel
theorem dX1_letterOfKth_120 : decode cX1_letterOfKth 120 = .ok (.lconst 0, 1) := by decide +kernel
theorem dX1_letterOfKth_121 : decode cX1_letterOfKth 121 = .ok (.lcmp, 1) := by decide +kernel
theorem dX1_letterOfKth_122 : decode cX1_letterOfKth 122 = .ok (.ifCond .gt 5, 3) := by decide +kernel
theorem dX1_letterOfKth_125 : decode cX1_letterOfKth 125 = .ok (.iconst (-1), 1) := by decide +kernel
theorem dX1_letterOfKth_126 : decode cX1_letterOfKth 126 = .ok (.ireturn, 1) := by decide +kernel
theorem dX1_letterOfKth_127 : decode cX1_letterOfKth 127 = .ok (.aload_n 1, 1) := by decide +kernel
theorem dX1_letterOfKth_128 : decode cX1_letterOfKth 128 = .ok (.getfield 57, 3) := by decide +kernel
theorem dX1_letterOfKth_131 : decode cX1_letterOfKth 131 = .ok (.iload 11, 2) := by decide +kernel
theorem dX1_letterOfKth_133 : decode cX1_letterOfKth 133 = .ok (.iaload, 1) := by decide +kernel
theorem dX1_letterOfKth_134 : decode cX1_letterOfKth 134 = .ok (.lload 6, 2) := by decide +kernel
theorem dX1_letterOfKth_136 : decode cX1_letterOfKth 136 = .ok (.lload 12, 2) := by decide +kernel
theorem dX1_letterOfKth_138 : decode cX1_letterOfKth 138 = .ok (.ldiv, 1) := by decide +kernel
theorem dX1_letterOfKth_139 : decode cX1_letterOfKth 139 = .ok (.l2i, 1) := by decide +kernel
theorem dX1_letterOfKth_140 : decode cX1_letterOfKth 140 = .ok (.iadd, 1) := by decide +kernel
theorem dX1_letterOfKth_141 : decode cX1_letterOfKth 141 = .ok (.istore 9, 2) := by decide +kernel
theorem dX1_letterOfKth_143 : decode cX1_letterOfKth 143 = .ok (.lload 6, 2) := by decide +kernel
theorem dX1_letterOfKth_145 : decode cX1_letterOfKth 145 = .ok (.lload 12, 2) := by decide +kernel
theorem dX1_letterOfKth_147 : decode cX1_letterOfKth 147 = .ok (.lrem, 1) := by decide +kernel
theorem dX1_letterOfKth_148 : decode cX1_letterOfKth 148 = .ok (.lstore 6, 2) := by decide +kernel
theorem dX1_letterOfKth_150 : decode cX1_letterOfKth 150 = .ok (.aload_n 1, 1) := by decide +kernel
theorem dX1_letterOfKth_151 : decode cX1_letterOfKth 151 = .ok (.getfield 15, 3) := by decide +kernel
theorem dX1_letterOfKth_154 : decode cX1_letterOfKth 154 = .ok (.iload 8, 2) := by decide +kernel
theorem dX1_letterOfKth_156 : decode cX1_letterOfKth 156 = .ok (.iload 11, 2) := by decide +kernel
theorem dX1_letterOfKth_158 : decode cX1_letterOfKth 158 = .ok (.invokevirtual 38, 3) := by decide +kernel
theorem dX1_letterOfKth_161 : decode cX1_letterOfKth 161 = .ok (.istore 8, 2) := by decide +kernel
theorem dX1_letterOfKth_163 : decode cX1_letterOfKth 163 = .ok (.iinc 10 (-1), 3) := by decide +kernel
theorem dX1_letterOfKth_166 : decode cX1_letterOfKth 166 = .ok (.goto (-152), 3) := by decide +kernel
theorem dX1_letterOfKth_169 : decode cX1_letterOfKth 169 = .ok (.iload 9, 2) := by decide +kernel
theorem dX1_letterOfKth_171 : decode cX1_letterOfKth 171 = .ok (.ireturn, 1) := by decide +kernel
theorem dX2_begin_0 : decode cX2_begin 0 = .ok (.aload_n 0, 1) := by decide +kernel
theorem dX2_begin_1 : decode cX2_begin 1 = .ok (.iload_n 1, 1) := by decide +kernel
theorem dX2_begin_2 : decode cX2_begin 2 = .ok (.putfield 34, 3) := by decide +kernel
theorem dX2_begin_5 : decode cX2_begin 5 = .ok (.aload_n 0, 1) := by decide +kernel
theorem dX2_begin_6 : decode cX2_begin 6 = .ok (.lconst 0, 1) := by decide +kernel
theorem dX2_begin_7 : decode cX2_begin 7 = .ok (.putfield 38, 3) := by decide +kernel
theorem dX2_begin_10 : decode cX2_begin 10 = .ok (.aload_n 0, 1) := by decide +kernel
theorem dX2_begin_11 : decode cX2_begin 11 = .ok (.iconst 0, 1) := by decide +kernel
theorem dX2_begin_12 : decode cX2_begin 12 = .ok (.putfield 42, 3) := by decide +kernel
theorem dX2_begin_15 : decode cX2_begin 15 = .ok (.aload_n 0, 1) := by decide +kernel
theorem dX2_begin_16 : decode cX2_begin 16 = .ok (.iconst 0, 1) := by decide +kernel
theorem dX2_begin_17 : decode cX2_begin 17 = .ok (.putfield 45, 3) := by decide +kernel
theorem dX2_begin_20 : decode cX2_begin 20 = .ok (.aload_n 0, 1) := by decide +kernel
theorem dX2_begin_21 : decode cX2_begin 21 = .ok (.iconst 1, 1) := by decide +kernel
theorem dX2_begin_22 : decode cX2_begin 22 = .ok (.putfield 48, 3) := by decide +kernel
theorem dX2_begin_25 : decode cX2_begin 25 = .ok (.aload_n 0, 1) := by decide +kernel
theorem dX2_begin_26 : decode cX2_begin 26 = .ok (.getfield 28, 3) := by decide +kernel
theorem dX2_begin_29 : decode cX2_begin 29 = .ok (.iconst 0, 1) := by decide +kernel
theorem dX2_begin_30 : decode cX2_begin 30 = .ok (.iconst 0, 1) := by decide +kernel
theorem dX2_begin_31 : decode cX2_begin 31 = .ok (.iastore, 1) := by decide +kernel
theorem dX2_begin_32 : decode cX2_begin 32 = .ok (.aload_n 0, 1) := by decide +kernel
theorem dX2_begin_33 : decode cX2_begin 33 = .ok (.iload_n 1, 1) := by decide +kernel
theorem dX2_begin_34 : decode cX2_begin 34 = .ok (.bipush 40, 2) := by decide +kernel
theorem dX2_begin_36 : decode cX2_begin 36 = .ok (.if_icmp .le 7, 3) := by decide +kernel
theorem dX2_begin_39 : decode cX2_begin 39 = .ok (.iconst 1, 1) := by decide +kernel
theorem dX2_begin_40 : decode cX2_begin 40 = .ok (.goto 4, 3) := by decide +kernel
theorem dX2_begin_43 : decode cX2_begin 43 = .ok (.iconst 0, 1) := by decide +kernel
theorem dX2_begin_44 : decode cX2_begin 44 = .ok (.putfield 51, 3) := by decide +kernel
theorem dX2_begin_47 : decode cX2_begin 47 = .ok (.return_, 1) := by decide +kernel
theorem dX2_cut_0 : decode cX2_cut 0 = .ok (.aload_n 0, 1) := by decide +kernel
theorem dX2_cut_1 : decode cX2_cut 1 = .ok (.getfield 48, 3) := by decide +kernel
theorem dX2_cut_4 : decode cX2_cut 4 = .ok (.istore_n 2, 1) := by decide +kernel
theorem dX2_cut_5 : decode cX2_cut 5 = .ok (.iload_n 2, 1) := by decide +kernel
theorem dX2_cut_6 : decode cX2_cut 6 = .ok (.ifCond .le 21, 3) := by decide +kernel
theorem dX2_cut_9 : decode cX2_cut 9 = .ok (.aload_n 0, 1) := by decide +kernel
theorem dX2_cut_10 : decode cX2_cut 10 = .ok (.getfield 28, 3) := by decide +kernel
theorem dX2_cut_13 : decode cX2_cut 13 = .ok (.iload_n 2, 1) := by decide +kernel
theorem dX2_cut_14 : decode cX2_cut 14 = .ok (.iconst 1, 1) := by decide +kernel
theorem dX2_cut_15 : decode cX2_cut 15 = .ok (.isub, 1) := by decide +kernel
theorem dX2_cut_16 : decode cX2_cut 16 = .ok (.iaload, 1) := by decide +kernel
theorem dX2_cut_17 : decode cX2_cut 17 = .ok (.iload_n 1, 1) := by decide +kernel
theorem dX2_cut_18 : decode cX2_cut 18 = .ok (.if_icmp .le 9, 3) := by decide +kernel
theorem dX2_cut_21 : decode cX2_cut 21 = .ok (.iinc 2 (-1), 3) := by decide +kernel
theorem dX2_cut_24 : decode cX2_cut 24 = .ok (.goto (-19), 3) := by decide +kernel
theorem dX2_cut_27 : decode cX2_cut 27 = .ok (.iload_n 1, 1) := by decide +kernel
theorem dX2_cut_28 : decode cX2_cut 28 = .ok (.ldc 55, 2) := by decide +kernel
theorem dX2_cut_30 : decode cX2_cut 30 = .ok (.if_icmp .ge 19, 3) := by decide +kernel
theorem dX2_cut_33 : decode cX2_cut 33 = .ok (.iload_n 2, 1) := by decide +kernel
theorem dX2_cut_34 : decode cX2_cut 34 = .ok (.ifCond .eq 15, 3) := by decide +kernel
theorem dX2_cut_37 : decode cX2_cut 37 = .ok (.aload_n 0, 1) := by decide +kernel
theorem dX2_cut_38 : decode cX2_cut 38 = .ok (.getfield 28, 3) := by decide +kernel
theorem dX2_cut_41 : decode cX2_cut 41 = .ok (.iload_n 2, 1) := by decide +kernel
theorem dX2_cut_42 : decode cX2_cut 42 = .ok (.iconst 1, 1) := by decide +kernel
theorem dX2_cut_43 : decode cX2_cut 43 = .ok (.isub, 1) := by decide +kernel
theorem dX2_cut_44 : decode cX2_cut 44 = .ok (.iaload, 1) := by decide +kernel
theorem dX2_cut_45 : decode cX2_cut 45 = .ok (.iload_n 1, 1) := by decide +kernel
theorem dX2_cut_46 : decode cX2_cut 46 = .ok (.if_icmp .ne 4, 3) := by decide +kernel
theorem dX2_cut_49 : decode cX2_cut 49 = .ok (.return_, 1) := by decide +kernel
theorem dX2_cut_50 : decode cX2_cut 50 = .ok (.aload_n 0, 1) := by decide +kernel
theorem dX2_cut_51 : decode cX2_cut 51 = .ok (.getfield 48, 3) := by decide +kernel
theorem dX2_cut_54 : decode cX2_cut 54 = .ok (.sipush 256, 3) := by decide +kernel
theorem dX2_cut_57 : decode cX2_cut 57 = .ok (.if_icmp .lt 9, 3) := by decide +kernel
theorem dX2_cut_60 : decode cX2_cut 60 = .ok (.aload_n 0, 1) := by decide +kernel
theorem dX2_cut_61 : decode cX2_cut 61 = .ok (.iconst 1, 1) := by decide +kernel
theorem dX2_cut_62 : decode cX2_cut 62 = .ok (.putfield 51, 3) := by decide +kernel
theorem dX2_cut_65 : decode cX2_cut 65 = .ok (.return_, 1) := by decide +kernel
theorem dX2_cut_66 : decode cX2_cut 66 = .ok (.aload_n 0, 1) := by decide +kernel
theorem dX2_cut_67 : decode cX2_cut 67 = .ok (.getfield 48, 3) := by decide +kernel
theorem dX2_cut_70 : decode cX2_cut 70 = .ok (.istore_n 3, 1) := by decide +kernel
theorem dX2_cut_71 : decode cX2_cut 71 = .ok (.iload_n 3, 1) := by decide +kernel
theorem dX2_cut_72 : decode cX2_cut 72 = .ok (.iload_n 2, 1) := by decide +kernel
theorem dX2_cut_73 : decode cX2_cut 73 = .ok (.if_icmp .le 23, 3) := by decide +kernel
theorem dX2_cut_76 : decode cX2_cut 76 = .ok (.aload_n 0, 1) := by decide +kernel
theorem dX2_cut_77 : decode cX2_cut 77 = .ok (.getfield 28, 3) := by decide +kernel
theorem dX2_cut_80 : decode cX2_cut 80 = .ok (.iload_n 3, 1) := by decide +kernel
theorem dX2_cut_81 : decode cX2_cut 81 = .ok (.aload_n 0, 1) := by decide +kernel
theorem dX2_cut_82 : decode cX2_cut 82 = .ok (.getfield 28, 3) := by decide +kernel
theorem dX2_cut_85 : decode cX2_cut 85 = .ok (.iload_n 3, 1) := by decide +kernel
theorem dX2_cut_86 : decode cX2_cut 86 = .ok (.iconst 1, 1) := by decide +kernel
theorem dX2_cut_87 : decode cX2_cut 87 = .ok (.isub, 1) := by decide +kernel
theorem dX2_cut_88 : decode cX2_cut 88 = .ok (.iaload, 1) := by decide +kernel
theorem dX2_cut_89 : decode cX2_cut 89 = .ok (.iastore, 1) := by decide +kernel
theorem dX2_cut_90 : decode cX2_cut 90 = .ok (.iinc 3 (-1), 3) := by decide +kernel
theorem dX2_cut_93 : decode cX2_cut 93 = .ok (.goto (-22), 3) := by decide +kernel
theorem dX2_cut_96 : decode cX2_cut 96 = .ok (.aload_n 0, 1) := by decide +kernel
theorem dX2_cut_97 : decode cX2_cut 97 = .ok (.getfield 28, 3) := by decide +kernel
theorem dX2_cut_100 : decode cX2_cut 100 = .ok (.iload_n 2, 1) := by decide +kernel
theorem dX2_cut_101 : decode cX2_cut 101 = .ok (.iload_n 1, 1) := by decide +kernel
theorem dX2_cut_102 : decode cX2_cut 102 = .ok (.iastore, 1) := by decide +kernel
theorem dX2_cut_103 : decode cX2_cut 103 = .ok (.aload_n 0, 1) := by decide +kernel
theorem dX2_cut_104 : decode cX2_cut 104 = .ok (.dup, 1) := by decide +kernel
theorem dX2_cut_105 : decode cX2_cut 105 = .ok (.getfield 48, 3) := by decide +kernel
theorem dX2_cut_108 : decode cX2_cut 108 = .ok (.iconst 1, 1) := by decide +kernel
theorem dX2_cut_109 : decode cX2_cut 109 = .ok (.iadd, 1) := by decide +kernel
theorem dX2_cut_110 : decode cX2_cut 110 = .ok (.putfield 48, 3) := by decide +kernel
theorem dX2_cut_113 : decode cX2_cut 113 = .ok (.return_, 1) := by decide +kernel
theorem dX2_cutBy_0 : decode cX2_cutBy 0 = .ok (.iconst 0, 1) := by decide +kernel
theorem dX2_cutBy_1 : decode cX2_cutBy 1 = .ok (.istore_n 2, 1) := by decide +kernel
theorem dX2_cutBy_2 : decode cX2_cutBy 2 = .ok (.iload_n 2, 1) := by decide +kernel
theorem dX2_cutBy_3 : decode cX2_cutBy 3 = .ok (.aload_n 1, 1) := by decide +kernel
theorem dX2_cutBy_4 : decode cX2_cutBy 4 = .ok (.getfield 56, 3) := by decide +kernel
theorem dX2_cutBy_7 : decode cX2_cutBy 7 = .ok (.if_icmp .ge 19, 3) := by decide +kernel
theorem dX2_cutBy_10 : decode cX2_cutBy 10 = .ok (.aload_n 0, 1) := by decide +kernel
theorem dX2_cutBy_11 : decode cX2_cutBy 11 = .ok (.aload_n 1, 1) := by decide +kernel
theorem dX2_cutBy_12 : decode cX2_cutBy 12 = .ok (.getfield 61, 3) := by decide +kernel
theorem dX2_cutBy_15 : decode cX2_cutBy 15 = .ok (.iload_n 2, 1) := by decide +kernel
theorem dX2_cutBy_16 : decode cX2_cutBy 16 = .ok (.iaload, 1) := by decide +kernel
theorem dX2_cutBy_17 : decode cX2_cutBy 17 = .ok (.invokevirtual 64, 3) := by decide +kernel
theorem dX2_cutBy_20 : decode cX2_cutBy 20 = .ok (.iinc 2 1, 3) := by decide +kernel
theorem dX2_cutBy_23 : decode cX2_cutBy 23 = .ok (.goto (-21), 3) := by decide +kernel
theorem dX2_cutBy_26 : decode cX2_cutBy 26 = .ok (.return_, 1) := by decide +kernel
theorem dX2_cutLike_0 : decode cX2_cutLike 0 = .ok (.iconst 0, 1) := by decide +kernel
theorem dX2_cutLike_1 : decode cX2_cutLike 1 = .ok (.istore_n 3, 1) := by decide +kernel
theorem dX2_cutLike_2 : decode cX2_cutLike 2 = .ok (.iload_n 3, 1) := by decide +kernel
theorem dX2_cutLike_3 : decode cX2_cutLike 3 = .ok (.aload_n 1, 1) := by decide +kernel
theorem dX2_cutLike_4 : decode cX2_cutLike 4 = .ok (.getfield 68, 3) := by decide +kernel
theorem dX2_cutLike_7 : decode cX2_cutLike 7 = .ok (.if_icmp .ge 21, 3) := by decide +kernel
theorem dX2_cutLike_10 : decode cX2_cutLike 10 = .ok (.aload_n 0, 1) := by decide +kernel
theorem dX2_cutLike_11 : decode cX2_cutLike 11 = .ok (.aload_n 1, 1) := by decide +kernel
theorem dX2_cutLike_12 : decode cX2_cutLike 12 = .ok (.getfield 71, 3) := by decide +kernel
theorem dX2_cutLike_15 : decode cX2_cutLike 15 = .ok (.iload_n 3, 1) := by decide +kernel
theorem dX2_cutLike_16 : decode cX2_cutLike 16 = .ok (.iaload, 1) := by decide +kernel
theorem dX2_cutLike_17 : decode cX2_cutLike 17 = .ok (.iload_n 2, 1) := by decide +kernel
theorem dX2_cutLike_18 : decode cX2_cutLike 18 = .ok (.iadd, 1) := by decide +kernel
theorem dX2_cutLike_19 : decode cX2_cutLike 19 = .ok (.invokevirtual 64, 3) := by decide +kernel
theorem dX2_cutLike_22 : decode cX2_cutLike 22 = .ok (.iinc 3 1, 3) := by decide +kernel
theorem dX2_cutLike_25 : decode cX2_cutLike 25 = .ok (.goto (-23), 3) := by decide +kernel
theorem dX2_cutLike_28 : decode cX2_cutLike 28 = .ok (.aload_n 0, 1) := by decide +kernel
theorem dX2_cutLike_29 : decode cX2_cutLike 29 = .ok (.ldc 55, 2) := by decide +kernel
theorem dX2_cutLike_31 : decode cX2_cutLike 31 = .ok (.iload_n 2, 1) := by decide +kernel
theorem dX2_cutLike_32 : decode cX2_cutLike 32 = .ok (.iadd, 1) := by decide +kernel
theorem dX2_cutLike_33 : decode cX2_cutLike 33 = .ok (.invokevirtual 64, 3) := by decide +kernel
theorem dX2_cutLike_36 : decode cX2_cutLike 36 = .ok (.return_, 1) := by decide +kernel
theorem dX2_trace_0 : decode cX2_trace 0 = .ok (.iconst 0, 1) := by decide +kernel
theorem dX2_trace_1 : decode cX2_trace 1 = .ok (.istore_n 3, 1) := by decide +kernel
theorem dX2_trace_2 : decode cX2_trace 2 = .ok (.iload_n 3, 1) := by decide +kernel
theorem dX2_trace_3 : decode cX2_trace 3 = .ok (.aload_n 0, 1) := by decide +kernel
theorem dX2_trace_4 : decode cX2_trace 4 = .ok (.getfield 48, 3) := by decide +kernel
theorem dX2_trace_7 : decode cX2_trace 7 = .ok (.if_icmp .ge 45, 3) := by decide +kernel
theorem dX2_trace_10 : decode cX2_trace 10 = .ok (.aload_n 0, 1) := by decide +kernel
theorem dX2_trace_11 : decode cX2_trace 11 = .ok (.getfield 28, 3) := by decide +kernel
theorem dX2_trace_14 : decode cX2_trace 14 = .ok (.iload_n 3, 1) := by decide +kernel
theorem dX2_trace_15 : decode cX2_trace 15 = .ok (.iaload, 1) := by decide +kernel
theorem dX2_trace_16 : decode cX2_trace 16 = .ok (.iload_n 2, 1) := by decide +kernel
theorem dX2_trace_17 : decode cX2_trace 17 = .ok (.isub, 1) := by decide +kernel
theorem dX2_trace_18 : decode cX2_trace 18 = .ok (.istore 4, 2) := by decide +kernel
theorem dX2_trace_20 : decode cX2_trace 20 = .ok (.aload_n 0, 1) := by decide +kernel
theorem dX2_trace_21 : decode cX2_trace 21 = .ok (.getfield 31, 3) := by decide +kernel
theorem dX2_trace_24 : decode cX2_trace 24 = .ok (.iload_n 3, 1) := by decide +kernel
theorem dX2_trace_25 : decode cX2_trace 25 = .ok (.iload 4, 2) := by decide +kernel
theorem dX2_trace_27 : decode cX2_trace 27 = .ok (.ldc 55, 2) := by decide +kernel
theorem dX2_trace_29 : decode cX2_trace 29 = .ok (.invokestatic 72, 3) := by decide +kernel
theorem dX2_trace_32 : decode cX2_trace 32 = .ok (.ifCond .eq 12, 3) := by decide +kernel
theorem dX2_trace_35 : decode cX2_trace 35 = .ok (.aload_n 1, 1) := by decide +kernel
theorem dX2_trace_36 : decode cX2_trace 36 = .ok (.iload 4, 2) := by decide +kernel
theorem dX2_trace_38 : decode cX2_trace 38 = .ok (.invokevirtual 76, 3) := by decide +kernel
theorem dX2_trace_41 : decode cX2_trace 41 = .ok (.goto 4, 3) := by decide +kernel
theorem dX2_trace_44 : decode cX2_trace 44 = .ok (.iconst (-1), 1) := by decide +kernel
theorem dX2_trace_45 : decode cX2_trace 45 = .ok (.iastore, 1) := by decide +kernel
theorem dX2_trace_46 : decode cX2_trace 46 = .ok (.iinc 3 1, 3) := by decide +kernel
theorem dX2_trace_49 : decode cX2_trace 49 = .ok (.goto (-47), 3) := by decide +kernel
theorem dX2_trace_52 : decode cX2_trace 52 = .ok (.return_, 1) := by decide +kernel
theorem dX2_leaveOutside_0 : decode cX2_leaveOutside 0 = .ok (.iconst 0, 1) := by decide +kernel
theorem dX2_leaveOutside_1 : decode cX2_leaveOutside 1 = .ok (.istore_n 2, 1) := by decide +kernel
theorem dX2_leaveOutside_2 : decode cX2_leaveOutside 2 = .ok (.iload_n 2, 1) := by decide +kernel
theorem dX2_leaveOutside_3 : decode cX2_leaveOutside 3 = .ok (.aload_n 0, 1) := by decide +kernel
theorem dX2_leaveOutside_4 : decode cX2_leaveOutside 4 = .ok (.getfield 48, 3) := by decide +kernel
theorem dX2_leaveOutside_7 : decode cX2_leaveOutside 7 = .ok (.if_icmp .ge 29, 3) := by decide +kernel
theorem dX2_leaveOutside_10 : decode cX2_leaveOutside 10 = .ok (.aload_n 1, 1) := by decide +kernel
theorem dX2_leaveOutside_11 : decode cX2_leaveOutside 11 = .ok (.aload_n 0, 1) := by decide +kernel
theorem dX2_leaveOutside_12 : decode cX2_leaveOutside 12 = .ok (.getfield 28, 3) := by decide +kernel
theorem dX2_leaveOutside_15 : decode cX2_leaveOutside 15 = .ok (.iload_n 2, 1) := by decide +kernel
theorem dX2_leaveOutside_16 : decode cX2_leaveOutside 16 = .ok (.iaload, 1) := by decide +kernel
theorem dX2_leaveOutside_17 : decode cX2_leaveOutside 17 = .ok (.invokevirtual 80, 3) := by decide +kernel
theorem dX2_leaveOutside_20 : decode cX2_leaveOutside 20 = .ok (.ifCond .ne 10, 3) := by decide +kernel
theorem dX2_leaveOutside_23 : decode cX2_leaveOutside 23 = .ok (.aload_n 0, 1) := by decide +kernel
theorem dX2_leaveOutside_24 : decode cX2_leaveOutside 24 = .ok (.getfield 31, 3) := by decide +kernel
theorem dX2_leaveOutside_27 : decode cX2_leaveOutside 27 = .ok (.iload_n 2, 1) := by decide +kernel
theorem dX2_leaveOutside_28 : decode cX2_leaveOutside 28 = .ok (.iconst (-1), 1) := by decide +kernel
theorem dX2_leaveOutside_29 : decode cX2_leaveOutside 29 = .ok (.iastore, 1) := by decide +kernel
theorem dX2_leaveOutside_30 : decode cX2_leaveOutside 30 = .ok (.iinc 2 1, 3) := by decide +kernel
theorem dX2_leaveOutside_33 : decode cX2_leaveOutside 33 = .ok (.goto (-31), 3) := by decide +kernel
theorem dX2_leaveOutside_36 : decode cX2_leaveOutside 36 = .ok (.return_, 1) := by decide +kernel
theorem dX2_addEdge_0 : decode cX2_addEdge 0 = .ok (.aload_n 0, 1) := by decide +kernel
theorem dX2_addEdge_1 : decode cX2_addEdge 1 = .ok (.getfield 42, 3) := by decide +kernel
theorem dX2_addEdge_4 : decode cX2_addEdge 4 = .ok (.sipush 160, 3) := by decide +kernel
theorem dX2_addEdge_7 : decode cX2_addEdge 7 = .ok (.if_icmp .lt 10, 3) := by decide +kernel
theorem dX2_addEdge_10 : decode cX2_addEdge 10 = .ok (.aload_n 0, 1) := by decide +kernel
theorem dX2_addEdge_11 : decode cX2_addEdge 11 = .ok (.iconst 1, 1) := by decide +kernel
theorem dX2_addEdge_12 : decode cX2_addEdge 12 = .ok (.putfield 51, 3) := by decide +kernel
theorem dX2_addEdge_15 : decode cX2_addEdge 15 = .ok (.iconst (-1), 1) := by decide +kernel
theorem dX2_addEdge_16 : decode cX2_addEdge 16 = .ok (.ireturn, 1) := by decide +kernel
theorem dX2_addEdge_17 : decode cX2_addEdge 17 = .ok (.aload_n 0, 1) := by decide +kernel
theorem dX2_addEdge_18 : decode cX2_addEdge 18 = .ok (.getfield 9, 3) := by decide +kernel
theorem dX2_addEdge_21 : decode cX2_addEdge 21 = .ok (.aload_n 0, 1) := by decide +kernel
theorem dX2_addEdge_22 : decode cX2_addEdge 22 = .ok (.getfield 42, 3) := by decide +kernel
theorem dX2_addEdge_25 : decode cX2_addEdge 25 = .ok (.iload_n 1, 1) := by decide +kernel
theorem dX2_addEdge_26 : decode cX2_addEdge 26 = .ok (.iastore, 1) := by decide +kernel
theorem dX2_addEdge_27 : decode cX2_addEdge 27 = .ok (.aload_n 0, 1) := by decide +kernel
theorem dX2_addEdge_28 : decode cX2_addEdge 28 = .ok (.getfield 15, 3) := by decide +kernel
theorem dX2_addEdge_31 : decode cX2_addEdge 31 = .ok (.aload_n 0, 1) := by decide +kernel
theorem dX2_addEdge_32 : decode cX2_addEdge 32 = .ok (.getfield 42, 3) := by decide +kernel
theorem dX2_addEdge_35 : decode cX2_addEdge 35 = .ok (.iload_n 2, 1) := by decide +kernel
theorem dX2_addEdge_36 : decode cX2_addEdge 36 = .ok (.iastore, 1) := by decide +kernel
theorem dX2_addEdge_37 : decode cX2_addEdge 37 = .ok (.iconst 0, 1) := by decide +kernel
theorem dX2_addEdge_38 : decode cX2_addEdge 38 = .ok (.istore_n 3, 1) := by decide +kernel
theorem dX2_addEdge_39 : decode cX2_addEdge 39 = .ok (.iload_n 3, 1) := by decide +kernel
theorem dX2_addEdge_40 : decode cX2_addEdge 40 = .ok (.iconst 4, 1) := by decide +kernel
theorem dX2_addEdge_41 : decode cX2_addEdge 41 = .ok (.if_icmp .ge 23, 3) := by decide +kernel
theorem dX2_addEdge_44 : decode cX2_addEdge 44 = .ok (.aload_n 0, 1) := by decide +kernel
theorem dX2_addEdge_45 : decode cX2_addEdge 45 = .ok (.getfield 18, 3) := by decide +kernel
theorem dX2_addEdge_48 : decode cX2_addEdge 48 = .ok (.aload_n 0, 1) := by decide +kernel
theorem dX2_addEdge_49 : decode cX2_addEdge 49 = .ok (.getfield 42, 3) := by decide +kernel
theorem dX2_addEdge_52 : decode cX2_addEdge 52 = .ok (.iconst 4, 1) := by decide +kernel
theorem dX2_addEdge_53 : decode cX2_addEdge 53 = .ok (.imul, 1) := by decide +kernel
theorem dX2_addEdge_54 : decode cX2_addEdge 54 = .ok (.iload_n 3, 1) := by decide +kernel
theorem dX2_addEdge_55 : decode cX2_addEdge 55 = .ok (.iadd, 1) := by decide +kernel
theorem dX2_addEdge_56 : decode cX2_addEdge 56 = .ok (.lconst 0, 1) := by decide +kernel
theorem dX2_addEdge_57 : decode cX2_addEdge 57 = .ok (.lastore, 1) := by decide +kernel
theorem dX2_addEdge_58 : decode cX2_addEdge 58 = .ok (.iinc 3 1, 3) := by decide +kernel
theorem dX2_addEdge_61 : decode cX2_addEdge 61 = .ok (.goto (-22), 3) := by decide +kernel
theorem dX2_addEdge_64 : decode cX2_addEdge 64 = .ok (.aload_n 0, 1) := by decide +kernel
theorem dX2_addEdge_65 : decode cX2_addEdge 65 = .ok (.dup, 1) := by decide +kernel
theorem dX2_addEdge_66 : decode cX2_addEdge 66 = .ok (.getfield 42, 3) := by decide +kernel
theorem dX2_addEdge_69 : decode cX2_addEdge 69 = .ok (.iconst 1, 1) := by decide +kernel
theorem dX2_addEdge_70 : decode cX2_addEdge 70 = .ok (.iadd, 1) := by decide +kernel
theorem dX2_addEdge_71 : decode cX2_addEdge 71 = .ok (.putfield 42, 3) := by decide +kernel
theorem dX2_addEdge_74 : decode cX2_addEdge 74 = .ok (.aload_n 0, 1) := by decide +kernel
theorem dX2_addEdge_75 : decode cX2_addEdge 75 = .ok (.getfield 42, 3) := by decide +kernel
theorem dX2_addEdge_78 : decode cX2_addEdge 78 = .ok (.iconst 1, 1) := by decide +kernel
theorem dX2_addEdge_79 : decode cX2_addEdge 79 = .ok (.isub, 1) := by decide +kernel
theorem dX2_addEdge_80 : decode cX2_addEdge 80 = .ok (.ireturn, 1) := by decide +kernel
theorem dX2_addFree_0 : decode cX2_addFree 0 = .ok (.aload_n 0, 1) := by decide +kernel
theorem dX2_addFree_1 : decode cX2_addFree 1 = .ok (.getfield 45, 3) := by decide +kernel
theorem dX2_addFree_4 : decode cX2_addFree 4 = .ok (.bipush 64, 2) := by decide +kernel
theorem dX2_addFree_6 : decode cX2_addFree 6 = .ok (.if_icmp .lt 9, 3) := by decide +kernel
theorem dX2_addFree_9 : decode cX2_addFree 9 = .ok (.aload_n 0, 1) := by decide +kernel
theorem dX2_addFree_10 : decode cX2_addFree 10 = .ok (.iconst 1, 1) := by decide +kernel
theorem dX2_addFree_11 : decode cX2_addFree 11 = .ok (.putfield 51, 3) := by decide +kernel
theorem dX2_addFree_14 : decode cX2_addFree 14 = .ok (.return_, 1) := by decide +kernel
theorem dX2_addFree_15 : decode cX2_addFree 15 = .ok (.aload_n 0, 1) := by decide +kernel
theorem dX2_addFree_16 : decode cX2_addFree 16 = .ok (.getfield 22, 3) := by decide +kernel
theorem dX2_addFree_19 : decode cX2_addFree 19 = .ok (.aload_n 0, 1) := by decide +kernel
theorem dX2_addFree_20 : decode cX2_addFree 20 = .ok (.getfield 45, 3) := by decide +kernel
theorem dX2_addFree_23 : decode cX2_addFree 23 = .ok (.iload_n 1, 1) := by decide +kernel
theorem dX2_addFree_24 : decode cX2_addFree 24 = .ok (.iastore, 1) := by decide +kernel
theorem dX2_addFree_25 : decode cX2_addFree 25 = .ok (.aload_n 0, 1) := by decide +kernel
theorem dX2_addFree_26 : decode cX2_addFree 26 = .ok (.getfield 25, 3) := by decide +kernel
theorem dX2_addFree_29 : decode cX2_addFree 29 = .ok (.aload_n 0, 1) := by decide +kernel
theorem dX2_addFree_30 : decode cX2_addFree 30 = .ok (.getfield 45, 3) := by decide +kernel
theorem dX2_addFree_33 : decode cX2_addFree 33 = .ok (.iload_n 2, 1) := by decide +kernel
theorem dX2_addFree_34 : decode cX2_addFree 34 = .ok (.iastore, 1) := by decide +kernel
theorem dX2_addFree_35 : decode cX2_addFree 35 = .ok (.aload_n 0, 1) := by decide +kernel
theorem dX2_addFree_36 : decode cX2_addFree 36 = .ok (.dup, 1) := by decide +kernel
theorem dX2_addFree_37 : decode cX2_addFree 37 = .ok (.getfield 45, 3) := by decide +kernel
theorem dX2_addFree_40 : decode cX2_addFree 40 = .ok (.iconst 1, 1) := by decide +kernel
theorem dX2_addFree_41 : decode cX2_addFree 41 = .ok (.iadd, 1) := by decide +kernel
theorem dX2_addFree_42 : decode cX2_addFree 42 = .ok (.putfield 45, 3) := by decide +kernel
theorem dX2_addFree_45 : decode cX2_addFree 45 = .ok (.return_, 1) := by decide +kernel
theorem dX2_freeFromEach_0 : decode cX2_freeFromEach 0 = .ok (.iconst 0, 1) := by decide +kernel
theorem dX2_freeFromEach_1 : decode cX2_freeFromEach 1 = .ok (.istore 5, 2) := by decide +kernel
theorem dX2_freeFromEach_3 : decode cX2_freeFromEach 3 = .ok (.iload 5, 2) := by decide +kernel
theorem dX2_freeFromEach_5 : decode cX2_freeFromEach 5 = .ok (.bipush 40, 2) := by decide +kernel
theorem dX2_freeFromEach_7 : decode cX2_freeFromEach 7 = .ok (.if_icmp .ge 30, 3) := by decide +kernel
theorem dX2_freeFromEach_10 : decode cX2_freeFromEach 10 = .ok (.lload_n 1, 1) := by decide +kernel
theorem dX2_freeFromEach_11 : decode cX2_freeFromEach 11 = .ok (.iload 5, 2) := by decide +kernel
theorem dX2_freeFromEach_13 : decode cX2_freeFromEach 13 = .ok (.lushr, 1) := by decide +kernel
theorem dX2_freeFromEach_14 : decode cX2_freeFromEach 14 = .ok (.lconst 1, 1) := by decide +kernel
theorem dX2_freeFromEach_15 : decode cX2_freeFromEach 15 = .ok (.land, 1) := by decide +kernel
theorem dX2_freeFromEach_16 : decode cX2_freeFromEach 16 = .ok (.lconst 1, 1) := by decide +kernel
theorem dX2_freeFromEach_17 : decode cX2_freeFromEach 17 = .ok (.lcmp, 1) := by decide +kernel
theorem dX2_freeFromEach_18 : decode cX2_freeFromEach 18 = .ok (.ifCond .ne 13, 3) := by decide +kernel
theorem dX2_freeFromEach_21 : decode cX2_freeFromEach 21 = .ok (.aload_n 0, 1) := by decide +kernel
theorem dX2_freeFromEach_22 : decode cX2_freeFromEach 22 = .ok (.iload 5, 2) := by decide +kernel
theorem dX2_freeFromEach_24 : decode cX2_freeFromEach 24 = .ok (.iload_n 3, 1) := by decide +kernel
theorem dX2_freeFromEach_25 : decode cX2_freeFromEach 25 = .ok (.iadd, 1) := by decide +kernel
theorem dX2_freeFromEach_26 : decode cX2_freeFromEach 26 = .ok (.iload 4, 2) := by decide +kernel
theorem dX2_freeFromEach_28 : decode cX2_freeFromEach 28 = .ok (.invokevirtual 84, 3) := by decide +kernel
theorem dX2_freeFromEach_31 : decode cX2_freeFromEach 31 = .ok (.iinc 5 1, 3) := by decide +kernel
theorem dX2_freeFromEach_34 : decode cX2_freeFromEach 34 = .ok (.goto (-31), 3) := by decide +kernel
theorem dX2_freeFromEach_37 : decode cX2_freeFromEach 37 = .ok (.return_, 1) := by decide +kernel
theorem dX2_freeToEach_0 : decode cX2_freeToEach 0 = .ok (.iconst 0, 1) := by decide +kernel
theorem dX2_freeToEach_1 : decode cX2_freeToEach 1 = .ok (.istore 4, 2) := by decide +kernel
theorem dX2_freeToEach_3 : decode cX2_freeToEach 3 = .ok (.iload 4, 2) := by decide +kernel
theorem dX2_freeToEach_5 : decode cX2_freeToEach 5 = .ok (.bipush 40, 2) := by decide +kernel
theorem dX2_freeToEach_7 : decode cX2_freeToEach 7 = .ok (.if_icmp .ge 29, 3) := by decide +kernel
theorem dX2_freeToEach_10 : decode cX2_freeToEach 10 = .ok (.lload_n 1, 1) := by decide +kernel
theorem dX2_freeToEach_11 : decode cX2_freeToEach 11 = .ok (.iload 4, 2) := by decide +kernel
theorem dX2_freeToEach_13 : decode cX2_freeToEach 13 = .ok (.lushr, 1) := by decide +kernel
theorem dX2_freeToEach_14 : decode cX2_freeToEach 14 = .ok (.lconst 1, 1) := by decide +kernel
theorem dX2_freeToEach_15 : decode cX2_freeToEach 15 = .ok (.land, 1) := by decide +kernel
theorem dX2_freeToEach_16 : decode cX2_freeToEach 16 = .ok (.lconst 1, 1) := by decide +kernel
theorem dX2_freeToEach_17 : decode cX2_freeToEach 17 = .ok (.lcmp, 1) := by decide +kernel
theorem dX2_freeToEach_18 : decode cX2_freeToEach 18 = .ok (.ifCond .ne 12, 3) := by decide +kernel
theorem dX2_freeToEach_21 : decode cX2_freeToEach 21 = .ok (.aload_n 0, 1) := by decide +kernel
theorem dX2_freeToEach_22 : decode cX2_freeToEach 22 = .ok (.iconst 0, 1) := by decide +kernel
theorem dX2_freeToEach_23 : decode cX2_freeToEach 23 = .ok (.iload 4, 2) := by decide +kernel
theorem dX2_freeToEach_25 : decode cX2_freeToEach 25 = .ok (.iload_n 3, 1) := by decide +kernel
theorem dX2_freeToEach_26 : decode cX2_freeToEach 26 = .ok (.iadd, 1) := by decide +kernel
theorem dX2_freeToEach_27 : decode cX2_freeToEach 27 = .ok (.invokevirtual 84, 3) := by decide +kernel
theorem dX2_freeToEach_30 : decode cX2_freeToEach 30 = .ok (.iinc 4 1, 3) := by decide +kernel
theorem dX2_freeToEach_33 : decode cX2_freeToEach 33 = .ok (.goto (-30), 3) := by decide +kernel
theorem dX2_freeToEach_36 : decode cX2_freeToEach 36 = .ok (.return_, 1) := by decide +kernel
theorem dX2_isMarked_0 : decode cX2_isMarked 0 = .ok (.aload_n 0, 1) := by decide +kernel
theorem dX2_isMarked_1 : decode cX2_isMarked 1 = .ok (.getfield 18, 3) := by decide +kernel
theorem dX2_isMarked_4 : decode cX2_isMarked 4 = .ok (.iload_n 1, 1) := by decide +kernel
theorem dX2_isMarked_5 : decode cX2_isMarked 5 = .ok (.iconst 4, 1) := by decide +kernel
theorem dX2_isMarked_6 : decode cX2_isMarked 6 = .ok (.imul, 1) := by decide +kernel
theorem dX2_isMarked_7 : decode cX2_isMarked 7 = .ok (.iload_n 2, 1) := by decide +kernel
theorem dX2_isMarked_8 : decode cX2_isMarked 8 = .ok (.bipush 64, 2) := by decide +kernel
theorem dX2_isMarked_10 : decode cX2_isMarked 10 = .ok (.idiv, 1) := by decide +kernel
theorem dX2_isMarked_11 : decode cX2_isMarked 11 = .ok (.iadd, 1) := by decide +kernel
theorem dX2_isMarked_12 : decode cX2_isMarked 12 = .ok (.laload, 1) := by decide +kernel
theorem dX2_isMarked_13 : decode cX2_isMarked 13 = .ok (.iload_n 2, 1) := by decide +kernel
theorem dX2_isMarked_14 : decode cX2_isMarked 14 = .ok (.bipush 64, 2) := by decide +kernel
theorem dX2_isMarked_16 : decode cX2_isMarked 16 = .ok (.irem, 1) := by decide +kernel
theorem dX2_isMarked_17 : decode cX2_isMarked 17 = .ok (.lushr, 1) := by decide +kernel
theorem dX2_isMarked_18 : decode cX2_isMarked 18 = .ok (.lconst 1, 1) := by decide +kernel
theorem dX2_isMarked_19 : decode cX2_isMarked 19 = .ok (.land, 1) := by decide +kernel
theorem dX2_isMarked_20 : decode cX2_isMarked 20 = .ok (.lconst 1, 1) := by decide +kernel
theorem dX2_isMarked_21 : decode cX2_isMarked 21 = .ok (.lcmp, 1) := by decide +kernel
theorem dX2_isMarked_22 : decode cX2_isMarked 22 = .ok (.ifCond .ne 7, 3) := by decide +kernel
theorem dX2_isMarked_25 : decode cX2_isMarked 25 = .ok (.iconst 1, 1) := by decide +kernel
theorem dX2_isMarked_26 : decode cX2_isMarked 26 = .ok (.goto 4, 3) := by decide +kernel
theorem dX2_isMarked_29 : decode cX2_isMarked 29 = .ok (.iconst 0, 1) := by decide +kernel
theorem dX2_isMarked_30 : decode cX2_isMarked 30 = .ok (.ireturn, 1) := by decide +kernel
theorem dX2_mark_0 : decode cX2_mark 0 = .ok (.aload_n 0, 1) := by decide +kernel
theorem dX2_mark_1 : decode cX2_mark 1 = .ok (.getfield 18, 3) := by decide +kernel
theorem dX2_mark_4 : decode cX2_mark 4 = .ok (.iload_n 1, 1) := by decide +kernel
theorem dX2_mark_5 : decode cX2_mark 5 = .ok (.iconst 4, 1) := by decide +kernel
theorem dX2_mark_6 : decode cX2_mark 6 = .ok (.imul, 1) := by decide +kernel
theorem dX2_mark_7 : decode cX2_mark 7 = .ok (.iload_n 2, 1) := by decide +kernel
theorem dX2_mark_8 : decode cX2_mark 8 = .ok (.bipush 64, 2) := by decide +kernel
theorem dX2_mark_10 : decode cX2_mark 10 = .ok (.idiv, 1) := by decide +kernel
theorem dX2_mark_11 : decode cX2_mark 11 = .ok (.iadd, 1) := by decide +kernel
theorem dX2_mark_12 : decode cX2_mark 12 = .ok (.dup2, 1) := by decide +kernel
theorem dX2_mark_13 : decode cX2_mark 13 = .ok (.laload, 1) := by decide +kernel
theorem dX2_mark_14 : decode cX2_mark 14 = .ok (.lconst 1, 1) := by decide +kernel
theorem dX2_mark_15 : decode cX2_mark 15 = .ok (.iload_n 2, 1) := by decide +kernel
theorem dX2_mark_16 : decode cX2_mark 16 = .ok (.bipush 64, 2) := by decide +kernel
theorem dX2_mark_18 : decode cX2_mark 18 = .ok (.irem, 1) := by decide +kernel
theorem dX2_mark_19 : decode cX2_mark 19 = .ok (.lshl, 1) := by decide +kernel
theorem dX2_mark_20 : decode cX2_mark 20 = .ok (.lor, 1) := by decide +kernel
theorem dX2_mark_21 : decode cX2_mark 21 = .ok (.lastore, 1) := by decide +kernel
theorem dX2_mark_22 : decode cX2_mark 22 = .ok (.return_, 1) := by decide +kernel
theorem dX2_markSet_0 : decode cX2_markSet 0 = .ok (.iconst 0, 1) := by decide +kernel
theorem dX2_markSet_1 : decode cX2_markSet 1 = .ok (.istore_n 3, 1) := by decide +kernel
theorem dX2_markSet_2 : decode cX2_markSet 2 = .ok (.iload_n 3, 1) := by decide +kernel
theorem dX2_markSet_3 : decode cX2_markSet 3 = .ok (.aload_n 0, 1) := by decide +kernel
theorem dX2_markSet_4 : decode cX2_markSet 4 = .ok (.getfield 48, 3) := by decide +kernel
theorem dX2_markSet_7 : decode cX2_markSet 7 = .ok (.if_icmp .ge 28, 3) := by decide +kernel
theorem dX2_markSet_10 : decode cX2_markSet 10 = .ok (.aload_n 2, 1) := by decide +kernel
theorem dX2_markSet_11 : decode cX2_markSet 11 = .ok (.aload_n 0, 1) := by decide +kernel
theorem dX2_markSet_12 : decode cX2_markSet 12 = .ok (.getfield 28, 3) := by decide +kernel
theorem dX2_markSet_15 : decode cX2_markSet 15 = .ok (.iload_n 3, 1) := by decide +kernel
theorem dX2_markSet_16 : decode cX2_markSet 16 = .ok (.iaload, 1) := by decide +kernel
theorem dX2_markSet_17 : decode cX2_markSet 17 = .ok (.invokevirtual 80, 3) := by decide +kernel
theorem dX2_markSet_20 : decode cX2_markSet 20 = .ok (.ifCond .eq 9, 3) := by decide +kernel
theorem dX2_markSet_23 : decode cX2_markSet 23 = .ok (.aload_n 0, 1) := by decide +kernel
theorem dX2_markSet_24 : decode cX2_markSet 24 = .ok (.iload_n 1, 1) := by decide +kernel
theorem dX2_markSet_25 : decode cX2_markSet 25 = .ok (.iload_n 3, 1) := by decide +kernel
theorem dX2_markSet_26 : decode cX2_markSet 26 = .ok (.invokevirtual 88, 3) := by decide +kernel
theorem dX2_markSet_29 : decode cX2_markSet 29 = .ok (.iinc 3 1, 3) := by decide +kernel
theorem dX2_markSet_32 : decode cX2_markSet 32 = .ok (.goto (-30), 3) := by decide +kernel
theorem dX2_markSet_35 : decode cX2_markSet 35 = .ok (.return_, 1) := by decide +kernel
theorem dX2_lead_0 : decode cX2_lead 0 = .ok (.aload_n 0, 1) := by decide +kernel
theorem dX2_lead_1 : decode cX2_lead 1 = .ok (.getfield 42, 3) := by decide +kernel
theorem dX2_lead_4 : decode cX2_lead 4 = .ok (.iconst 1, 1) := by decide +kernel
theorem dX2_lead_5 : decode cX2_lead 5 = .ok (.isub, 1) := by decide +kernel
theorem dX2_lead_6 : decode cX2_lead 6 = .ok (.istore 4, 2) := by decide +kernel
theorem dX2_lead_8 : decode cX2_lead 8 = .ok (.iload 4, 2) := by decide +kernel
theorem dX2_lead_10 : decode cX2_lead 10 = .ok (.ifCond .lt 31, 3) := by decide +kernel
theorem dX2_lead_13 : decode cX2_lead 13 = .ok (.aload_n 0, 1) := by decide +kernel
theorem dX2_lead_14 : decode cX2_lead 14 = .ok (.getfield 9, 3) := by decide +kernel
theorem dX2_lead_17 : decode cX2_lead 17 = .ok (.iload 4, 2) := by decide +kernel
theorem dX2_lead_19 : decode cX2_lead 19 = .ok (.iaload, 1) := by decide +kernel
theorem dX2_lead_20 : decode cX2_lead 20 = .ok (.iload_n 1, 1) := by decide +kernel
theorem dX2_lead_21 : decode cX2_lead 21 = .ok (.if_icmp .ne 20, 3) := by decide +kernel
theorem dX2_lead_24 : decode cX2_lead 24 = .ok (.aload_n 0, 1) := by decide +kernel
theorem dX2_lead_25 : decode cX2_lead 25 = .ok (.getfield 15, 3) := by decide +kernel
theorem dX2_lead_28 : decode cX2_lead 28 = .ok (.iload 4, 2) := by decide +kernel
theorem dX2_lead_30 : decode cX2_lead 30 = .ok (.iaload, 1) := by decide +kernel
theorem dX2_lead_31 : decode cX2_lead 31 = .ok (.iload_n 2, 1) := by decide +kernel
theorem dX2_lead_32 : decode cX2_lead 32 = .ok (.if_icmp .eq 9, 3) := by decide +kernel
theorem dX2_lead_35 : decode cX2_lead 35 = .ok (.iinc 4 (-1), 3) := by decide +kernel
theorem dX2_lead_38 : decode cX2_lead 38 = .ok (.goto (-30), 3) := by decide +kernel
theorem dX2_lead_41 : decode cX2_lead 41 = .ok (.iload 4, 2) := by decide +kernel
theorem dX2_lead_43 : decode cX2_lead 43 = .ok (.ifCond .lt 14, 3) := by decide +kernel
theorem dX2_lead_46 : decode cX2_lead 46 = .ok (.aload_n 0, 1) := by decide +kernel
theorem dX2_lead_47 : decode cX2_lead 47 = .ok (.getfield 9, 3) := by decide +kernel
theorem dX2_lead_50 : decode cX2_lead 50 = .ok (.iload 4, 2) := by decide +kernel
theorem dX2_lead_52 : decode cX2_lead 52 = .ok (.iaload, 1) := by decide +kernel
theorem dX2_lead_53 : decode cX2_lead 53 = .ok (.iload_n 1, 1) := by decide +kernel
theorem dX2_lead_54 : decode cX2_lead 54 = .ok (.if_icmp .eq 11, 3) := by decide +kernel
theorem dX2_lead_57 : decode cX2_lead 57 = .ok (.aload_n 0, 1) := by decide +kernel
theorem dX2_lead_58 : decode cX2_lead 58 = .ok (.iload_n 1, 1) := by decide +kernel
theorem dX2_lead_59 : decode cX2_lead 59 = .ok (.iload_n 2, 1) := by decide +kernel
theorem dX2_lead_60 : decode cX2_lead 60 = .ok (.invokevirtual 91, 3) := by decide +kernel
theorem dX2_lead_63 : decode cX2_lead 63 = .ok (.istore 4, 2) := by decide +kernel
theorem dX2_lead_65 : decode cX2_lead 65 = .ok (.iload 4, 2) := by decide +kernel
theorem dX2_lead_67 : decode cX2_lead 67 = .ok (.ifCond .lt 10, 3) := by decide +kernel
theorem dX2_lead_70 : decode cX2_lead 70 = .ok (.aload_n 0, 1) := by decide +kernel
theorem dX2_lead_71 : decode cX2_lead 71 = .ok (.iload 4, 2) := by decide +kernel
theorem dX2_lead_73 : decode cX2_lead 73 = .ok (.iload_n 3, 1) := by decide +kernel
theorem dX2_lead_74 : decode cX2_lead 74 = .ok (.invokevirtual 88, 3) := by decide +kernel
theorem dX2_lead_77 : decode cX2_lead 77 = .ok (.return_, 1) := by decide +kernel
theorem dX2_copyWhole_0 : decode cX2_copyWhole 0 = .ok (.aload_n 0, 1) := by decide +kernel
theorem dX2_copyWhole_1 : decode cX2_copyWhole 1 = .ok (.aload_n 1, 1) := by decide +kernel
theorem dX2_copyWhole_2 : decode cX2_copyWhole 2 = .ok (.iconst 0, 1) := by decide +kernel
theorem dX2_copyWhole_3 : decode cX2_copyWhole 3 = .ok (.invokevirtual 95, 3) := by decide +kernel
theorem dX2_copyWhole_6 : decode cX2_copyWhole 6 = .ok (.aload_n 0, 1) := by decide +kernel
theorem dX2_copyWhole_7 : decode cX2_copyWhole 7 = .ok (.aload_n 1, 1) := by decide +kernel
theorem dX2_copyWhole_8 : decode cX2_copyWhole 8 = .ok (.iconst 0, 1) := by decide +kernel
theorem dX2_copyWhole_9 : decode cX2_copyWhole 9 = .ok (.invokevirtual 99, 3) := by decide +kernel
theorem dX2_copyWhole_12 : decode cX2_copyWhole 12 = .ok (.aload_n 0, 1) := by decide +kernel
theorem dX2_copyWhole_13 : decode cX2_copyWhole 13 = .ok (.aload_n 1, 1) := by decide +kernel
theorem dX2_copyWhole_14 : decode cX2_copyWhole 14 = .ok (.iload_n 2, 1) := by decide +kernel
theorem dX2_copyWhole_15 : decode cX2_copyWhole 15 = .ok (.iload_n 3, 1) := by decide +kernel
theorem dX2_copyWhole_16 : decode cX2_copyWhole 16 = .ok (.invokevirtual 102, 3) := by decide +kernel
theorem dX2_copyWhole_19 : decode cX2_copyWhole 19 = .ok (.aload_n 0, 1) := by decide +kernel
theorem dX2_copyWhole_20 : decode cX2_copyWhole 20 = .ok (.aload_n 1, 1) := by decide +kernel
theorem dX2_copyWhole_21 : decode cX2_copyWhole 21 = .ok (.iload_n 2, 1) := by decide +kernel
theorem dX2_copyWhole_22 : decode cX2_copyWhole 22 = .ok (.iload_n 3, 1) := by decide +kernel
theorem dX2_copyWhole_23 : decode cX2_copyWhole 23 = .ok (.invokevirtual 106, 3) := by decide +kernel
theorem dX2_copyWhole_26 : decode cX2_copyWhole 26 = .ok (.return_, 1) := by decide +kernel
theorem dX2_copyEdges_0 : decode cX2_copyEdges 0 = .ok (.iconst 0, 1) := by decide +kernel
theorem dX2_copyEdges_1 : decode cX2_copyEdges 1 = .ok (.istore 4, 2) := by decide +kernel
theorem dX2_copyEdges_3 : decode cX2_copyEdges 3 = .ok (.iload 4, 2) := by decide +kernel
theorem dX2_copyEdges_5 : decode cX2_copyEdges 5 = .ok (.aload_n 1, 1) := by decide +kernel
theorem dX2_copyEdges_6 : decode cX2_copyEdges 6 = .ok (.getfield 109, 3) := by decide +kernel
theorem dX2_copyEdges_9 : decode cX2_copyEdges 9 = .ok (.if_icmp .ge 75, 3) := by decide +kernel
theorem dX2_copyEdges_12 : decode cX2_copyEdges 12 = .ok (.iload_n 3, 1) := by decide +kernel
theorem dX2_copyEdges_13 : decode cX2_copyEdges 13 = .ok (.ifCond .eq 13, 3) := by decide +kernel
theorem dX2_copyEdges_16 : decode cX2_copyEdges 16 = .ok (.aload_n 1, 1) := by decide +kernel
theorem dX2_copyEdges_17 : decode cX2_copyEdges 17 = .ok (.getfield 110, 3) := by decide +kernel
theorem dX2_copyEdges_20 : decode cX2_copyEdges 20 = .ok (.iload 4, 2) := by decide +kernel
theorem dX2_copyEdges_22 : decode cX2_copyEdges 22 = .ok (.iaload, 1) := by decide +kernel
theorem dX2_copyEdges_23 : decode cX2_copyEdges 23 = .ok (.goto 10, 3) := by decide +kernel
theorem dX2_copyEdges_26 : decode cX2_copyEdges 26 = .ok (.aload_n 1, 1) := by decide +kernel
theorem dX2_copyEdges_27 : decode cX2_copyEdges 27 = .ok (.getfield 111, 3) := by decide +kernel
theorem dX2_copyEdges_30 : decode cX2_copyEdges 30 = .ok (.iload 4, 2) := by decide +kernel
theorem dX2_copyEdges_32 : decode cX2_copyEdges 32 = .ok (.iaload, 1) := by decide +kernel
theorem dX2_copyEdges_33 : decode cX2_copyEdges 33 = .ok (.istore 5, 2) := by decide +kernel
theorem dX2_copyEdges_35 : decode cX2_copyEdges 35 = .ok (.iload_n 3, 1) := by decide +kernel
theorem dX2_copyEdges_36 : decode cX2_copyEdges 36 = .ok (.ifCond .eq 13, 3) := by decide +kernel
theorem dX2_copyEdges_39 : decode cX2_copyEdges 39 = .ok (.aload_n 1, 1) := by decide +kernel
theorem dX2_copyEdges_40 : decode cX2_copyEdges 40 = .ok (.getfield 111, 3) := by decide +kernel
theorem dX2_copyEdges_43 : decode cX2_copyEdges 43 = .ok (.iload 4, 2) := by decide +kernel
theorem dX2_copyEdges_45 : decode cX2_copyEdges 45 = .ok (.iaload, 1) := by decide +kernel
theorem dX2_copyEdges_46 : decode cX2_copyEdges 46 = .ok (.goto 10, 3) := by decide +kernel
theorem dX2_copyEdges_49 : decode cX2_copyEdges 49 = .ok (.aload_n 1, 1) := by decide +kernel
theorem dX2_copyEdges_50 : decode cX2_copyEdges 50 = .ok (.getfield 110, 3) := by decide +kernel
theorem dX2_copyEdges_53 : decode cX2_copyEdges 53 = .ok (.iload 4, 2) := by decide +kernel
theorem dX2_copyEdges_55 : decode cX2_copyEdges 55 = .ok (.iaload, 1) := by decide +kernel
theorem dX2_copyEdges_56 : decode cX2_copyEdges 56 = .ok (.istore 6, 2) := by decide +kernel
theorem dX2_copyEdges_58 : decode cX2_copyEdges 58 = .ok (.aload_n 0, 1) := by decide +kernel
theorem dX2_copyEdges_59 : decode cX2_copyEdges 59 = .ok (.aload_n 1, 1) := by decide +kernel
theorem dX2_copyEdges_60 : decode cX2_copyEdges 60 = .ok (.iload 4, 2) := by decide +kernel
theorem dX2_copyEdges_62 : decode cX2_copyEdges 62 = .ok (.aload_n 0, 1) := by decide +kernel
theorem dX2_copyEdges_63 : decode cX2_copyEdges 63 = .ok (.iload 5, 2) := by decide +kernel
theorem dX2_copyEdges_65 : decode cX2_copyEdges 65 = .ok (.iload_n 2, 1) := by decide +kernel
theorem dX2_copyEdges_66 : decode cX2_copyEdges 66 = .ok (.iadd, 1) := by decide +kernel
theorem dX2_copyEdges_67 : decode cX2_copyEdges 67 = .ok (.iload 6, 2) := by decide +kernel
theorem dX2_copyEdges_69 : decode cX2_copyEdges 69 = .ok (.iload_n 2, 1) := by decide +kernel
theorem dX2_copyEdges_70 : decode cX2_copyEdges 70 = .ok (.iadd, 1) := by decide +kernel
theorem dX2_copyEdges_71 : decode cX2_copyEdges 71 = .ok (.invokevirtual 91, 3) := by decide +kernel
theorem dX2_copyEdges_74 : decode cX2_copyEdges 74 = .ok (.invokevirtual 112, 3) := by decide +kernel
theorem dX2_copyEdges_77 : decode cX2_copyEdges 77 = .ok (.pop, 1) := by decide +kernel
theorem dX2_copyEdges_78 : decode cX2_copyEdges 78 = .ok (.iinc 4 1, 3) := by decide +kernel
theorem dX2_copyEdges_81 : decode cX2_copyEdges 81 = .ok (.goto (-78), 3) := by decide +kernel
theorem dX2_copyEdges_84 : decode cX2_copyEdges 84 = .ok (.return_, 1) := by decide +kernel
theorem dX2_copyFilledEdges_0 : decode cX2_copyFilledEdges 0 = .ok (.iconst 0, 1) := by decide +kernel
theorem dX2_copyFilledEdges_1 : decode cX2_copyFilledEdges 1 = .ok (.istore_n 2, 1) := by decide +kernel
theorem dX2_copyFilledEdges_2 : decode cX2_copyFilledEdges 2 = .ok (.iload_n 2, 1) := by decide +kernel
theorem dX2_copyFilledEdges_3 : decode cX2_copyFilledEdges 3 = .ok (.aload_n 1, 1) := by decide +kernel
theorem dX2_copyFilledEdges_4 : decode cX2_copyFilledEdges 4 = .ok (.getfield 109, 3) := by decide +kernel
theorem dX2_copyFilledEdges_7 : decode cX2_copyFilledEdges 7 = .ok (.if_icmp .ge 45, 3) := by decide +kernel
theorem dX2_copyFilledEdges_10 : decode cX2_copyFilledEdges 10 = .ok (.aload_n 0, 1) := by decide +kernel
theorem dX2_copyFilledEdges_11 : decode cX2_copyFilledEdges 11 = .ok (.aload_n 1, 1) := by decide +kernel
theorem dX2_copyFilledEdges_12 : decode cX2_copyFilledEdges 12 = .ok (.getfield 111, 3) := by decide +kernel
theorem dX2_copyFilledEdges_15 : decode cX2_copyFilledEdges 15 = .ok (.iload_n 2, 1) := by decide +kernel
theorem dX2_copyFilledEdges_16 : decode cX2_copyFilledEdges 16 = .ok (.iaload, 1) := by decide +kernel
theorem dX2_copyFilledEdges_17 : decode cX2_copyFilledEdges 17 = .ok (.aload_n 1, 1) := by decide +kernel
theorem dX2_copyFilledEdges_18 : decode cX2_copyFilledEdges 18 = .ok (.getfield 110, 3) := by decide +kernel
theorem dX2_copyFilledEdges_21 : decode cX2_copyFilledEdges 21 = .ok (.iload_n 2, 1) := by decide +kernel
theorem dX2_copyFilledEdges_22 : decode cX2_copyFilledEdges 22 = .ok (.iaload, 1) := by decide +kernel
theorem dX2_copyFilledEdges_23 : decode cX2_copyFilledEdges 23 = .ok (.invokevirtual 91, 3) := by decide +kernel
theorem dX2_copyFilledEdges_26 : decode cX2_copyFilledEdges 26 = .ok (.istore_n 3, 1) := by decide +kernel
theorem dX2_copyFilledEdges_27 : decode cX2_copyFilledEdges 27 = .ok (.iload_n 3, 1) := by decide +kernel
theorem dX2_copyFilledEdges_28 : decode cX2_copyFilledEdges 28 = .ok (.ifCond .lt 18, 3) := by decide +kernel
theorem dX2_copyFilledEdges_31 : decode cX2_copyFilledEdges 31 = .ok (.aload_n 0, 1) := by decide +kernel
theorem dX2_copyFilledEdges_32 : decode cX2_copyFilledEdges 32 = .ok (.aload_n 1, 1) := by decide +kernel
theorem dX2_copyFilledEdges_33 : decode cX2_copyFilledEdges 33 = .ok (.iload_n 2, 1) := by decide +kernel
theorem dX2_copyFilledEdges_34 : decode cX2_copyFilledEdges 34 = .ok (.iload_n 3, 1) := by decide +kernel
theorem dX2_copyFilledEdges_35 : decode cX2_copyFilledEdges 35 = .ok (.invokevirtual 112, 3) := by decide +kernel
theorem dX2_copyFilledEdges_38 : decode cX2_copyFilledEdges 38 = .ok (.ifCond .ne 8, 3) := by decide +kernel
theorem dX2_copyFilledEdges_41 : decode cX2_copyFilledEdges 41 = .ok (.aload_n 0, 1) := by decide +kernel
theorem dX2_copyFilledEdges_42 : decode cX2_copyFilledEdges 42 = .ok (.iload_n 3, 1) := by decide +kernel
theorem dX2_copyFilledEdges_43 : decode cX2_copyFilledEdges 43 = .ok (.putfield 42, 3) := by decide +kernel
theorem dX2_copyFilledEdges_46 : decode cX2_copyFilledEdges 46 = .ok (.iinc 2 1, 3) := by decide +kernel
theorem dX2_copyFilledEdges_49 : decode cX2_copyFilledEdges 49 = .ok (.goto (-47), 3) := by decide +kernel
theorem dX2_copyFilledEdges_52 : decode cX2_copyFilledEdges 52 = .ok (.return_, 1) := by decide +kernel
theorem dX2_copyFrees_0 : decode cX2_copyFrees 0 = .ok (.iconst 0, 1) := by decide +kernel
theorem dX2_copyFrees_1 : decode cX2_copyFrees 1 = .ok (.istore 4, 2) := by decide +kernel
theorem dX2_copyFrees_3 : decode cX2_copyFrees 3 = .ok (.iload 4, 2) := by decide +kernel
theorem dX2_copyFrees_5 : decode cX2_copyFrees 5 = .ok (.aload_n 1, 1) := by decide +kernel
theorem dX2_copyFrees_6 : decode cX2_copyFrees 6 = .ok (.getfield 116, 3) := by decide +kernel
theorem dX2_copyFrees_9 : decode cX2_copyFrees 9 = .ok (.if_icmp .ge 67, 3) := by decide +kernel
theorem dX2_copyFrees_12 : decode cX2_copyFrees 12 = .ok (.iload_n 3, 1) := by decide +kernel
theorem dX2_copyFrees_13 : decode cX2_copyFrees 13 = .ok (.ifCond .eq 13, 3) := by decide +kernel
theorem dX2_copyFrees_16 : decode cX2_copyFrees 16 = .ok (.aload_n 1, 1) := by decide +kernel
theorem dX2_copyFrees_17 : decode cX2_copyFrees 17 = .ok (.getfield 117, 3) := by decide +kernel
theorem dX2_copyFrees_20 : decode cX2_copyFrees 20 = .ok (.iload 4, 2) := by decide +kernel
theorem dX2_copyFrees_22 : decode cX2_copyFrees 22 = .ok (.iaload, 1) := by decide +kernel
theorem dX2_copyFrees_23 : decode cX2_copyFrees 23 = .ok (.goto 10, 3) := by decide +kernel
theorem dX2_copyFrees_26 : decode cX2_copyFrees 26 = .ok (.aload_n 1, 1) := by decide +kernel
theorem dX2_copyFrees_27 : decode cX2_copyFrees 27 = .ok (.getfield 118, 3) := by decide +kernel
theorem dX2_copyFrees_30 : decode cX2_copyFrees 30 = .ok (.iload 4, 2) := by decide +kernel
theorem dX2_copyFrees_32 : decode cX2_copyFrees 32 = .ok (.iaload, 1) := by decide +kernel
theorem dX2_copyFrees_33 : decode cX2_copyFrees 33 = .ok (.istore 5, 2) := by decide +kernel
theorem dX2_copyFrees_35 : decode cX2_copyFrees 35 = .ok (.iload_n 3, 1) := by decide +kernel
theorem dX2_copyFrees_36 : decode cX2_copyFrees 36 = .ok (.ifCond .eq 13, 3) := by decide +kernel
theorem dX2_copyFrees_39 : decode cX2_copyFrees 39 = .ok (.aload_n 1, 1) := by decide +kernel
theorem dX2_copyFrees_40 : decode cX2_copyFrees 40 = .ok (.getfield 118, 3) := by decide +kernel
theorem dX2_copyFrees_43 : decode cX2_copyFrees 43 = .ok (.iload 4, 2) := by decide +kernel
theorem dX2_copyFrees_45 : decode cX2_copyFrees 45 = .ok (.iaload, 1) := by decide +kernel
theorem dX2_copyFrees_46 : decode cX2_copyFrees 46 = .ok (.goto 10, 3) := by decide +kernel
theorem dX2_copyFrees_49 : decode cX2_copyFrees 49 = .ok (.aload_n 1, 1) := by decide +kernel
theorem dX2_copyFrees_50 : decode cX2_copyFrees 50 = .ok (.getfield 117, 3) := by decide +kernel
theorem dX2_copyFrees_53 : decode cX2_copyFrees 53 = .ok (.iload 4, 2) := by decide +kernel
theorem dX2_copyFrees_55 : decode cX2_copyFrees 55 = .ok (.iaload, 1) := by decide +kernel
theorem dX2_copyFrees_56 : decode cX2_copyFrees 56 = .ok (.istore 6, 2) := by decide +kernel
theorem dX2_copyFrees_58 : decode cX2_copyFrees 58 = .ok (.aload_n 0, 1) := by decide +kernel
theorem dX2_copyFrees_59 : decode cX2_copyFrees 59 = .ok (.iload 5, 2) := by decide +kernel
theorem dX2_copyFrees_61 : decode cX2_copyFrees 61 = .ok (.iload_n 2, 1) := by decide +kernel
theorem dX2_copyFrees_62 : decode cX2_copyFrees 62 = .ok (.iadd, 1) := by decide +kernel
theorem dX2_copyFrees_63 : decode cX2_copyFrees 63 = .ok (.iload 6, 2) := by decide +kernel
theorem dX2_copyFrees_65 : decode cX2_copyFrees 65 = .ok (.iload_n 2, 1) := by decide +kernel
theorem dX2_copyFrees_66 : decode cX2_copyFrees 66 = .ok (.iadd, 1) := by decide +kernel
theorem dX2_copyFrees_67 : decode cX2_copyFrees 67 = .ok (.invokevirtual 84, 3) := by decide +kernel
theorem dX2_copyFrees_70 : decode cX2_copyFrees 70 = .ok (.iinc 4 1, 3) := by decide +kernel
theorem dX2_copyFrees_73 : decode cX2_copyFrees 73 = .ok (.goto (-70), 3) := by decide +kernel
theorem dX2_copyFrees_76 : decode cX2_copyFrees 76 = .ok (.return_, 1) := by decide +kernel
theorem dX2_drawSheaves_0 : decode cX2_drawSheaves 0 = .ok (.aload_n 0, 1) := by decide +kernel
theorem dX2_drawSheaves_1 : decode cX2_drawSheaves 1 = .ok (.aload_n 1, 1) := by decide +kernel
theorem dX2_drawSheaves_2 : decode cX2_drawSheaves 2 = .ok (.getfield 119, 3) := by decide +kernel
theorem dX2_drawSheaves_5 : decode cX2_drawSheaves 5 = .ok (.getfield 123, 3) := by decide +kernel
theorem dX2_drawSheaves_8 : decode cX2_drawSheaves 8 = .ok (.invokevirtual 128, 3) := by decide +kernel
theorem dX2_drawSheaves_11 : decode cX2_drawSheaves 11 = .ok (.aload_n 0, 1) := by decide +kernel
theorem dX2_drawSheaves_12 : decode cX2_drawSheaves 12 = .ok (.aload_n 1, 1) := by decide +kernel
theorem dX2_drawSheaves_13 : decode cX2_drawSheaves 13 = .ok (.iconst 0, 1) := by decide +kernel
theorem dX2_drawSheaves_14 : decode cX2_drawSheaves 14 = .ok (.invokevirtual 95, 3) := by decide +kernel
theorem dX2_drawSheaves_17 : decode cX2_drawSheaves 17 = .ok (.iconst 0, 1) := by decide +kernel
theorem dX2_drawSheaves_18 : decode cX2_drawSheaves 18 = .ok (.istore_n 2, 1) := by decide +kernel
theorem dX2_drawSheaves_19 : decode cX2_drawSheaves 19 = .ok (.iload_n 2, 1) := by decide +kernel
theorem dX2_drawSheaves_20 : decode cX2_drawSheaves 20 = .ok (.aload_n 1, 1) := by decide +kernel
theorem dX2_drawSheaves_21 : decode cX2_drawSheaves 21 = .ok (.getfield 119, 3) := by decide +kernel
theorem dX2_drawSheaves_24 : decode cX2_drawSheaves 24 = .ok (.getfield 123, 3) := by decide +kernel
theorem dX2_drawSheaves_27 : decode cX2_drawSheaves 27 = .ok (.if_icmp .ge 40, 3) := by decide +kernel
theorem dX2_drawSheaves_30 : decode cX2_drawSheaves 30 = .ok (.iconst 0, 1) := by decide +kernel
theorem dX2_drawSheaves_31 : decode cX2_drawSheaves 31 = .ok (.istore_n 3, 1) := by decide +kernel
theorem dX2_drawSheaves_32 : decode cX2_drawSheaves 32 = .ok (.iload_n 3, 1) := by decide +kernel
theorem dX2_drawSheaves_33 : decode cX2_drawSheaves 33 = .ok (.aload_n 1, 1) := by decide +kernel
theorem dX2_drawSheaves_34 : decode cX2_drawSheaves 34 = .ok (.getfield 68, 3) := by decide +kernel
theorem dX2_drawSheaves_37 : decode cX2_drawSheaves 37 = .ok (.if_icmp .ge 24, 3) := by decide +kernel
theorem dX2_drawSheaves_40 : decode cX2_drawSheaves 40 = .ok (.aload_n 0, 1) := by decide +kernel
theorem dX2_drawSheaves_41 : decode cX2_drawSheaves 41 = .ok (.iload_n 2, 1) := by decide +kernel
theorem dX2_drawSheaves_42 : decode cX2_drawSheaves 42 = .ok (.aload_n 1, 1) := by decide +kernel
theorem dX2_drawSheaves_43 : decode cX2_drawSheaves 43 = .ok (.getfield 119, 3) := by decide +kernel
theorem dX2_drawSheaves_46 : decode cX2_drawSheaves 46 = .ok (.iload_n 2, 1) := by decide +kernel
theorem dX2_drawSheaves_47 : decode cX2_drawSheaves 47 = .ok (.iload_n 3, 1) := by decide +kernel
theorem dX2_drawSheaves_48 : decode cX2_drawSheaves 48 = .ok (.invokevirtual 131, 3) := by decide +kernel
theorem dX2_drawSheaves_51 : decode cX2_drawSheaves 51 = .ok (.iload_n 3, 1) := by decide +kernel
theorem dX2_drawSheaves_52 : decode cX2_drawSheaves 52 = .ok (.invokevirtual 134, 3) := by decide +kernel
theorem dX2_drawSheaves_55 : decode cX2_drawSheaves 55 = .ok (.iinc 3 1, 3) := by decide +kernel
theorem dX2_drawSheaves_58 : decode cX2_drawSheaves 58 = .ok (.goto (-26), 3) := by decide +kernel
theorem dX2_drawSheaves_61 : decode cX2_drawSheaves 61 = .ok (.iinc 2 1, 3) := by decide +kernel
theorem dX2_drawSheaves_64 : decode cX2_drawSheaves 64 = .ok (.goto (-45), 3) := by decide +kernel
theorem dX2_drawSheaves_67 : decode cX2_drawSheaves 67 = .ok (.aload_n 0, 1) := by decide +kernel
theorem dX2_drawSheaves_68 : decode cX2_drawSheaves 68 = .ok (.aload_n 1, 1) := by decide +kernel
theorem dX2_drawSheaves_69 : decode cX2_drawSheaves 69 = .ok (.getfield 119, 3) := by decide +kernel
theorem dX2_drawSheaves_72 : decode cX2_drawSheaves 72 = .ok (.getfield 138, 3) := by decide +kernel
theorem dX2_drawSheaves_75 : decode cX2_drawSheaves 75 = .ok (.putfield 38, 3) := by decide +kernel
theorem dX2_drawSheaves_78 : decode cX2_drawSheaves 78 = .ok (.return_, 1) := by decide +kernel
theorem dX2_drawClasses_0 : decode cX2_drawClasses 0 = .ok (.aload_n 0, 1) := by decide +kernel
theorem dX2_drawClasses_1 : decode cX2_drawClasses 1 = .ok (.aload_n 1, 1) := by decide +kernel
theorem dX2_drawClasses_2 : decode cX2_drawClasses 2 = .ok (.getfield 119, 3) := by decide +kernel
theorem dX2_drawClasses_5 : decode cX2_drawClasses 5 = .ok (.getfield 141, 3) := by decide +kernel
theorem dX2_drawClasses_8 : decode cX2_drawClasses 8 = .ok (.invokevirtual 128, 3) := by decide +kernel
theorem dX2_drawClasses_11 : decode cX2_drawClasses 11 = .ok (.aload_n 0, 1) := by decide +kernel
theorem dX2_drawClasses_12 : decode cX2_drawClasses 12 = .ok (.aload_n 1, 1) := by decide +kernel
theorem dX2_drawClasses_13 : decode cX2_drawClasses 13 = .ok (.iconst 0, 1) := by decide +kernel
theorem dX2_drawClasses_14 : decode cX2_drawClasses 14 = .ok (.invokevirtual 95, 3) := by decide +kernel
theorem dX2_drawClasses_17 : decode cX2_drawClasses 17 = .ok (.iconst 0, 1) := by decide +kernel
theorem dX2_drawClasses_18 : decode cX2_drawClasses 18 = .ok (.istore_n 3, 1) := by decide +kernel
theorem dX2_drawClasses_19 : decode cX2_drawClasses 19 = .ok (.iload_n 3, 1) := by decide +kernel
theorem dX2_drawClasses_20 : decode cX2_drawClasses 20 = .ok (.aload_n 1, 1) := by decide +kernel
theorem dX2_drawClasses_21 : decode cX2_drawClasses 21 = .ok (.getfield 119, 3) := by decide +kernel
theorem dX2_drawClasses_24 : decode cX2_drawClasses 24 = .ok (.getfield 141, 3) := by decide +kernel
theorem dX2_drawClasses_27 : decode cX2_drawClasses 27 = .ok (.if_icmp .ge 68, 3) := by decide +kernel
theorem dX2_drawClasses_30 : decode cX2_drawClasses 30 = .ok (.iconst 0, 1) := by decide +kernel
theorem dX2_drawClasses_31 : decode cX2_drawClasses 31 = .ok (.istore 4, 2) := by decide +kernel
theorem dX2_drawClasses_33 : decode cX2_drawClasses 33 = .ok (.iload 4, 2) := by decide +kernel
theorem dX2_drawClasses_35 : decode cX2_drawClasses 35 = .ok (.aload_n 1, 1) := by decide +kernel
theorem dX2_drawClasses_36 : decode cX2_drawClasses 36 = .ok (.getfield 68, 3) := by decide +kernel
theorem dX2_drawClasses_39 : decode cX2_drawClasses 39 = .ok (.if_icmp .ge 26, 3) := by decide +kernel
theorem dX2_drawClasses_42 : decode cX2_drawClasses 42 = .ok (.aload_n 0, 1) := by decide +kernel
theorem dX2_drawClasses_43 : decode cX2_drawClasses 43 = .ok (.iload_n 3, 1) := by decide +kernel
theorem dX2_drawClasses_44 : decode cX2_drawClasses 44 = .ok (.aload_n 1, 1) := by decide +kernel
theorem dX2_drawClasses_45 : decode cX2_drawClasses 45 = .ok (.getfield 119, 3) := by decide +kernel
theorem dX2_drawClasses_48 : decode cX2_drawClasses 48 = .ok (.iload_n 3, 1) := by decide +kernel
theorem dX2_drawClasses_49 : decode cX2_drawClasses 49 = .ok (.iload 4, 2) := by decide +kernel
theorem dX2_drawClasses_51 : decode cX2_drawClasses 51 = .ok (.invokevirtual 144, 3) := by decide +kernel
theorem dX2_drawClasses_54 : decode cX2_drawClasses 54 = .ok (.iload 4, 2) := by decide +kernel
theorem dX2_drawClasses_56 : decode cX2_drawClasses 56 = .ok (.invokevirtual 134, 3) := by decide +kernel
theorem dX2_drawClasses_59 : decode cX2_drawClasses 59 = .ok (.iinc 4 1, 3) := by decide +kernel
theorem dX2_drawClasses_62 : decode cX2_drawClasses 62 = .ok (.goto (-29), 3) := by decide +kernel
theorem dX2_drawClasses_65 : decode cX2_drawClasses 65 = .ok (.aload_n 1, 1) := by decide +kernel
theorem dX2_drawClasses_66 : decode cX2_drawClasses 66 = .ok (.getfield 119, 3) := by decide +kernel
theorem dX2_drawClasses_69 : decode cX2_drawClasses 69 = .ok (.iload_n 3, 1) := by decide +kernel
theorem dX2_drawClasses_70 : decode cX2_drawClasses 70 = .ok (.invokevirtual 147, 3) := by decide +kernel
theorem dX2_drawClasses_73 : decode cX2_drawClasses 73 = .ok (.iload_n 2, 1) := by decide +kernel
theorem dX2_drawClasses_74 : decode cX2_drawClasses 74 = .ok (.if_icmp .ne 15, 3) := by decide +kernel
theorem dX2_drawClasses_77 : decode cX2_drawClasses 77 = .ok (.aload_n 0, 1) := by decide +kernel
theorem dX2_drawClasses_78 : decode cX2_drawClasses 78 = .ok (.dup, 1) := by decide +kernel
theorem dX2_drawClasses_79 : decode cX2_drawClasses 79 = .ok (.getfield 38, 3) := by decide +kernel
theorem dX2_drawClasses_82 : decode cX2_drawClasses 82 = .ok (.lconst 1, 1) := by decide +kernel
theorem dX2_drawClasses_83 : decode cX2_drawClasses 83 = .ok (.iload_n 3, 1) := by decide +kernel
theorem dX2_drawClasses_84 : decode cX2_drawClasses 84 = .ok (.lshl, 1) := by decide +kernel
theorem dX2_drawClasses_85 : decode cX2_drawClasses 85 = .ok (.lor, 1) := by decide +kernel
theorem dX2_drawClasses_86 : decode cX2_drawClasses 86 = .ok (.putfield 38, 3) := by decide +kernel
theorem dX2_drawClasses_89 : decode cX2_drawClasses 89 = .ok (.iinc 3 1, 3) := by decide +kernel
theorem dX2_drawClasses_92 : decode cX2_drawClasses 92 = .ok (.goto (-73), 3) := by decide +kernel
theorem dX2_drawClasses_95 : decode cX2_drawClasses 95 = .ok (.return_, 1) := by decide +kernel
theorem dX2_copyMarks_0 : decode cX2_copyMarks 0 = .ok (.iconst 0, 1) := by decide +kernel
theorem dX2_copyMarks_1 : decode cX2_copyMarks 1 = .ok (.istore 4, 2) := by decide +kernel
theorem dX2_copyMarks_3 : decode cX2_copyMarks 3 = .ok (.iconst 0, 1) := by decide +kernel
theorem dX2_copyMarks_4 : decode cX2_copyMarks 4 = .ok (.istore 5, 2) := by decide +kernel
theorem dX2_copyMarks_6 : decode cX2_copyMarks 6 = .ok (.iload_n 3, 1) := by decide +kernel
theorem dX2_copyMarks_7 : decode cX2_copyMarks 7 = .ok (.ifCond .lt 53, 3) := by decide +kernel
theorem dX2_copyMarks_10 : decode cX2_copyMarks 10 = .ok (.iload 5, 2) := by decide +kernel
theorem dX2_copyMarks_12 : decode cX2_copyMarks 12 = .ok (.aload_n 0, 1) := by decide +kernel
theorem dX2_copyMarks_13 : decode cX2_copyMarks 13 = .ok (.getfield 48, 3) := by decide +kernel
theorem dX2_copyMarks_16 : decode cX2_copyMarks 16 = .ok (.if_icmp .ge 44, 3) := by decide +kernel
theorem dX2_copyMarks_19 : decode cX2_copyMarks 19 = .ok (.aload_n 0, 1) := by decide +kernel
theorem dX2_copyMarks_20 : decode cX2_copyMarks 20 = .ok (.getfield 31, 3) := by decide +kernel
theorem dX2_copyMarks_23 : decode cX2_copyMarks 23 = .ok (.iload 5, 2) := by decide +kernel
theorem dX2_copyMarks_25 : decode cX2_copyMarks 25 = .ok (.iaload, 1) := by decide +kernel
theorem dX2_copyMarks_26 : decode cX2_copyMarks 26 = .ok (.ifCond .lt 28, 3) := by decide +kernel
theorem dX2_copyMarks_29 : decode cX2_copyMarks 29 = .ok (.aload_n 1, 1) := by decide +kernel
theorem dX2_copyMarks_30 : decode cX2_copyMarks 30 = .ok (.iload_n 2, 1) := by decide +kernel
theorem dX2_copyMarks_31 : decode cX2_copyMarks 31 = .ok (.aload_n 0, 1) := by decide +kernel
theorem dX2_copyMarks_32 : decode cX2_copyMarks 32 = .ok (.getfield 31, 3) := by decide +kernel
theorem dX2_copyMarks_35 : decode cX2_copyMarks 35 = .ok (.iload 5, 2) := by decide +kernel
theorem dX2_copyMarks_37 : decode cX2_copyMarks 37 = .ok (.iaload, 1) := by decide +kernel
theorem dX2_copyMarks_38 : decode cX2_copyMarks 38 = .ok (.invokevirtual 150, 3) := by decide +kernel
theorem dX2_copyMarks_41 : decode cX2_copyMarks 41 = .ok (.ifCond .eq 13, 3) := by decide +kernel
theorem dX2_copyMarks_44 : decode cX2_copyMarks 44 = .ok (.aload_n 0, 1) := by decide +kernel
theorem dX2_copyMarks_45 : decode cX2_copyMarks 45 = .ok (.iload_n 3, 1) := by decide +kernel
theorem dX2_copyMarks_46 : decode cX2_copyMarks 46 = .ok (.iload 5, 2) := by decide +kernel
theorem dX2_copyMarks_48 : decode cX2_copyMarks 48 = .ok (.invokevirtual 88, 3) := by decide +kernel
theorem dX2_copyMarks_51 : decode cX2_copyMarks 51 = .ok (.iinc 4 1, 3) := by decide +kernel
theorem dX2_copyMarks_54 : decode cX2_copyMarks 54 = .ok (.iinc 5 1, 3) := by decide +kernel
theorem dX2_copyMarks_57 : decode cX2_copyMarks 57 = .ok (.goto (-51), 3) := by decide +kernel
theorem dX2_copyMarks_60 : decode cX2_copyMarks 60 = .ok (.iload 4, 2) := by decide +kernel
theorem dX2_copyMarks_62 : decode cX2_copyMarks 62 = .ok (.ireturn, 1) := by decide +kernel
theorem dX3_rangeCount_0 : decode cX3_rangeCount 0 = .ok (.aload_n 0, 1) := by decide +kernel
theorem dX3_rangeCount_1 : decode cX3_rangeCount 1 = .ok (.getfield 21, 3) := by decide +kernel
theorem dX3_rangeCount_4 : decode cX3_rangeCount 4 = .ok (.iconst 2, 1) := by decide +kernel
theorem dX3_rangeCount_5 : decode cX3_rangeCount 5 = .ok (.idiv, 1) := by decide +kernel
theorem dX3_rangeCount_6 : decode cX3_rangeCount 6 = .ok (.ireturn, 1) := by decide +kernel
theorem dX3_bound_0 : decode cX3_bound 0 = .ok (.iload_n 2, 1) := by decide +kernel
theorem dX3_bound_1 : decode cX3_bound 1 = .ok (.ifCond .eq 11, 3) := by decide +kernel
theorem dX3_bound_4 : decode cX3_bound 4 = .ok (.iconst 2, 1) := by decide +kernel
theorem dX3_bound_5 : decode cX3_bound 5 = .ok (.iload_n 1, 1) := by decide +kernel
theorem dX3_bound_6 : decode cX3_bound 6 = .ok (.imul, 1) := by decide +kernel
theorem dX3_bound_7 : decode cX3_bound 7 = .ok (.iconst 1, 1) := by decide +kernel
theorem dX3_bound_8 : decode cX3_bound 8 = .ok (.iadd, 1) := by decide +kernel
theorem dX3_bound_9 : decode cX3_bound 9 = .ok (.goto 6, 3) := by decide +kernel
theorem dX3_bound_12 : decode cX3_bound 12 = .ok (.iconst 2, 1) := by decide +kernel
theorem dX3_bound_13 : decode cX3_bound 13 = .ok (.iload_n 1, 1) := by decide +kernel
theorem dX3_bound_14 : decode cX3_bound 14 = .ok (.imul, 1) := by decide +kernel
theorem dX3_bound_15 : decode cX3_bound 15 = .ok (.istore_n 3, 1) := by decide +kernel
theorem dX3_bound_16 : decode cX3_bound 16 = .ok (.iload_n 3, 1) := by decide +kernel
theorem dX3_bound_17 : decode cX3_bound 17 = .ok (.aload_n 0, 1) := by decide +kernel
theorem dX3_bound_18 : decode cX3_bound 18 = .ok (.getfield 21, 3) := by decide +kernel
theorem dX3_bound_21 : decode cX3_bound 21 = .ok (.invokestatic 25, 3) := by decide +kernel
theorem dX3_bound_24 : decode cX3_bound 24 = .ok (.ifCond .ne 5, 3) := by decide +kernel
theorem dX3_bound_27 : decode cX3_bound 27 = .ok (.iconst (-1), 1) := by decide +kernel
theorem dX3_bound_28 : decode cX3_bound 28 = .ok (.ireturn, 1) := by decide +kernel
theorem dX3_bound_29 : decode cX3_bound 29 = .ok (.iload_n 2, 1) := by decide +kernel
theorem dX3_bound_30 : decode cX3_bound 30 = .ok (.ifCond .eq 14, 3) := by decide +kernel
theorem dX3_bound_33 : decode cX3_bound 33 = .ok (.aload_n 0, 1) := by decide +kernel
theorem dX3_bound_34 : decode cX3_bound 34 = .ok (.getfield 15, 3) := by decide +kernel
theorem dX3_bound_37 : decode cX3_bound 37 = .ok (.iload_n 3, 1) := by decide +kernel
theorem dX3_bound_38 : decode cX3_bound 38 = .ok (.iaload, 1) := by decide +kernel
theorem dX3_bound_39 : decode cX3_bound 39 = .ok (.iconst 1, 1) := by decide +kernel
theorem dX3_bound_40 : decode cX3_bound 40 = .ok (.isub, 1) := by decide +kernel
theorem dX3_bound_41 : decode cX3_bound 41 = .ok (.goto 9, 3) := by decide +kernel
theorem dX3_bound_44 : decode cX3_bound 44 = .ok (.aload_n 0, 1) := by decide +kernel
theorem dX3_bound_45 : decode cX3_bound 45 = .ok (.getfield 15, 3) := by decide +kernel
theorem dX3_bound_48 : decode cX3_bound 48 = .ok (.iload_n 3, 1) := by decide +kernel
theorem dX3_bound_49 : decode cX3_bound 49 = .ok (.iaload, 1) := by decide +kernel
theorem dX3_bound_50 : decode cX3_bound 50 = .ok (.ireturn, 1) := by decide +kernel
theorem dX3_amount_0 : decode cX3_amount 0 = .ok (.iconst 0, 1) := by decide +kernel
theorem dX3_amount_1 : decode cX3_amount 1 = .ok (.istore_n 1, 1) := by decide +kernel
theorem dX3_amount_2 : decode cX3_amount 2 = .ok (.iconst 0, 1) := by decide +kernel
theorem dX3_amount_3 : decode cX3_amount 3 = .ok (.istore_n 2, 1) := by decide +kernel
theorem dX3_amount_4 : decode cX3_amount 4 = .ok (.iload_n 2, 1) := by decide +kernel
theorem dX3_amount_5 : decode cX3_amount 5 = .ok (.iconst 1, 1) := by decide +kernel
theorem dX3_amount_6 : decode cX3_amount 6 = .ok (.iadd, 1) := by decide +kernel
theorem dX3_amount_7 : decode cX3_amount 7 = .ok (.aload_n 0, 1) := by decide +kernel
theorem dX3_amount_8 : decode cX3_amount 8 = .ok (.getfield 21, 3) := by decide +kernel
theorem dX3_amount_11 : decode cX3_amount 11 = .ok (.if_icmp .ge 27, 3) := by decide +kernel
theorem dX3_amount_14 : decode cX3_amount 14 = .ok (.iload_n 1, 1) := by decide +kernel
theorem dX3_amount_15 : decode cX3_amount 15 = .ok (.aload_n 0, 1) := by decide +kernel
theorem dX3_amount_16 : decode cX3_amount 16 = .ok (.getfield 15, 3) := by decide +kernel
theorem dX3_amount_19 : decode cX3_amount 19 = .ok (.iload_n 2, 1) := by decide +kernel
theorem dX3_amount_20 : decode cX3_amount 20 = .ok (.iconst 1, 1) := by decide +kernel
theorem dX3_amount_21 : decode cX3_amount 21 = .ok (.iadd, 1) := by decide +kernel
theorem dX3_amount_22 : decode cX3_amount 22 = .ok (.iaload, 1) := by decide +kernel
theorem dX3_amount_23 : decode cX3_amount 23 = .ok (.aload_n 0, 1) := by decide +kernel
theorem dX3_amount_24 : decode cX3_amount 24 = .ok (.getfield 15, 3) := by decide +kernel
theorem dX3_amount_27 : decode cX3_amount 27 = .ok (.iload_n 2, 1) := by decide +kernel
theorem dX3_amount_28 : decode cX3_amount 28 = .ok (.iaload, 1) := by decide +kernel
theorem dX3_amount_29 : decode cX3_amount 29 = .ok (.isub, 1) := by decide +kernel
theorem dX3_amount_30 : decode cX3_amount 30 = .ok (.iadd, 1) := by decide +kernel
theorem dX3_amount_31 : decode cX3_amount 31 = .ok (.istore_n 1, 1) := by decide +kernel
theorem dX3_amount_32 : decode cX3_amount 32 = .ok (.iinc 2 2, 3) := by decide +kernel
theorem dX3_amount_35 : decode cX3_amount 35 = .ok (.goto (-31), 3) := by decide +kernel
theorem dX3_amount_38 : decode cX3_amount 38 = .ok (.iload_n 1, 1) := by decide +kernel
theorem dX3_amount_39 : decode cX3_amount 39 = .ok (.ireturn, 1) := by decide +kernel
theorem dX3_holds_0 : decode cX3_holds 0 = .ok (.iconst 0, 1) := by decide +kernel
theorem dX3_holds_1 : decode cX3_holds 1 = .ok (.istore_n 2, 1) := by decide +kernel
theorem dX3_holds_2 : decode cX3_holds 2 = .ok (.iload_n 2, 1) := by decide +kernel
theorem dX3_holds_3 : decode cX3_holds 3 = .ok (.aload_n 0, 1) := by decide +kernel
theorem dX3_holds_4 : decode cX3_holds 4 = .ok (.getfield 21, 3) := by decide +kernel
theorem dX3_holds_7 : decode cX3_holds 7 = .ok (.if_icmp .ge 19, 3) := by decide +kernel
theorem dX3_holds_10 : decode cX3_holds 10 = .ok (.aload_n 0, 1) := by decide +kernel
theorem dX3_holds_11 : decode cX3_holds 11 = .ok (.getfield 15, 3) := by decide +kernel
theorem dX3_holds_14 : decode cX3_holds 14 = .ok (.iload_n 2, 1) := by decide +kernel
theorem dX3_holds_15 : decode cX3_holds 15 = .ok (.iaload, 1) := by decide +kernel
theorem dX3_holds_16 : decode cX3_holds 16 = .ok (.iload_n 1, 1) := by decide +kernel
theorem dX3_holds_17 : decode cX3_holds 17 = .ok (.if_icmp .gt 9, 3) := by decide +kernel
theorem dX3_holds_20 : decode cX3_holds 20 = .ok (.iinc 2 1, 3) := by decide +kernel
theorem dX3_holds_23 : decode cX3_holds 23 = .ok (.goto (-21), 3) := by decide +kernel
theorem dX3_holds_26 : decode cX3_holds 26 = .ok (.iload_n 2, 1) := by decide +kernel
theorem dX3_holds_27 : decode cX3_holds 27 = .ok (.iconst 2, 1) := by decide +kernel
theorem dX3_holds_28 : decode cX3_holds 28 = .ok (.irem, 1) := by decide +kernel
theorem dX3_holds_29 : decode cX3_holds 29 = .ok (.iconst 1, 1) := by decide +kernel
theorem dX3_holds_30 : decode cX3_holds 30 = .ok (.if_icmp .ne 7, 3) := by decide +kernel
theorem dX3_holds_33 : decode cX3_holds 33 = .ok (.iconst 1, 1) := by decide +kernel
theorem dX3_holds_34 : decode cX3_holds 34 = .ok (.goto 4, 3) := by decide +kernel
theorem dX3_holds_37 : decode cX3_holds 37 = .ok (.iconst 0, 1) := by decide +kernel
theorem dX3_holds_38 : decode cX3_holds 38 = .ok (.ireturn, 1) := by decide +kernel
theorem dX3_clear_0 : decode cX3_clear 0 = .ok (.aload_n 0, 1) := by decide +kernel
theorem dX3_clear_1 : decode cX3_clear 1 = .ok (.iconst 0, 1) := by decide +kernel
theorem dX3_clear_2 : decode cX3_clear 2 = .ok (.putfield 21, 3) := by decide +kernel
theorem dX3_clear_5 : decode cX3_clear 5 = .ok (.return_, 1) := by decide +kernel
theorem dX3_become_0 : decode cX3_become 0 = .ok (.aload_n 0, 1) := by decide +kernel
theorem dX3_become_1 : decode cX3_become 1 = .ok (.iconst 0, 1) := by decide +kernel
theorem dX3_become_2 : decode cX3_become 2 = .ok (.putfield 21, 3) := by decide +kernel
theorem dX3_become_5 : decode cX3_become 5 = .ok (.aload_n 0, 1) := by decide +kernel
theorem dX3_become_6 : decode cX3_become 6 = .ok (.getfield 15, 3) := by decide +kernel
theorem dX3_become_9 : decode cX3_become 9 = .ok (.arraylength, 1) := by decide +kernel
theorem dX3_become_10 : decode cX3_become 10 = .ok (.iconst 2, 1) := by decide +kernel
theorem dX3_become_11 : decode cX3_become 11 = .ok (.if_icmp .lt 24, 3) := by decide +kernel
theorem dX3_become_14 : decode cX3_become 14 = .ok (.aload_n 0, 1) := by decide +kernel
theorem dX3_become_15 : decode cX3_become 15 = .ok (.getfield 15, 3) := by decide +kernel
theorem dX3_become_18 : decode cX3_become 18 = .ok (.iconst 0, 1) := by decide +kernel
theorem dX3_become_19 : decode cX3_become 19 = .ok (.iload_n 1, 1) := by decide +kernel
theorem dX3_become_20 : decode cX3_become 20 = .ok (.iastore, 1) := by decide +kernel
theorem dX3_become_21 : decode cX3_become 21 = .ok (.aload_n 0, 1) := by decide +kernel
theorem dX3_become_22 : decode cX3_become 22 = .ok (.getfield 15, 3) := by decide +kernel
theorem dX3_become_25 : decode cX3_become 25 = .ok (.iconst 1, 1) := by decide +kernel
theorem dX3_become_26 : decode cX3_become 26 = .ok (.iload_n 2, 1) := by decide +kernel
theorem dX3_become_27 : decode cX3_become 27 = .ok (.iconst 1, 1) := by decide +kernel
theorem dX3_become_28 : decode cX3_become 28 = .ok (.iadd, 1) := by decide +kernel
theorem dX3_become_29 : decode cX3_become 29 = .ok (.iastore, 1) := by decide +kernel
theorem dX3_become_30 : decode cX3_become 30 = .ok (.aload_n 0, 1) := by decide +kernel
theorem dX3_become_31 : decode cX3_become 31 = .ok (.iconst 2, 1) := by decide +kernel
theorem dX3_become_32 : decode cX3_become 32 = .ok (.putfield 21, 3) := by decide +kernel
theorem dX3_become_35 : decode cX3_become 35 = .ok (.return_, 1) := by decide +kernel
theorem dX3_copy_0 : decode cX3_copy 0 = .ok (.aload_n 0, 1) := by decide +kernel
theorem dX3_copy_1 : decode cX3_copy 1 = .ok (.iconst 0, 1) := by decide +kernel
theorem dX3_copy_2 : decode cX3_copy 2 = .ok (.putfield 21, 3) := by decide +kernel
theorem dX3_copy_5 : decode cX3_copy 5 = .ok (.iconst 0, 1) := by decide +kernel
theorem dX3_copy_6 : decode cX3_copy 6 = .ok (.istore_n 2, 1) := by decide +kernel
theorem dX3_copy_7 : decode cX3_copy 7 = .ok (.iload_n 2, 1) := by decide +kernel
theorem dX3_copy_8 : decode cX3_copy 8 = .ok (.aload_n 1, 1) := by decide +kernel
theorem dX3_copy_9 : decode cX3_copy 9 = .ok (.getfield 21, 3) := by decide +kernel
theorem dX3_copy_12 : decode cX3_copy 12 = .ok (.if_icmp .ge 19, 3) := by decide +kernel
theorem dX3_copy_15 : decode cX3_copy 15 = .ok (.aload_n 0, 1) := by decide +kernel
theorem dX3_copy_16 : decode cX3_copy 16 = .ok (.aload_n 1, 1) := by decide +kernel
theorem dX3_copy_17 : decode cX3_copy 17 = .ok (.getfield 15, 3) := by decide +kernel
theorem dX3_copy_20 : decode cX3_copy 20 = .ok (.iload_n 2, 1) := by decide +kernel
theorem dX3_copy_21 : decode cX3_copy 21 = .ok (.iaload, 1) := by decide +kernel
theorem dX3_copy_22 : decode cX3_copy 22 = .ok (.invokevirtual 29, 3) := by decide +kernel
theorem dX3_copy_25 : decode cX3_copy 25 = .ok (.iinc 2 1, 3) := by decide +kernel
theorem dX3_copy_28 : decode cX3_copy 28 = .ok (.goto (-21), 3) := by decide +kernel
theorem dX3_copy_31 : decode cX3_copy 31 = .ok (.return_, 1) := by decide +kernel
theorem dX3_combine_0 : decode cX3_combine 0 = .ok (.aload_n 0, 1) := by decide +kernel
theorem dX3_combine_1 : decode cX3_combine 1 = .ok (.iconst 0, 1) := by decide +kernel
theorem dX3_combine_2 : decode cX3_combine 2 = .ok (.putfield 21, 3) := by decide +kernel
theorem dX3_combine_5 : decode cX3_combine 5 = .ok (.iconst 0, 1) := by decide +kernel
theorem dX3_combine_6 : decode cX3_combine 6 = .ok (.istore 4, 2) := by decide +kernel
theorem dX3_combine_8 : decode cX3_combine 8 = .ok (.iconst 0, 1) := by decide +kernel
theorem dX3_combine_9 : decode cX3_combine 9 = .ok (.istore 5, 2) := by decide +kernel
theorem dX3_combine_11 : decode cX3_combine 11 = .ok (.iconst 0, 1) := by decide +kernel
theorem dX3_combine_12 : decode cX3_combine 12 = .ok (.istore 6, 2) := by decide +kernel
theorem dX3_combine_14 : decode cX3_combine 14 = .ok (.iconst 0, 1) := by decide +kernel
theorem dX3_combine_15 : decode cX3_combine 15 = .ok (.istore 7, 2) := by decide +kernel
theorem dX3_combine_17 : decode cX3_combine 17 = .ok (.iconst 0, 1) := by decide +kernel
theorem dX3_combine_18 : decode cX3_combine 18 = .ok (.istore 8, 2) := by decide +kernel
theorem dX3_combine_20 : decode cX3_combine 20 = .ok (.iload 8, 2) := by decide +kernel
theorem dX3_combine_22 : decode cX3_combine 22 = .ok (.aload_n 1, 1) := by decide +kernel
theorem dX3_combine_23 : decode cX3_combine 23 = .ok (.getfield 21, 3) := by decide +kernel
theorem dX3_combine_26 : decode cX3_combine 26 = .ok (.aload_n 2, 1) := by decide +kernel
theorem dX3_combine_27 : decode cX3_combine 27 = .ok (.getfield 21, 3) := by decide +kernel
theorem dX3_combine_30 : decode cX3_combine 30 = .ok (.iadd, 1) := by decide +kernel
theorem dX3_combine_31 : decode cX3_combine 31 = .ok (.if_icmp .gt 172, 3) := by decide +kernel
theorem dX3_combine_34 : decode cX3_combine 34 = .ok (.iload 6, 2) := by decide +kernel
theorem dX3_combine_36 : decode cX3_combine 36 = .ok (.ldc 33, 2) := by decide +kernel
theorem dX3_combine_38 : decode cX3_combine 38 = .ok (.if_icmp .ge 165, 3) := by decide +kernel
theorem dX3_combine_41 : decode cX3_combine 41 = .ok (.iload 4, 2) := by decide +kernel
theorem dX3_combine_43 : decode cX3_combine 43 = .ok (.aload_n 1, 1) := by decide +kernel
theorem dX3_combine_44 : decode cX3_combine 44 = .ok (.getfield 21, 3) := by decide +kernel
theorem dX3_combine_47 : decode cX3_combine 47 = .ok (.if_icmp .ge 18, 3) := by decide +kernel
theorem dX3_combine_50 : decode cX3_combine 50 = .ok (.aload_n 1, 1) := by decide +kernel
theorem dX3_combine_51 : decode cX3_combine 51 = .ok (.getfield 15, 3) := by decide +kernel
theorem dX3_combine_54 : decode cX3_combine 54 = .ok (.iload 4, 2) := by decide +kernel
theorem dX3_combine_56 : decode cX3_combine 56 = .ok (.iaload, 1) := by decide +kernel
theorem dX3_combine_57 : decode cX3_combine 57 = .ok (.iload 6, 2) := by decide +kernel
theorem dX3_combine_59 : decode cX3_combine 59 = .ok (.if_icmp .ne 6, 3) := by decide +kernel
theorem dX3_combine_62 : decode cX3_combine 62 = .ok (.iinc 4 1, 3) := by decide +kernel
theorem dX3_combine_65 : decode cX3_combine 65 = .ok (.iload 5, 2) := by decide +kernel
theorem dX3_combine_67 : decode cX3_combine 67 = .ok (.aload_n 2, 1) := by decide +kernel
theorem dX3_combine_68 : decode cX3_combine 68 = .ok (.getfield 21, 3) := by decide +kernel
theorem dX3_combine_71 : decode cX3_combine 71 = .ok (.if_icmp .ge 18, 3) := by decide +kernel
theorem dX3_combine_74 : decode cX3_combine 74 = .ok (.aload_n 2, 1) := by decide +kernel
theorem dX3_combine_75 : decode cX3_combine 75 = .ok (.getfield 15, 3) := by decide +kernel
theorem dX3_combine_78 : decode cX3_combine 78 = .ok (.iload 5, 2) := by decide +kernel
theorem dX3_combine_80 : decode cX3_combine 80 = .ok (.iaload, 1) := by decide +kernel
theorem dX3_combine_81 : decode cX3_combine 81 = .ok (.iload 6, 2) := by decide +kernel
theorem dX3_combine_83 : decode cX3_combine 83 = .ok (.if_icmp .ne 6, 3) := by decide +kernel
theorem dX3_combine_86 : decode cX3_combine 86 = .ok (.iinc 5 1, 3) := by decide +kernel
theorem dX3_combine_89 : decode cX3_combine 89 = .ok (.iload_n 3, 1) := by decide +kernel
theorem dX3_combine_90 : decode cX3_combine 90 = .ok (.iload 4, 2) := by decide +kernel
theorem dX3_combine_92 : decode cX3_combine 92 = .ok (.iconst 2, 1) := by decide +kernel
theorem dX3_combine_93 : decode cX3_combine 93 = .ok (.irem, 1) := by decide +kernel
theorem dX3_combine_94 : decode cX3_combine 94 = .ok (.iconst 1, 1) := by decide +kernel
theorem dX3_combine_95 : decode cX3_combine 95 = .ok (.if_icmp .ne 7, 3) := by decide +kernel
theorem dX3_combine_98 : decode cX3_combine 98 = .ok (.iconst 1, 1) := by decide +kernel
theorem dX3_combine_99 : decode cX3_combine 99 = .ok (.goto 4, 3) := by decide +kernel
theorem dX3_combine_102 : decode cX3_combine 102 = .ok (.iconst 0, 1) := by decide +kernel
theorem dX3_combine_103 : decode cX3_combine 103 = .ok (.iload 5, 2) := by decide +kernel
theorem dX3_combine_105 : decode cX3_combine 105 = .ok (.iconst 2, 1) := by decide +kernel
theorem dX3_combine_106 : decode cX3_combine 106 = .ok (.irem, 1) := by decide +kernel
theorem dX3_combine_107 : decode cX3_combine 107 = .ok (.iconst 1, 1) := by decide +kernel
theorem dX3_combine_108 : decode cX3_combine 108 = .ok (.if_icmp .ne 7, 3) := by decide +kernel
theorem dX3_combine_111 : decode cX3_combine 111 = .ok (.iconst 1, 1) := by decide +kernel
theorem dX3_combine_112 : decode cX3_combine 112 = .ok (.goto 4, 3) := by decide +kernel
theorem dX3_combine_115 : decode cX3_combine 115 = .ok (.iconst 0, 1) := by decide +kernel
theorem dX3_combine_116 : decode cX3_combine 116 = .ok (.invokestatic 34, 3) := by decide +kernel
theorem dX3_combine_119 : decode cX3_combine 119 = .ok (.iload 7, 2) := by decide +kernel
theorem dX3_combine_121 : decode cX3_combine 121 = .ok (.if_icmp .eq 21, 3) := by decide +kernel
theorem dX3_combine_124 : decode cX3_combine 124 = .ok (.iload 7, 2) := by decide +kernel
theorem dX3_combine_126 : decode cX3_combine 126 = .ok (.ifCond .ne 7, 3) := by decide +kernel
theorem dX3_combine_129 : decode cX3_combine 129 = .ok (.iconst 1, 1) := by decide +kernel
theorem dX3_combine_130 : decode cX3_combine 130 = .ok (.goto 4, 3) := by decide +kernel
theorem dX3_combine_133 : decode cX3_combine 133 = .ok (.iconst 0, 1) := by decide +kernel
theorem dX3_combine_134 : decode cX3_combine 134 = .ok (.istore 7, 2) := by decide +kernel
theorem dX3_combine_136 : decode cX3_combine 136 = .ok (.aload_n 0, 1) := by decide +kernel
theorem dX3_combine_137 : decode cX3_combine 137 = .ok (.iload 6, 2) := by decide +kernel
theorem dX3_combine_139 : decode cX3_combine 139 = .ok (.invokevirtual 29, 3) := by decide +kernel
theorem dX3_combine_142 : decode cX3_combine 142 = .ok (.iload 4, 2) := by decide +kernel
theorem dX3_combine_144 : decode cX3_combine 144 = .ok (.aload_n 1, 1) := by decide +kernel
theorem dX3_combine_145 : decode cX3_combine 145 = .ok (.getfield 21, 3) := by decide +kernel
theorem dX3_combine_148 : decode cX3_combine 148 = .ok (.if_icmp .ge 13, 3) := by decide +kernel
theorem dX3_combine_151 : decode cX3_combine 151 = .ok (.aload_n 1, 1) := by decide +kernel
theorem dX3_combine_152 : decode cX3_combine 152 = .ok (.getfield 15, 3) := by decide +kernel
theorem dX3_combine_155 : decode cX3_combine 155 = .ok (.iload 4, 2) := by decide +kernel
theorem dX3_combine_157 : decode cX3_combine 157 = .ok (.iaload, 1) := by decide +kernel
theorem dX3_combine_158 : decode cX3_combine 158 = .ok (.goto 5, 3) := by decide +kernel
theorem dX3_combine_161 : decode cX3_combine 161 = .ok (.ldc 33, 2) := by decide +kernel
theorem dX3_combine_163 : decode cX3_combine 163 = .ok (.istore 9, 2) := by decide +kernel
theorem dX3_combine_165 : decode cX3_combine 165 = .ok (.iload 5, 2) := by decide +kernel
theorem dX3_combine_167 : decode cX3_combine 167 = .ok (.aload_n 2, 1) := by decide +kernel
theorem dX3_combine_168 : decode cX3_combine 168 = .ok (.getfield 21, 3) := by decide +kernel
theorem dX3_combine_171 : decode cX3_combine 171 = .ok (.if_icmp .ge 13, 3) := by decide +kernel
theorem dX3_combine_174 : decode cX3_combine 174 = .ok (.aload_n 2, 1) := by decide +kernel
theorem dX3_combine_175 : decode cX3_combine 175 = .ok (.getfield 15, 3) := by decide +kernel
theorem dX3_combine_178 : decode cX3_combine 178 = .ok (.iload 5, 2) := by decide +kernel
theorem dX3_combine_180 : decode cX3_combine 180 = .ok (.iaload, 1) := by decide +kernel
theorem dX3_combine_181 : decode cX3_combine 181 = .ok (.goto 5, 3) := by decide +kernel
theorem dX3_combine_184 : decode cX3_combine 184 = .ok (.ldc 33, 2) := by decide +kernel
theorem dX3_combine_186 : decode cX3_combine 186 = .ok (.istore 10, 2) := by decide +kernel
theorem dX3_combine_188 : decode cX3_combine 188 = .ok (.iload 9, 2) := by decide +kernel
theorem dX3_combine_190 : decode cX3_combine 190 = .ok (.iload 10, 2) := by decide +kernel
theorem dX3_combine_192 : decode cX3_combine 192 = .ok (.invokestatic 38, 3) := by decide +kernel
theorem dX3_combine_195 : decode cX3_combine 195 = .ok (.istore 6, 2) := by decide +kernel
theorem dX3_combine_197 : decode cX3_combine 197 = .ok (.iinc 8 1, 3) := by decide +kernel
theorem dX3_combine_200 : decode cX3_combine 200 = .ok (.goto (-180), 3) := by decide +kernel
theorem dX3_combine_203 : decode cX3_combine 203 = .ok (.iload 7, 2) := by decide +kernel
theorem dX3_combine_205 : decode cX3_combine 205 = .ok (.ifCond .eq 9, 3) := by decide +kernel
theorem dX3_combine_208 : decode cX3_combine 208 = .ok (.aload_n 0, 1) := by decide +kernel
theorem dX3_combine_209 : decode cX3_combine 209 = .ok (.ldc 33, 2) := by decide +kernel
theorem dX3_combine_211 : decode cX3_combine 211 = .ok (.invokevirtual 29, 3) := by decide +kernel
theorem dX3_combine_214 : decode cX3_combine 214 = .ok (.return_, 1) := by decide +kernel
theorem dX3_addCut_0 : decode cX3_addCut 0 = .ok (.aload_n 0, 1) := by decide +kernel
theorem dX3_addCut_1 : decode cX3_addCut 1 = .ok (.getfield 21, 3) := by decide +kernel
theorem dX3_addCut_4 : decode cX3_addCut 4 = .ok (.aload_n 0, 1) := by decide +kernel
theorem dX3_addCut_5 : decode cX3_addCut 5 = .ok (.getfield 15, 3) := by decide +kernel
theorem dX3_addCut_8 : decode cX3_addCut 8 = .ok (.arraylength, 1) := by decide +kernel
theorem dX3_addCut_9 : decode cX3_addCut 9 = .ok (.if_icmp .ge 23, 3) := by decide +kernel
theorem dX3_addCut_12 : decode cX3_addCut 12 = .ok (.aload_n 0, 1) := by decide +kernel
theorem dX3_addCut_13 : decode cX3_addCut 13 = .ok (.getfield 15, 3) := by decide +kernel
theorem dX3_addCut_16 : decode cX3_addCut 16 = .ok (.aload_n 0, 1) := by decide +kernel
theorem dX3_addCut_17 : decode cX3_addCut 17 = .ok (.getfield 21, 3) := by decide +kernel
theorem dX3_addCut_20 : decode cX3_addCut 20 = .ok (.iload_n 1, 1) := by decide +kernel
theorem dX3_addCut_21 : decode cX3_addCut 21 = .ok (.iastore, 1) := by decide +kernel
theorem dX3_addCut_22 : decode cX3_addCut 22 = .ok (.aload_n 0, 1) := by decide +kernel
theorem dX3_addCut_23 : decode cX3_addCut 23 = .ok (.dup, 1) := by decide +kernel
theorem dX3_addCut_24 : decode cX3_addCut 24 = .ok (.getfield 21, 3) := by decide +kernel
theorem dX3_addCut_27 : decode cX3_addCut 27 = .ok (.iconst 1, 1) := by decide +kernel
theorem dX3_addCut_28 : decode cX3_addCut 28 = .ok (.iadd, 1) := by decide +kernel
theorem dX3_addCut_29 : decode cX3_addCut 29 = .ok (.putfield 21, 3) := by decide +kernel
theorem dX3_addCut_32 : decode cX3_addCut 32 = .ok (.return_, 1) := by decide +kernel
theorem dX4_settle_0 : decode cX4_settle 0 = .ok (.aload_n 1, 1) := by decide +kernel
theorem dX4_settle_1 : decode cX4_settle 1 = .ok (.getfield 38, 3) := by decide +kernel
theorem dX4_settle_4 : decode cX4_settle 4 = .ok (.ifCond .eq 5, 3) := by decide +kernel
theorem dX4_settle_7 : decode cX4_settle 7 = .ok (.iconst 0, 1) := by decide +kernel
theorem dX4_settle_8 : decode cX4_settle 8 = .ok (.ireturn, 1) := by decide +kernel
theorem dX4_settle_9 : decode cX4_settle 9 = .ok (.aload_n 0, 1) := by decide +kernel
theorem dX4_settle_10 : decode cX4_settle 10 = .ok (.aload_n 1, 1) := by decide +kernel
theorem dX4_settle_11 : decode cX4_settle 11 = .ok (.getfield 44, 3) := by decide +kernel
theorem dX4_settle_14 : decode cX4_settle 14 = .ok (.putfield 48, 3) := by decide +kernel
theorem dX4_settle_17 : decode cX4_settle 17 = .ok (.aload_n 0, 1) := by decide +kernel
theorem dX4_settle_18 : decode cX4_settle 18 = .ok (.aload_n 1, 1) := by decide +kernel
theorem dX4_settle_19 : decode cX4_settle 19 = .ok (.getfield 49, 3) := by decide +kernel
theorem dX4_settle_22 : decode cX4_settle 22 = .ok (.putfield 53, 3) := by decide +kernel
theorem dX4_settle_25 : decode cX4_settle 25 = .ok (.aload_n 0, 1) := by decide +kernel
theorem dX4_settle_26 : decode cX4_settle 26 = .ok (.aload_n 1, 1) := by decide +kernel
theorem dX4_settle_27 : decode cX4_settle 27 = .ok (.getfield 54, 3) := by decide +kernel
theorem dX4_settle_30 : decode cX4_settle 30 = .ok (.putfield 57, 3) := by decide +kernel
theorem dX4_settle_33 : decode cX4_settle 33 = .ok (.aload_n 0, 1) := by decide +kernel
theorem dX4_settle_34 : decode cX4_settle 34 = .ok (.aload_n 1, 1) := by decide +kernel
theorem dX4_settle_35 : decode cX4_settle 35 = .ok (.getfield 58, 3) := by decide +kernel
theorem dX4_settle_38 : decode cX4_settle 38 = .ok (.putfield 61, 3) := by decide +kernel
theorem dX4_settle_41 : decode cX4_settle 41 = .ok (.aload_n 1, 1) := by decide +kernel
theorem dX4_settle_42 : decode cX4_settle 42 = .ok (.getfield 62, 3) := by decide +kernel
theorem dX4_settle_45 : decode cX4_settle 45 = .ok (.iconst 0, 1) := by decide +kernel
theorem dX4_settle_46 : decode cX4_settle 46 = .ok (.aload_n 0, 1) := by decide +kernel
theorem dX4_settle_47 : decode cX4_settle 47 = .ok (.getfield 9, 3) := by decide +kernel
theorem dX4_settle_50 : decode cX4_settle 50 = .ok (.iconst 0, 1) := by decide +kernel
theorem dX4_settle_51 : decode cX4_settle 51 = .ok (.sipush 160, 3) := by decide +kernel
theorem dX4_settle_54 : decode cX4_settle 54 = .ok (.invokestatic 63, 3) := by decide +kernel
theorem dX4_settle_57 : decode cX4_settle 57 = .ok (.aload_n 1, 1) := by decide +kernel
theorem dX4_settle_58 : decode cX4_settle 58 = .ok (.getfield 69, 3) := by decide +kernel
theorem dX4_settle_61 : decode cX4_settle 61 = .ok (.iconst 0, 1) := by decide +kernel
theorem dX4_settle_62 : decode cX4_settle 62 = .ok (.aload_n 0, 1) := by decide +kernel
theorem dX4_settle_63 : decode cX4_settle 63 = .ok (.getfield 15, 3) := by decide +kernel
theorem dX4_settle_66 : decode cX4_settle 66 = .ok (.iconst 0, 1) := by decide +kernel
theorem dX4_settle_67 : decode cX4_settle 67 = .ok (.sipush 160, 3) := by decide +kernel
theorem dX4_settle_70 : decode cX4_settle 70 = .ok (.invokestatic 63, 3) := by decide +kernel
theorem dX4_settle_73 : decode cX4_settle 73 = .ok (.aload_n 1, 1) := by decide +kernel
theorem dX4_settle_74 : decode cX4_settle 74 = .ok (.getfield 70, 3) := by decide +kernel
theorem dX4_settle_77 : decode cX4_settle 77 = .ok (.iconst 0, 1) := by decide +kernel
theorem dX4_settle_78 : decode cX4_settle 78 = .ok (.aload_n 0, 1) := by decide +kernel
theorem dX4_settle_79 : decode cX4_settle 79 = .ok (.getfield 22, 3) := by decide +kernel
theorem dX4_settle_82 : decode cX4_settle 82 = .ok (.iconst 0, 1) := by decide +kernel
theorem dX4_settle_83 : decode cX4_settle 83 = .ok (.bipush 64, 2) := by decide +kernel
theorem dX4_settle_85 : decode cX4_settle 85 = .ok (.invokestatic 63, 3) := by decide +kernel
theorem dX4_settle_88 : decode cX4_settle 88 = .ok (.aload_n 1, 1) := by decide +kernel
theorem dX4_settle_89 : decode cX4_settle 89 = .ok (.getfield 71, 3) := by decide +kernel
theorem dX4_settle_92 : decode cX4_settle 92 = .ok (.iconst 0, 1) := by decide +kernel
theorem dX4_settle_93 : decode cX4_settle 93 = .ok (.aload_n 0, 1) := by decide +kernel
theorem dX4_settle_94 : decode cX4_settle 94 = .ok (.getfield 25, 3) := by decide +kernel
theorem dX4_settle_97 : decode cX4_settle 97 = .ok (.iconst 0, 1) := by decide +kernel
theorem dX4_settle_98 : decode cX4_settle 98 = .ok (.bipush 64, 2) := by decide +kernel
theorem dX4_settle_100 : decode cX4_settle 100 = .ok (.invokestatic 63, 3) := by decide +kernel
theorem dX4_settle_103 : decode cX4_settle 103 = .ok (.aload_n 0, 1) := by decide +kernel
theorem dX4_settle_104 : decode cX4_settle 104 = .ok (.aload_n 1, 1) := by decide +kernel
theorem dX4_settle_105 : decode cX4_settle 105 = .ok (.invokevirtual 72, 3) := by decide +kernel
theorem dX4_settle_108 : decode cX4_settle 108 = .ok (.ifCond .eq 14, 3) := by decide +kernel
theorem dX4_settle_111 : decode cX4_settle 111 = .ok (.aload_n 0, 1) := by decide +kernel
theorem dX4_settle_112 : decode cX4_settle 112 = .ok (.getfield 34, 3) := by decide +kernel
theorem dX4_settle_115 : decode cX4_settle 115 = .ok (.aload_n 0, 1) := by decide +kernel
theorem dX4_settle_116 : decode cX4_settle 116 = .ok (.invokevirtual 76, 3) := by decide +kernel
theorem dX4_settle_119 : decode cX4_settle 119 = .ok (.ifCond .ne 5, 3) := by decide +kernel
theorem dX4_settle_122 : decode cX4_settle 122 = .ok (.iconst 0, 1) := by decide +kernel
theorem dX4_settle_123 : decode cX4_settle 123 = .ok (.ireturn, 1) := by decide +kernel
theorem dX4_settle_124 : decode cX4_settle 124 = .ok (.aload_n 0, 1) := by decide +kernel
theorem dX4_settle_125 : decode cX4_settle 125 = .ok (.getfield 34, 3) := by decide +kernel
theorem dX4_settle_128 : decode cX4_settle 128 = .ok (.invokevirtual 80, 3) := by decide +kernel
theorem dX4_settle_131 : decode cX4_settle 131 = .ok (.iconst 1, 1) := by decide +kernel
theorem dX4_settle_132 : decode cX4_settle 132 = .ok (.ireturn, 1) := by decide +kernel
theorem dX4_takeBlocks_0 : decode cX4_takeBlocks 0 = .ok (.aload_n 0, 1) := by decide +kernel
theorem dX4_takeBlocks_1 : decode cX4_takeBlocks 1 = .ok (.getfield 18, 3) := by decide +kernel
theorem dX4_takeBlocks_4 : decode cX4_takeBlocks 4 = .ok (.lconst 0, 1) := by decide +kernel
theorem dX4_takeBlocks_5 : decode cX4_takeBlocks 5 = .ok (.invokestatic 83, 3) := by decide +kernel
theorem dX4_takeBlocks_8 : decode cX4_takeBlocks 8 = .ok (.aload_n 0, 1) := by decide +kernel
theorem dX4_takeBlocks_9 : decode cX4_takeBlocks 9 = .ok (.iconst 0, 1) := by decide +kernel
theorem dX4_takeBlocks_10 : decode cX4_takeBlocks 10 = .ok (.putfield 89, 3) := by decide +kernel
theorem dX4_takeBlocks_13 : decode cX4_takeBlocks 13 = .ok (.iconst 0, 1) := by decide +kernel
theorem dX4_takeBlocks_14 : decode cX4_takeBlocks 14 = .ok (.istore_n 2, 1) := by decide +kernel
theorem dX4_takeBlocks_15 : decode cX4_takeBlocks 15 = .ok (.iload_n 2, 1) := by decide +kernel
theorem dX4_takeBlocks_16 : decode cX4_takeBlocks 16 = .ok (.aload_n 1, 1) := by decide +kernel
theorem dX4_takeBlocks_17 : decode cX4_takeBlocks 17 = .ok (.getfield 92, 3) := by decide +kernel
theorem dX4_takeBlocks_20 : decode cX4_takeBlocks 20 = .ok (.if_icmp .ge 111, 3) := by decide +kernel
theorem dX4_takeBlocks_23 : decode cX4_takeBlocks 23 = .ok (.aload_n 0, 1) := by decide +kernel
theorem dX4_takeBlocks_24 : decode cX4_takeBlocks 24 = .ok (.aload_n 1, 1) := by decide +kernel
theorem dX4_takeBlocks_25 : decode cX4_takeBlocks 25 = .ok (.iload_n 2, 1) := by decide +kernel
theorem dX4_takeBlocks_26 : decode cX4_takeBlocks 26 = .ok (.invokevirtual 93, 3) := by decide +kernel
theorem dX4_takeBlocks_29 : decode cX4_takeBlocks 29 = .ok (.ifCond .ne 6, 3) := by decide +kernel
theorem dX4_takeBlocks_32 : decode cX4_takeBlocks 32 = .ok (.goto 93, 3) := by decide +kernel
theorem dX4_takeBlocks_35 : decode cX4_takeBlocks 35 = .ok (.aload_n 0, 1) := by decide +kernel
theorem dX4_takeBlocks_36 : decode cX4_takeBlocks 36 = .ok (.getfield 89, 3) := by decide +kernel
theorem dX4_takeBlocks_39 : decode cX4_takeBlocks 39 = .ok (.sipush 128, 3) := by decide +kernel
theorem dX4_takeBlocks_42 : decode cX4_takeBlocks 42 = .ok (.if_icmp .lt 5, 3) := by decide +kernel
theorem dX4_takeBlocks_45 : decode cX4_takeBlocks 45 = .ok (.iconst 0, 1) := by decide +kernel
theorem dX4_takeBlocks_46 : decode cX4_takeBlocks 46 = .ok (.ireturn, 1) := by decide +kernel
theorem dX4_takeBlocks_47 : decode cX4_takeBlocks 47 = .ok (.aload_n 0, 1) := by decide +kernel
theorem dX4_takeBlocks_48 : decode cX4_takeBlocks 48 = .ok (.getfield 28, 3) := by decide +kernel
theorem dX4_takeBlocks_51 : decode cX4_takeBlocks 51 = .ok (.aload_n 0, 1) := by decide +kernel
theorem dX4_takeBlocks_52 : decode cX4_takeBlocks 52 = .ok (.getfield 89, 3) := by decide +kernel
theorem dX4_takeBlocks_55 : decode cX4_takeBlocks 55 = .ok (.aload_n 1, 1) := by decide +kernel
theorem dX4_takeBlocks_56 : decode cX4_takeBlocks 56 = .ok (.getfield 97, 3) := by decide +kernel
theorem dX4_takeBlocks_59 : decode cX4_takeBlocks 59 = .ok (.iload_n 2, 1) := by decide +kernel
theorem dX4_takeBlocks_60 : decode cX4_takeBlocks 60 = .ok (.iaload, 1) := by decide +kernel
theorem dX4_takeBlocks_61 : decode cX4_takeBlocks 61 = .ok (.iastore, 1) := by decide +kernel
theorem dX4_takeBlocks_62 : decode cX4_takeBlocks 62 = .ok (.iconst 0, 1) := by decide +kernel
theorem dX4_takeBlocks_63 : decode cX4_takeBlocks 63 = .ok (.istore_n 3, 1) := by decide +kernel
theorem dX4_takeBlocks_64 : decode cX4_takeBlocks 64 = .ok (.iload_n 3, 1) := by decide +kernel
theorem dX4_takeBlocks_65 : decode cX4_takeBlocks 65 = .ok (.aload_n 0, 1) := by decide +kernel
theorem dX4_takeBlocks_66 : decode cX4_takeBlocks 66 = .ok (.getfield 57, 3) := by decide +kernel
theorem dX4_takeBlocks_69 : decode cX4_takeBlocks 69 = .ok (.if_icmp .ge 46, 3) := by decide +kernel
theorem dX4_takeBlocks_72 : decode cX4_takeBlocks 72 = .ok (.aload_n 1, 1) := by decide +kernel
theorem dX4_takeBlocks_73 : decode cX4_takeBlocks 73 = .ok (.iload_n 3, 1) := by decide +kernel
theorem dX4_takeBlocks_74 : decode cX4_takeBlocks 74 = .ok (.iload_n 2, 1) := by decide +kernel
theorem dX4_takeBlocks_75 : decode cX4_takeBlocks 75 = .ok (.invokevirtual 98, 3) := by decide +kernel
theorem dX4_takeBlocks_78 : decode cX4_takeBlocks 78 = .ok (.ifCond .eq 31, 3) := by decide +kernel
theorem dX4_takeBlocks_81 : decode cX4_takeBlocks 81 = .ok (.aload_n 0, 1) := by decide +kernel
theorem dX4_takeBlocks_82 : decode cX4_takeBlocks 82 = .ok (.getfield 18, 3) := by decide +kernel
theorem dX4_takeBlocks_85 : decode cX4_takeBlocks 85 = .ok (.iload_n 3, 1) := by decide +kernel
theorem dX4_takeBlocks_86 : decode cX4_takeBlocks 86 = .ok (.iconst 2, 1) := by decide +kernel
theorem dX4_takeBlocks_87 : decode cX4_takeBlocks 87 = .ok (.imul, 1) := by decide +kernel
theorem dX4_takeBlocks_88 : decode cX4_takeBlocks 88 = .ok (.aload_n 0, 1) := by decide +kernel
theorem dX4_takeBlocks_89 : decode cX4_takeBlocks 89 = .ok (.getfield 89, 3) := by decide +kernel
theorem dX4_takeBlocks_92 : decode cX4_takeBlocks 92 = .ok (.bipush 64, 2) := by decide +kernel
theorem dX4_takeBlocks_94 : decode cX4_takeBlocks 94 = .ok (.idiv, 1) := by decide +kernel
theorem dX4_takeBlocks_95 : decode cX4_takeBlocks 95 = .ok (.iadd, 1) := by decide +kernel
theorem dX4_takeBlocks_96 : decode cX4_takeBlocks 96 = .ok (.dup2, 1) := by decide +kernel
theorem dX4_takeBlocks_97 : decode cX4_takeBlocks 97 = .ok (.laload, 1) := by decide +kernel
theorem dX4_takeBlocks_98 : decode cX4_takeBlocks 98 = .ok (.lconst 1, 1) := by decide +kernel
theorem dX4_takeBlocks_99 : decode cX4_takeBlocks 99 = .ok (.aload_n 0, 1) := by decide +kernel
theorem dX4_takeBlocks_100 : decode cX4_takeBlocks 100 = .ok (.getfield 89, 3) := by decide +kernel
theorem dX4_takeBlocks_103 : decode cX4_takeBlocks 103 = .ok (.bipush 64, 2) := by decide +kernel
theorem dX4_takeBlocks_105 : decode cX4_takeBlocks 105 = .ok (.irem, 1) := by decide +kernel
theorem dX4_takeBlocks_106 : decode cX4_takeBlocks 106 = .ok (.lshl, 1) := by decide +kernel
theorem dX4_takeBlocks_107 : decode cX4_takeBlocks 107 = .ok (.lor, 1) := by decide +kernel
theorem dX4_takeBlocks_108 : decode cX4_takeBlocks 108 = .ok (.lastore, 1) := by decide +kernel
theorem dX4_takeBlocks_109 : decode cX4_takeBlocks 109 = .ok (.iinc 3 1, 3) := by decide +kernel
theorem dX4_takeBlocks_112 : decode cX4_takeBlocks 112 = .ok (.goto (-48), 3) := by decide +kernel
theorem dX4_takeBlocks_115 : decode cX4_takeBlocks 115 = .ok (.aload_n 0, 1) := by decide +kernel
theorem dX4_takeBlocks_116 : decode cX4_takeBlocks 116 = .ok (.dup, 1) := by decide +kernel
theorem dX4_takeBlocks_117 : decode cX4_takeBlocks 117 = .ok (.getfield 89, 3) := by decide +kernel
theorem dX4_takeBlocks_120 : decode cX4_takeBlocks 120 = .ok (.iconst 1, 1) := by decide +kernel
theorem dX4_takeBlocks_121 : decode cX4_takeBlocks 121 = .ok (.iadd, 1) := by decide +kernel
theorem dX4_takeBlocks_122 : decode cX4_takeBlocks 122 = .ok (.putfield 89, 3) := by decide +kernel
theorem dX4_takeBlocks_125 : decode cX4_takeBlocks 125 = .ok (.iinc 2 1, 3) := by decide +kernel
theorem dX4_takeBlocks_128 : decode cX4_takeBlocks 128 = .ok (.goto (-113), 3) := by decide +kernel
theorem dX4_takeBlocks_131 : decode cX4_takeBlocks 131 = .ok (.iconst 1, 1) := by decide +kernel
theorem dX4_takeBlocks_132 : decode cX4_takeBlocks 132 = .ok (.ireturn, 1) := by decide +kernel
theorem dX4_beginsBlock_0 : decode cX4_beginsBlock 0 = .ok (.iload_n 2, 1) := by decide +kernel
theorem dX4_beginsBlock_1 : decode cX4_beginsBlock 1 = .ok (.ifCond .ne 7, 3) := by decide +kernel
theorem dX4_beginsBlock_4 : decode cX4_beginsBlock 4 = .ok (.iconst 1, 1) := by decide +kernel
theorem dX4_beginsBlock_5 : decode cX4_beginsBlock 5 = .ok (.goto 4, 3) := by decide +kernel
theorem dX4_beginsBlock_8 : decode cX4_beginsBlock 8 = .ok (.iconst 0, 1) := by decide +kernel
theorem dX4_beginsBlock_9 : decode cX4_beginsBlock 9 = .ok (.istore_n 3, 1) := by decide +kernel
theorem dX4_beginsBlock_10 : decode cX4_beginsBlock 10 = .ok (.iconst 0, 1) := by decide +kernel
theorem dX4_beginsBlock_11 : decode cX4_beginsBlock 11 = .ok (.istore 4, 2) := by decide +kernel
theorem dX4_beginsBlock_13 : decode cX4_beginsBlock 13 = .ok (.iload_n 3, 1) := by decide +kernel
theorem dX4_beginsBlock_14 : decode cX4_beginsBlock 14 = .ok (.ifCond .ne 43, 3) := by decide +kernel
theorem dX4_beginsBlock_17 : decode cX4_beginsBlock 17 = .ok (.iload 4, 2) := by decide +kernel
theorem dX4_beginsBlock_19 : decode cX4_beginsBlock 19 = .ok (.aload_n 0, 1) := by decide +kernel
theorem dX4_beginsBlock_20 : decode cX4_beginsBlock 20 = .ok (.getfield 57, 3) := by decide +kernel
theorem dX4_beginsBlock_23 : decode cX4_beginsBlock 23 = .ok (.if_icmp .ge 34, 3) := by decide +kernel
theorem dX4_beginsBlock_26 : decode cX4_beginsBlock 26 = .ok (.aload_n 1, 1) := by decide +kernel
theorem dX4_beginsBlock_27 : decode cX4_beginsBlock 27 = .ok (.iload 4, 2) := by decide +kernel
theorem dX4_beginsBlock_29 : decode cX4_beginsBlock 29 = .ok (.iload_n 2, 1) := by decide +kernel
theorem dX4_beginsBlock_30 : decode cX4_beginsBlock 30 = .ok (.invokevirtual 98, 3) := by decide +kernel
theorem dX4_beginsBlock_33 : decode cX4_beginsBlock 33 = .ok (.aload_n 1, 1) := by decide +kernel
theorem dX4_beginsBlock_34 : decode cX4_beginsBlock 34 = .ok (.iload 4, 2) := by decide +kernel
theorem dX4_beginsBlock_36 : decode cX4_beginsBlock 36 = .ok (.iload_n 2, 1) := by decide +kernel
theorem dX4_beginsBlock_37 : decode cX4_beginsBlock 37 = .ok (.iconst 1, 1) := by decide +kernel
theorem dX4_beginsBlock_38 : decode cX4_beginsBlock 38 = .ok (.isub, 1) := by decide +kernel
theorem dX4_beginsBlock_39 : decode cX4_beginsBlock 39 = .ok (.invokevirtual 98, 3) := by decide +kernel
theorem dX4_beginsBlock_42 : decode cX4_beginsBlock 42 = .ok (.if_icmp .eq 7, 3) := by decide +kernel
theorem dX4_beginsBlock_45 : decode cX4_beginsBlock 45 = .ok (.iconst 1, 1) := by decide +kernel
theorem dX4_beginsBlock_46 : decode cX4_beginsBlock 46 = .ok (.goto 4, 3) := by decide +kernel
theorem dX4_beginsBlock_49 : decode cX4_beginsBlock 49 = .ok (.iconst 0, 1) := by decide +kernel
theorem dX4_beginsBlock_50 : decode cX4_beginsBlock 50 = .ok (.istore_n 3, 1) := by decide +kernel
theorem dX4_beginsBlock_51 : decode cX4_beginsBlock 51 = .ok (.iinc 4 1, 3) := by decide +kernel
theorem dX4_beginsBlock_54 : decode cX4_beginsBlock 54 = .ok (.goto (-41), 3) := by decide +kernel
theorem dX4_beginsBlock_57 : decode cX4_beginsBlock 57 = .ok (.iload_n 3, 1) := by decide +kernel
theorem dX4_beginsBlock_58 : decode cX4_beginsBlock 58 = .ok (.ireturn, 1) := by decide +kernel
theorem dX4_edgeHas_0 : decode cX4_edgeHas 0 = .ok (.aload_n 0, 1) := by decide +kernel
theorem dX4_edgeHas_1 : decode cX4_edgeHas 1 = .ok (.getfield 18, 3) := by decide +kernel
theorem dX4_edgeHas_4 : decode cX4_edgeHas 4 = .ok (.iload_n 1, 1) := by decide +kernel
theorem dX4_edgeHas_5 : decode cX4_edgeHas 5 = .ok (.iconst 2, 1) := by decide +kernel
theorem dX4_edgeHas_6 : decode cX4_edgeHas 6 = .ok (.imul, 1) := by decide +kernel
theorem dX4_edgeHas_7 : decode cX4_edgeHas 7 = .ok (.iload_n 2, 1) := by decide +kernel
theorem dX4_edgeHas_8 : decode cX4_edgeHas 8 = .ok (.bipush 64, 2) := by decide +kernel
theorem dX4_edgeHas_10 : decode cX4_edgeHas 10 = .ok (.idiv, 1) := by decide +kernel
theorem dX4_edgeHas_11 : decode cX4_edgeHas 11 = .ok (.iadd, 1) := by decide +kernel
theorem dX4_edgeHas_12 : decode cX4_edgeHas 12 = .ok (.laload, 1) := by decide +kernel
theorem dX4_edgeHas_13 : decode cX4_edgeHas 13 = .ok (.iload_n 2, 1) := by decide +kernel
theorem dX4_edgeHas_14 : decode cX4_edgeHas 14 = .ok (.bipush 64, 2) := by decide +kernel
theorem dX4_edgeHas_16 : decode cX4_edgeHas 16 = .ok (.irem, 1) := by decide +kernel
theorem dX4_edgeHas_17 : decode cX4_edgeHas 17 = .ok (.lushr, 1) := by decide +kernel
theorem dX4_edgeHas_18 : decode cX4_edgeHas 18 = .ok (.lconst 1, 1) := by decide +kernel
theorem dX4_edgeHas_19 : decode cX4_edgeHas 19 = .ok (.land, 1) := by decide +kernel
theorem dX4_edgeHas_20 : decode cX4_edgeHas 20 = .ok (.lconst 1, 1) := by decide +kernel
theorem dX4_edgeHas_21 : decode cX4_edgeHas 21 = .ok (.lcmp, 1) := by decide +kernel
theorem dX4_edgeHas_22 : decode cX4_edgeHas 22 = .ok (.ifCond .ne 7, 3) := by decide +kernel
theorem dX4_edgeHas_25 : decode cX4_edgeHas 25 = .ok (.iconst 1, 1) := by decide +kernel
theorem dX4_edgeHas_26 : decode cX4_edgeHas 26 = .ok (.goto 4, 3) := by decide +kernel
theorem dX4_edgeHas_29 : decode cX4_edgeHas 29 = .ok (.iconst 0, 1) := by decide +kernel
theorem dX4_edgeHas_30 : decode cX4_edgeHas 30 = .ok (.ireturn, 1) := by decide +kernel
theorem dX4_edgeIsFilled_0 : decode cX4_edgeIsFilled 0 = .ok (.aload_n 0, 1) := by decide +kernel
theorem dX4_edgeIsFilled_1 : decode cX4_edgeIsFilled 1 = .ok (.getfield 18, 3) := by decide +kernel
theorem dX4_edgeIsFilled_4 : decode cX4_edgeIsFilled 4 = .ok (.iload_n 1, 1) := by decide +kernel
theorem dX4_edgeIsFilled_5 : decode cX4_edgeIsFilled 5 = .ok (.iconst 2, 1) := by decide +kernel
theorem dX4_edgeIsFilled_6 : decode cX4_edgeIsFilled 6 = .ok (.imul, 1) := by decide +kernel
theorem dX4_edgeIsFilled_7 : decode cX4_edgeIsFilled 7 = .ok (.laload, 1) := by decide +kernel
theorem dX4_edgeIsFilled_8 : decode cX4_edgeIsFilled 8 = .ok (.aload_n 0, 1) := by decide +kernel
theorem dX4_edgeIsFilled_9 : decode cX4_edgeIsFilled 9 = .ok (.getfield 18, 3) := by decide +kernel
theorem dX4_edgeIsFilled_12 : decode cX4_edgeIsFilled 12 = .ok (.iload_n 1, 1) := by decide +kernel
theorem dX4_edgeIsFilled_13 : decode cX4_edgeIsFilled 13 = .ok (.iconst 2, 1) := by decide +kernel
theorem dX4_edgeIsFilled_14 : decode cX4_edgeIsFilled 14 = .ok (.imul, 1) := by decide +kernel
theorem dX4_edgeIsFilled_15 : decode cX4_edgeIsFilled 15 = .ok (.iconst 1, 1) := by decide +kernel
theorem dX4_edgeIsFilled_16 : decode cX4_edgeIsFilled 16 = .ok (.iadd, 1) := by decide +kernel
theorem dX4_edgeIsFilled_17 : decode cX4_edgeIsFilled 17 = .ok (.laload, 1) := by decide +kernel
theorem dX4_edgeIsFilled_18 : decode cX4_edgeIsFilled 18 = .ok (.lor, 1) := by decide +kernel
theorem dX4_edgeIsFilled_19 : decode cX4_edgeIsFilled 19 = .ok (.lconst 0, 1) := by decide +kernel
theorem dX4_edgeIsFilled_20 : decode cX4_edgeIsFilled 20 = .ok (.lcmp, 1) := by decide +kernel
theorem dX4_edgeIsFilled_21 : decode cX4_edgeIsFilled 21 = .ok (.ifCond .eq 7, 3) := by decide +kernel
theorem dX4_edgeIsFilled_24 : decode cX4_edgeIsFilled 24 = .ok (.iconst 1, 1) := by decide +kernel
theorem dX4_edgeIsFilled_25 : decode cX4_edgeIsFilled 25 = .ok (.goto 4, 3) := by decide +kernel
theorem dX4_edgeIsFilled_28 : decode cX4_edgeIsFilled 28 = .ok (.iconst 0, 1) := by decide +kernel
theorem dX4_edgeIsFilled_29 : decode cX4_edgeIsFilled 29 = .ok (.ireturn, 1) := by decide +kernel
theorem dX4_blockOf_0 : decode cX4_blockOf 0 = .ok (.aload_n 0, 1) := by decide +kernel
theorem dX4_blockOf_1 : decode cX4_blockOf 1 = .ok (.getfield 89, 3) := by decide +kernel
theorem dX4_blockOf_4 : decode cX4_blockOf 4 = .ok (.iconst 1, 1) := by decide +kernel
theorem dX4_blockOf_5 : decode cX4_blockOf 5 = .ok (.isub, 1) := by decide +kernel
theorem dX4_blockOf_6 : decode cX4_blockOf 6 = .ok (.istore_n 2, 1) := by decide +kernel
theorem dX4_blockOf_7 : decode cX4_blockOf 7 = .ok (.iload_n 2, 1) := by decide +kernel
theorem dX4_blockOf_8 : decode cX4_blockOf 8 = .ok (.ifCond .le 19, 3) := by decide +kernel
theorem dX4_blockOf_11 : decode cX4_blockOf 11 = .ok (.aload_n 0, 1) := by decide +kernel
theorem dX4_blockOf_12 : decode cX4_blockOf 12 = .ok (.getfield 28, 3) := by decide +kernel
theorem dX4_blockOf_15 : decode cX4_blockOf 15 = .ok (.iload_n 2, 1) := by decide +kernel
theorem dX4_blockOf_16 : decode cX4_blockOf 16 = .ok (.iaload, 1) := by decide +kernel
theorem dX4_blockOf_17 : decode cX4_blockOf 17 = .ok (.iload_n 1, 1) := by decide +kernel
theorem dX4_blockOf_18 : decode cX4_blockOf 18 = .ok (.if_icmp .le 9, 3) := by decide +kernel
theorem dX4_blockOf_21 : decode cX4_blockOf 21 = .ok (.iinc 2 (-1), 3) := by decide +kernel
theorem dX4_blockOf_24 : decode cX4_blockOf 24 = .ok (.goto (-17), 3) := by decide +kernel
theorem dX4_blockOf_27 : decode cX4_blockOf 27 = .ok (.iload_n 2, 1) := by decide +kernel
theorem dX4_blockOf_28 : decode cX4_blockOf 28 = .ok (.ireturn, 1) := by decide +kernel
theorem dX4_endOf_0 : decode cX4_endOf 0 = .ok (.iload_n 1, 1) := by decide +kernel
theorem dX4_endOf_1 : decode cX4_endOf 1 = .ok (.iconst 1, 1) := by decide +kernel
theorem dX4_endOf_2 : decode cX4_endOf 2 = .ok (.iadd, 1) := by decide +kernel
theorem dX4_endOf_3 : decode cX4_endOf 3 = .ok (.aload_n 0, 1) := by decide +kernel
theorem dX4_endOf_4 : decode cX4_endOf 4 = .ok (.getfield 89, 3) := by decide +kernel
theorem dX4_endOf_7 : decode cX4_endOf 7 = .ok (.if_icmp .ge 14, 3) := by decide +kernel
theorem dX4_endOf_10 : decode cX4_endOf 10 = .ok (.aload_n 0, 1) := by decide +kernel
theorem dX4_endOf_11 : decode cX4_endOf 11 = .ok (.getfield 28, 3) := by decide +kernel
theorem dX4_endOf_14 : decode cX4_endOf 14 = .ok (.iload_n 1, 1) := by decide +kernel
theorem dX4_endOf_15 : decode cX4_endOf 15 = .ok (.iconst 1, 1) := by decide +kernel
theorem dX4_endOf_16 : decode cX4_endOf 16 = .ok (.iadd, 1) := by decide +kernel
theorem dX4_endOf_17 : decode cX4_endOf 17 = .ok (.iaload, 1) := by decide +kernel
theorem dX4_endOf_18 : decode cX4_endOf 18 = .ok (.goto 5, 3) := by decide +kernel
theorem dX4_endOf_21 : decode cX4_endOf 21 = .ok (.ldc 102, 2) := by decide +kernel
theorem dX4_endOf_23 : decode cX4_endOf 23 = .ok (.ireturn, 1) := by decide +kernel
theorem dX4_lengthOf_0 : decode cX4_lengthOf 0 = .ok (.aload_n 0, 1) := by decide +kernel
theorem dX4_lengthOf_1 : decode cX4_lengthOf 1 = .ok (.iload_n 1, 1) := by decide +kernel
theorem dX4_lengthOf_2 : decode cX4_lengthOf 2 = .ok (.invokevirtual 103, 3) := by decide +kernel
theorem dX4_lengthOf_5 : decode cX4_lengthOf 5 = .ok (.aload_n 0, 1) := by decide +kernel
theorem dX4_lengthOf_6 : decode cX4_lengthOf 6 = .ok (.getfield 28, 3) := by decide +kernel
theorem dX4_lengthOf_9 : decode cX4_lengthOf 9 = .ok (.iload_n 1, 1) := by decide +kernel
theorem dX4_lengthOf_10 : decode cX4_lengthOf 10 = .ok (.iaload, 1) := by decide +kernel
theorem dX4_lengthOf_11 : decode cX4_lengthOf 11 = .ok (.isub, 1) := by decide +kernel
theorem dX4_lengthOf_12 : decode cX4_lengthOf 12 = .ok (.ireturn, 1) := by decide +kernel
theorem dX4_howMany_0 : decode cX4_howMany 0 = .ok (.iload_n 1, 1) := by decide +kernel
theorem dX4_howMany_1 : decode cX4_howMany 1 = .ok (.tableswitch 75 0 5 #[39, 44, 49, 54, 62, 70], 39) := by decide +kernel
theorem dX4_howMany_40 : decode cX4_howMany 40 = .ok (.aload_n 0, 1) := by decide +kernel
theorem dX4_howMany_41 : decode cX4_howMany 41 = .ok (.getfield 48, 3) := by decide +kernel
theorem dX4_howMany_44 : decode cX4_howMany 44 = .ok (.ireturn, 1) := by decide +kernel
theorem dX4_howMany_45 : decode cX4_howMany 45 = .ok (.aload_n 0, 1) := by decide +kernel
theorem dX4_howMany_46 : decode cX4_howMany 46 = .ok (.getfield 57, 3) := by decide +kernel
theorem dX4_howMany_49 : decode cX4_howMany 49 = .ok (.ireturn, 1) := by decide +kernel
theorem dX4_howMany_50 : decode cX4_howMany 50 = .ok (.aload_n 0, 1) := by decide +kernel
theorem dX4_howMany_51 : decode cX4_howMany 51 = .ok (.getfield 61, 3) := by decide +kernel
theorem dX4_howMany_54 : decode cX4_howMany 54 = .ok (.ireturn, 1) := by decide +kernel
theorem dX4_howMany_55 : decode cX4_howMany 55 = .ok (.aload_n 0, 1) := by decide +kernel
theorem dX4_howMany_56 : decode cX4_howMany 56 = .ok (.getfield 53, 3) := by decide +kernel
theorem dX4_howMany_59 : decode cX4_howMany 59 = .ok (.invokestatic 107, 3) := by decide +kernel
theorem dX4_howMany_62 : decode cX4_howMany 62 = .ok (.ireturn, 1) := by decide +kernel
theorem dX4_howMany_63 : decode cX4_howMany 63 = .ok (.aload_n 0, 1) := by decide +kernel
theorem dX4_howMany_64 : decode cX4_howMany 64 = .ok (.getfield 34, 3) := by decide +kernel
theorem dX4_howMany_67 : decode cX4_howMany 67 = .ok (.getfield 113, 3) := by decide +kernel
theorem dX4_howMany_70 : decode cX4_howMany 70 = .ok (.ireturn, 1) := by decide +kernel
theorem dX4_howMany_71 : decode cX4_howMany 71 = .ok (.aload_n 0, 1) := by decide +kernel
theorem dX4_howMany_72 : decode cX4_howMany 72 = .ok (.getfield 89, 3) := by decide +kernel
theorem dX4_howMany_75 : decode cX4_howMany 75 = .ok (.ireturn, 1) := by decide +kernel
theorem dX4_howMany_76 : decode cX4_howMany 76 = .ok (.aload_n 0, 1) := by decide +kernel
theorem dX4_howMany_77 : decode cX4_howMany 77 = .ok (.getfield 34, 3) := by decide +kernel
theorem dX4_howMany_80 : decode cX4_howMany 80 = .ok (.getfield 116, 3) := by decide +kernel
theorem dX4_howMany_83 : decode cX4_howMany 83 = .ok (.ireturn, 1) := by decide +kernel
theorem dX4_edgeRanges_0 : decode cX4_edgeRanges 0 = .ok (.iconst 0, 1) := by decide +kernel
theorem dX4_edgeRanges_1 : decode cX4_edgeRanges 1 = .ok (.istore_n 2, 1) := by decide +kernel
theorem dX4_edgeRanges_2 : decode cX4_edgeRanges 2 = .ok (.iconst 0, 1) := by decide +kernel
theorem dX4_edgeRanges_3 : decode cX4_edgeRanges 3 = .ok (.istore_n 3, 1) := by decide +kernel
theorem dX4_edgeRanges_4 : decode cX4_edgeRanges 4 = .ok (.iload_n 3, 1) := by decide +kernel
theorem dX4_edgeRanges_5 : decode cX4_edgeRanges 5 = .ok (.aload_n 0, 1) := by decide +kernel
theorem dX4_edgeRanges_6 : decode cX4_edgeRanges 6 = .ok (.getfield 89, 3) := by decide +kernel
theorem dX4_edgeRanges_9 : decode cX4_edgeRanges 9 = .ok (.if_icmp .ge 36, 3) := by decide +kernel
theorem dX4_edgeRanges_12 : decode cX4_edgeRanges 12 = .ok (.aload_n 0, 1) := by decide +kernel
theorem dX4_edgeRanges_13 : decode cX4_edgeRanges 13 = .ok (.iload_n 1, 1) := by decide +kernel
theorem dX4_edgeRanges_14 : decode cX4_edgeRanges 14 = .ok (.iload_n 3, 1) := by decide +kernel
theorem dX4_edgeRanges_15 : decode cX4_edgeRanges 15 = .ok (.invokevirtual 119, 3) := by decide +kernel
theorem dX4_edgeRanges_18 : decode cX4_edgeRanges 18 = .ok (.ifCond .eq 21, 3) := by decide +kernel
theorem dX4_edgeRanges_21 : decode cX4_edgeRanges 21 = .ok (.iload_n 3, 1) := by decide +kernel
theorem dX4_edgeRanges_22 : decode cX4_edgeRanges 22 = .ok (.ifCond .eq 14, 3) := by decide +kernel
theorem dX4_edgeRanges_25 : decode cX4_edgeRanges 25 = .ok (.aload_n 0, 1) := by decide +kernel
theorem dX4_edgeRanges_26 : decode cX4_edgeRanges 26 = .ok (.iload_n 1, 1) := by decide +kernel
theorem dX4_edgeRanges_27 : decode cX4_edgeRanges 27 = .ok (.iload_n 3, 1) := by decide +kernel
theorem dX4_edgeRanges_28 : decode cX4_edgeRanges 28 = .ok (.iconst 1, 1) := by decide +kernel
theorem dX4_edgeRanges_29 : decode cX4_edgeRanges 29 = .ok (.isub, 1) := by decide +kernel
theorem dX4_edgeRanges_30 : decode cX4_edgeRanges 30 = .ok (.invokevirtual 119, 3) := by decide +kernel
theorem dX4_edgeRanges_33 : decode cX4_edgeRanges 33 = .ok (.ifCond .ne 6, 3) := by decide +kernel
theorem dX4_edgeRanges_36 : decode cX4_edgeRanges 36 = .ok (.iinc 2 1, 3) := by decide +kernel
theorem dX4_edgeRanges_39 : decode cX4_edgeRanges 39 = .ok (.iinc 3 1, 3) := by decide +kernel
theorem dX4_edgeRanges_42 : decode cX4_edgeRanges 42 = .ok (.goto (-38), 3) := by decide +kernel
theorem dX4_edgeRanges_45 : decode cX4_edgeRanges 45 = .ok (.iload_n 2, 1) := by decide +kernel
theorem dX4_edgeRanges_46 : decode cX4_edgeRanges 46 = .ok (.ireturn, 1) := by decide +kernel
theorem dX4_edgeLetters_0 : decode cX4_edgeLetters 0 = .ok (.iconst 0, 1) := by decide +kernel
theorem dX4_edgeLetters_1 : decode cX4_edgeLetters 1 = .ok (.istore_n 2, 1) := by decide +kernel
theorem dX4_edgeLetters_2 : decode cX4_edgeLetters 2 = .ok (.iconst 0, 1) := by decide +kernel
theorem dX4_edgeLetters_3 : decode cX4_edgeLetters 3 = .ok (.istore_n 3, 1) := by decide +kernel
theorem dX4_edgeLetters_4 : decode cX4_edgeLetters 4 = .ok (.iload_n 3, 1) := by decide +kernel
theorem dX4_edgeLetters_5 : decode cX4_edgeLetters 5 = .ok (.aload_n 0, 1) := by decide +kernel
theorem dX4_edgeLetters_6 : decode cX4_edgeLetters 6 = .ok (.getfield 89, 3) := by decide +kernel
theorem dX4_edgeLetters_9 : decode cX4_edgeLetters 9 = .ok (.if_icmp .ge 26, 3) := by decide +kernel
theorem dX4_edgeLetters_12 : decode cX4_edgeLetters 12 = .ok (.aload_n 0, 1) := by decide +kernel
theorem dX4_edgeLetters_13 : decode cX4_edgeLetters 13 = .ok (.iload_n 1, 1) := by decide +kernel
theorem dX4_edgeLetters_14 : decode cX4_edgeLetters 14 = .ok (.iload_n 3, 1) := by decide +kernel
theorem dX4_edgeLetters_15 : decode cX4_edgeLetters 15 = .ok (.invokevirtual 119, 3) := by decide +kernel
theorem dX4_edgeLetters_18 : decode cX4_edgeLetters 18 = .ok (.ifCond .eq 11, 3) := by decide +kernel
theorem dX4_edgeLetters_21 : decode cX4_edgeLetters 21 = .ok (.iload_n 2, 1) := by decide +kernel
theorem dX4_edgeLetters_22 : decode cX4_edgeLetters 22 = .ok (.aload_n 0, 1) := by decide +kernel
theorem dX4_edgeLetters_23 : decode cX4_edgeLetters 23 = .ok (.iload_n 3, 1) := by decide +kernel
theorem dX4_edgeLetters_24 : decode cX4_edgeLetters 24 = .ok (.invokevirtual 122, 3) := by decide +kernel
theorem dX4_edgeLetters_27 : decode cX4_edgeLetters 27 = .ok (.iadd, 1) := by decide +kernel
theorem dX4_edgeLetters_28 : decode cX4_edgeLetters 28 = .ok (.istore_n 2, 1) := by decide +kernel
theorem dX4_edgeLetters_29 : decode cX4_edgeLetters 29 = .ok (.iinc 3 1, 3) := by decide +kernel
theorem dX4_edgeLetters_32 : decode cX4_edgeLetters 32 = .ok (.goto (-28), 3) := by decide +kernel
theorem dX4_edgeLetters_35 : decode cX4_edgeLetters 35 = .ok (.iload_n 2, 1) := by decide +kernel
theorem dX4_edgeLetters_36 : decode cX4_edgeLetters 36 = .ok (.ireturn, 1) := by decide +kernel
theorem dX4_edgeBound_0 : decode cX4_edgeBound 0 = .ok (.iconst 0, 1) := by decide +kernel
theorem dX4_edgeBound_1 : decode cX4_edgeBound 1 = .ok (.istore 4, 2) := by decide +kernel
theorem dX4_edgeBound_3 : decode cX4_edgeBound 3 = .ok (.iconst 0, 1) := by decide +kernel
theorem dX4_edgeBound_4 : decode cX4_edgeBound 4 = .ok (.istore 5, 2) := by decide +kernel
theorem dX4_edgeBound_6 : decode cX4_edgeBound 6 = .ok (.iload 5, 2) := by decide +kernel
theorem dX4_edgeBound_8 : decode cX4_edgeBound 8 = .ok (.aload_n 0, 1) := by decide +kernel
theorem dX4_edgeBound_9 : decode cX4_edgeBound 9 = .ok (.getfield 89, 3) := by decide +kernel
theorem dX4_edgeBound_12 : decode cX4_edgeBound 12 = .ok (.if_icmp .ge 139, 3) := by decide +kernel
theorem dX4_edgeBound_15 : decode cX4_edgeBound 15 = .ok (.iload 5, 2) := by decide +kernel
theorem dX4_edgeBound_17 : decode cX4_edgeBound 17 = .ok (.ifCond .eq 15, 3) := by decide +kernel
theorem dX4_edgeBound_20 : decode cX4_edgeBound 20 = .ok (.aload_n 0, 1) := by decide +kernel
theorem dX4_edgeBound_21 : decode cX4_edgeBound 21 = .ok (.iload_n 1, 1) := by decide +kernel
theorem dX4_edgeBound_22 : decode cX4_edgeBound 22 = .ok (.iload 5, 2) := by decide +kernel
theorem dX4_edgeBound_24 : decode cX4_edgeBound 24 = .ok (.iconst 1, 1) := by decide +kernel
theorem dX4_edgeBound_25 : decode cX4_edgeBound 25 = .ok (.isub, 1) := by decide +kernel
theorem dX4_edgeBound_26 : decode cX4_edgeBound 26 = .ok (.invokevirtual 119, 3) := by decide +kernel
theorem dX4_edgeBound_29 : decode cX4_edgeBound 29 = .ok (.ifCond .ne 7, 3) := by decide +kernel
theorem dX4_edgeBound_32 : decode cX4_edgeBound 32 = .ok (.iconst 1, 1) := by decide +kernel
theorem dX4_edgeBound_33 : decode cX4_edgeBound 33 = .ok (.goto 4, 3) := by decide +kernel
theorem dX4_edgeBound_36 : decode cX4_edgeBound 36 = .ok (.iconst 0, 1) := by decide +kernel
theorem dX4_edgeBound_37 : decode cX4_edgeBound 37 = .ok (.istore 6, 2) := by decide +kernel
theorem dX4_edgeBound_39 : decode cX4_edgeBound 39 = .ok (.iload 5, 2) := by decide +kernel
theorem dX4_edgeBound_41 : decode cX4_edgeBound 41 = .ok (.iconst 1, 1) := by decide +kernel
theorem dX4_edgeBound_42 : decode cX4_edgeBound 42 = .ok (.iadd, 1) := by decide +kernel
theorem dX4_edgeBound_43 : decode cX4_edgeBound 43 = .ok (.aload_n 0, 1) := by decide +kernel
theorem dX4_edgeBound_44 : decode cX4_edgeBound 44 = .ok (.getfield 89, 3) := by decide +kernel
theorem dX4_edgeBound_47 : decode cX4_edgeBound 47 = .ok (.if_icmp .eq 15, 3) := by decide +kernel
theorem dX4_edgeBound_50 : decode cX4_edgeBound 50 = .ok (.aload_n 0, 1) := by decide +kernel
theorem dX4_edgeBound_51 : decode cX4_edgeBound 51 = .ok (.iload_n 1, 1) := by decide +kernel
theorem dX4_edgeBound_52 : decode cX4_edgeBound 52 = .ok (.iload 5, 2) := by decide +kernel
theorem dX4_edgeBound_54 : decode cX4_edgeBound 54 = .ok (.iconst 1, 1) := by decide +kernel
theorem dX4_edgeBound_55 : decode cX4_edgeBound 55 = .ok (.iadd, 1) := by decide +kernel
theorem dX4_edgeBound_56 : decode cX4_edgeBound 56 = .ok (.invokevirtual 119, 3) := by decide +kernel
theorem dX4_edgeBound_59 : decode cX4_edgeBound 59 = .ok (.ifCond .ne 7, 3) := by decide +kernel
theorem dX4_edgeBound_62 : decode cX4_edgeBound 62 = .ok (.iconst 1, 1) := by decide +kernel
theorem dX4_edgeBound_63 : decode cX4_edgeBound 63 = .ok (.goto 4, 3) := by decide +kernel
theorem dX4_edgeBound_66 : decode cX4_edgeBound 66 = .ok (.iconst 0, 1) := by decide +kernel
theorem dX4_edgeBound_67 : decode cX4_edgeBound 67 = .ok (.istore 7, 2) := by decide +kernel
theorem dX4_edgeBound_69 : decode cX4_edgeBound 69 = .ok (.aload_n 0, 1) := by decide +kernel
theorem dX4_edgeBound_70 : decode cX4_edgeBound 70 = .ok (.iload_n 1, 1) := by decide +kernel
theorem dX4_edgeBound_71 : decode cX4_edgeBound 71 = .ok (.iload 5, 2) := by decide +kernel
theorem dX4_edgeBound_73 : decode cX4_edgeBound 73 = .ok (.invokevirtual 119, 3) := by decide +kernel
theorem dX4_edgeBound_76 : decode cX4_edgeBound 76 = .ok (.ifCond .eq 11, 3) := by decide +kernel
theorem dX4_edgeBound_79 : decode cX4_edgeBound 79 = .ok (.iload 6, 2) := by decide +kernel
theorem dX4_edgeBound_81 : decode cX4_edgeBound 81 = .ok (.ifCond .eq 6, 3) := by decide +kernel
theorem dX4_edgeBound_84 : decode cX4_edgeBound 84 = .ok (.iinc 4 1, 3) := by decide +kernel
theorem dX4_edgeBound_87 : decode cX4_edgeBound 87 = .ok (.aload_n 0, 1) := by decide +kernel
theorem dX4_edgeBound_88 : decode cX4_edgeBound 88 = .ok (.iload_n 1, 1) := by decide +kernel
theorem dX4_edgeBound_89 : decode cX4_edgeBound 89 = .ok (.iload 5, 2) := by decide +kernel
theorem dX4_edgeBound_91 : decode cX4_edgeBound 91 = .ok (.invokevirtual 119, 3) := by decide +kernel
theorem dX4_edgeBound_94 : decode cX4_edgeBound 94 = .ok (.ifCond .eq 51, 3) := by decide +kernel
theorem dX4_edgeBound_97 : decode cX4_edgeBound 97 = .ok (.iload 4, 2) := by decide +kernel
theorem dX4_edgeBound_99 : decode cX4_edgeBound 99 = .ok (.iload_n 2, 1) := by decide +kernel
theorem dX4_edgeBound_100 : decode cX4_edgeBound 100 = .ok (.iconst 1, 1) := by decide +kernel
theorem dX4_edgeBound_101 : decode cX4_edgeBound 101 = .ok (.iadd, 1) := by decide +kernel
theorem dX4_edgeBound_102 : decode cX4_edgeBound 102 = .ok (.if_icmp .ne 43, 3) := by decide +kernel
theorem dX4_edgeBound_105 : decode cX4_edgeBound 105 = .ok (.iload_n 3, 1) := by decide +kernel
theorem dX4_edgeBound_106 : decode cX4_edgeBound 106 = .ok (.ifCond .eq 11, 3) := by decide +kernel
theorem dX4_edgeBound_109 : decode cX4_edgeBound 109 = .ok (.iload 7, 2) := by decide +kernel
theorem dX4_edgeBound_111 : decode cX4_edgeBound 111 = .ok (.ifCond .eq 34, 3) := by decide +kernel
theorem dX4_edgeBound_114 : decode cX4_edgeBound 114 = .ok (.goto 8, 3) := by decide +kernel
theorem dX4_edgeBound_117 : decode cX4_edgeBound 117 = .ok (.iload 6, 2) := by decide +kernel
theorem dX4_edgeBound_119 : decode cX4_edgeBound 119 = .ok (.ifCond .eq 26, 3) := by decide +kernel
theorem dX4_edgeBound_122 : decode cX4_edgeBound 122 = .ok (.iload_n 3, 1) := by decide +kernel
theorem dX4_edgeBound_123 : decode cX4_edgeBound 123 = .ok (.ifCond .eq 14, 3) := by decide +kernel
theorem dX4_edgeBound_126 : decode cX4_edgeBound 126 = .ok (.aload_n 0, 1) := by decide +kernel
theorem dX4_edgeBound_127 : decode cX4_edgeBound 127 = .ok (.iload 5, 2) := by decide +kernel
theorem dX4_edgeBound_129 : decode cX4_edgeBound 129 = .ok (.invokevirtual 103, 3) := by decide +kernel
theorem dX4_edgeBound_132 : decode cX4_edgeBound 132 = .ok (.iconst 1, 1) := by decide +kernel
theorem dX4_edgeBound_133 : decode cX4_edgeBound 133 = .ok (.isub, 1) := by decide +kernel
theorem dX4_edgeBound_134 : decode cX4_edgeBound 134 = .ok (.goto 10, 3) := by decide +kernel
theorem dX4_edgeBound_137 : decode cX4_edgeBound 137 = .ok (.aload_n 0, 1) := by decide +kernel
theorem dX4_edgeBound_138 : decode cX4_edgeBound 138 = .ok (.getfield 28, 3) := by decide +kernel
theorem dX4_edgeBound_141 : decode cX4_edgeBound 141 = .ok (.iload 5, 2) := by decide +kernel
theorem dX4_edgeBound_143 : decode cX4_edgeBound 143 = .ok (.iaload, 1) := by decide +kernel
theorem dX4_edgeBound_144 : decode cX4_edgeBound 144 = .ok (.ireturn, 1) := by decide +kernel
theorem dX4_edgeBound_145 : decode cX4_edgeBound 145 = .ok (.iinc 5 1, 3) := by decide +kernel
theorem dX4_edgeBound_148 : decode cX4_edgeBound 148 = .ok (.goto (-142), 3) := by decide +kernel
theorem dX4_edgeBound_151 : decode cX4_edgeBound 151 = .ok (.iconst (-1), 1) := by decide +kernel
theorem dX4_edgeBound_152 : decode cX4_edgeBound 152 = .ok (.ireturn, 1) := by decide +kernel
theorem dX4_edgesWith_0 : decode cX4_edgesWith 0 = .ok (.iconst 0, 1) := by decide +kernel
theorem dX4_edgesWith_1 : decode cX4_edgesWith 1 = .ok (.istore_n 3, 1) := by decide +kernel
theorem dX4_edgesWith_2 : decode cX4_edgesWith 2 = .ok (.iconst 0, 1) := by decide +kernel
theorem dX4_edgesWith_3 : decode cX4_edgesWith 3 = .ok (.istore 4, 2) := by decide +kernel
theorem dX4_edgesWith_5 : decode cX4_edgesWith 5 = .ok (.iload 4, 2) := by decide +kernel
theorem dX4_edgesWith_7 : decode cX4_edgesWith 7 = .ok (.aload_n 0, 1) := by decide +kernel
theorem dX4_edgesWith_8 : decode cX4_edgesWith 8 = .ok (.getfield 57, 3) := by decide +kernel
theorem dX4_edgesWith_11 : decode cX4_edgesWith 11 = .ok (.if_icmp .ge 33, 3) := by decide +kernel
theorem dX4_edgesWith_14 : decode cX4_edgesWith 14 = .ok (.aload_n 0, 1) := by decide +kernel
theorem dX4_edgesWith_15 : decode cX4_edgesWith 15 = .ok (.getfield 9, 3) := by decide +kernel
theorem dX4_edgesWith_18 : decode cX4_edgesWith 18 = .ok (.iload 4, 2) := by decide +kernel
theorem dX4_edgesWith_20 : decode cX4_edgesWith 20 = .ok (.iaload, 1) := by decide +kernel
theorem dX4_edgesWith_21 : decode cX4_edgesWith 21 = .ok (.iload_n 1, 1) := by decide +kernel
theorem dX4_edgesWith_22 : decode cX4_edgesWith 22 = .ok (.if_icmp .ne 16, 3) := by decide +kernel
theorem dX4_edgesWith_25 : decode cX4_edgesWith 25 = .ok (.aload_n 0, 1) := by decide +kernel
theorem dX4_edgesWith_26 : decode cX4_edgesWith 26 = .ok (.iload 4, 2) := by decide +kernel
theorem dX4_edgesWith_28 : decode cX4_edgesWith 28 = .ok (.iload_n 2, 1) := by decide +kernel
theorem dX4_edgesWith_29 : decode cX4_edgesWith 29 = .ok (.invokevirtual 119, 3) := by decide +kernel
theorem dX4_edgesWith_32 : decode cX4_edgesWith 32 = .ok (.ifCond .eq 6, 3) := by decide +kernel
theorem dX4_edgesWith_35 : decode cX4_edgesWith 35 = .ok (.iinc 3 1, 3) := by decide +kernel
theorem dX4_edgesWith_38 : decode cX4_edgesWith 38 = .ok (.iinc 4 1, 3) := by decide +kernel
theorem dX4_edgesWith_41 : decode cX4_edgesWith 41 = .ok (.goto (-36), 3) := by decide +kernel
theorem dX4_edgesWith_44 : decode cX4_edgesWith 44 = .ok (.iload_n 3, 1) := by decide +kernel
theorem dX4_edgesWith_45 : decode cX4_edgesWith 45 = .ok (.ireturn, 1) := by decide +kernel
theorem dX4_uselessStates_0 : decode cX4_uselessStates 0 = .ok (.aload_n 0, 1) := by decide +kernel
theorem dX4_uselessStates_1 : decode cX4_uselessStates 1 = .ok (.lconst 1, 1) := by decide +kernel
theorem dX4_uselessStates_2 : decode cX4_uselessStates 2 = .ok (.iconst 0, 1) := by decide +kernel
theorem dX4_uselessStates_3 : decode cX4_uselessStates 3 = .ok (.invokevirtual 125, 3) := by decide +kernel
theorem dX4_uselessStates_6 : decode cX4_uselessStates 6 = .ok (.aload_n 0, 1) := by decide +kernel
theorem dX4_uselessStates_7 : decode cX4_uselessStates 7 = .ok (.aload_n 0, 1) := by decide +kernel
theorem dX4_uselessStates_8 : decode cX4_uselessStates 8 = .ok (.getfield 53, 3) := by decide +kernel
theorem dX4_uselessStates_11 : decode cX4_uselessStates 11 = .ok (.iconst 1, 1) := by decide +kernel
theorem dX4_uselessStates_12 : decode cX4_uselessStates 12 = .ok (.invokevirtual 125, 3) := by decide +kernel
theorem dX4_uselessStates_15 : decode cX4_uselessStates 15 = .ok (.land, 1) := by decide +kernel
theorem dX4_uselessStates_16 : decode cX4_uselessStates 16 = .ok (.lstore_n 1, 1) := by decide +kernel
theorem dX4_uselessStates_17 : decode cX4_uselessStates 17 = .ok (.lconst 1, 1) := by decide +kernel
theorem dX4_uselessStates_18 : decode cX4_uselessStates 18 = .ok (.aload_n 0, 1) := by decide +kernel
theorem dX4_uselessStates_19 : decode cX4_uselessStates 19 = .ok (.getfield 48, 3) := by decide +kernel
theorem dX4_uselessStates_22 : decode cX4_uselessStates 22 = .ok (.lshl, 1) := by decide +kernel
theorem dX4_uselessStates_23 : decode cX4_uselessStates 23 = .ok (.lconst 1, 1) := by decide +kernel
theorem dX4_uselessStates_24 : decode cX4_uselessStates 24 = .ok (.lsub, 1) := by decide +kernel
theorem dX4_uselessStates_25 : decode cX4_uselessStates 25 = .ok (.lload_n 1, 1) := by decide +kernel
theorem dX4_uselessStates_26 : decode cX4_uselessStates 26 = .ok (.ldc2_w 129, 3) := by decide +kernel
theorem dX4_uselessStates_29 : decode cX4_uselessStates 29 = .ok (.lxor, 1) := by decide +kernel
theorem dX4_uselessStates_30 : decode cX4_uselessStates 30 = .ok (.land, 1) := by decide +kernel
theorem dX4_uselessStates_31 : decode cX4_uselessStates 31 = .ok (.lreturn, 1) := by decide +kernel
theorem dX4_spread_0 : decode cX4_spread 0 = .ok (.lload_n 1, 1) := by decide +kernel
theorem dX4_spread_1 : decode cX4_spread 1 = .ok (.lstore 4, 2) := by decide +kernel
theorem dX4_spread_3 : decode cX4_spread 3 = .ok (.iconst 0, 1) := by decide +kernel
theorem dX4_spread_4 : decode cX4_spread 4 = .ok (.istore 6, 2) := by decide +kernel
theorem dX4_spread_6 : decode cX4_spread 6 = .ok (.iload 6, 2) := by decide +kernel
theorem dX4_spread_8 : decode cX4_spread 8 = .ok (.aload_n 0, 1) := by decide +kernel
theorem dX4_spread_9 : decode cX4_spread 9 = .ok (.getfield 48, 3) := by decide +kernel
theorem dX4_spread_12 : decode cX4_spread 12 = .ok (.if_icmp .ge 98, 3) := by decide +kernel
theorem dX4_spread_15 : decode cX4_spread 15 = .ok (.iconst 0, 1) := by decide +kernel
theorem dX4_spread_16 : decode cX4_spread 16 = .ok (.istore 7, 2) := by decide +kernel
theorem dX4_spread_18 : decode cX4_spread 18 = .ok (.iload 7, 2) := by decide +kernel
theorem dX4_spread_20 : decode cX4_spread 20 = .ok (.aload_n 0, 1) := by decide +kernel
theorem dX4_spread_21 : decode cX4_spread 21 = .ok (.getfield 61, 3) := by decide +kernel
theorem dX4_spread_24 : decode cX4_spread 24 = .ok (.if_icmp .ge 31, 3) := by decide +kernel
theorem dX4_spread_27 : decode cX4_spread 27 = .ok (.lload 4, 2) := by decide +kernel
theorem dX4_spread_29 : decode cX4_spread 29 = .ok (.aload_n 0, 1) := by decide +kernel
theorem dX4_spread_30 : decode cX4_spread 30 = .ok (.getfield 22, 3) := by decide +kernel
theorem dX4_spread_33 : decode cX4_spread 33 = .ok (.iload 7, 2) := by decide +kernel
theorem dX4_spread_35 : decode cX4_spread 35 = .ok (.iaload, 1) := by decide +kernel
theorem dX4_spread_36 : decode cX4_spread 36 = .ok (.aload_n 0, 1) := by decide +kernel
theorem dX4_spread_37 : decode cX4_spread 37 = .ok (.getfield 25, 3) := by decide +kernel
theorem dX4_spread_40 : decode cX4_spread 40 = .ok (.iload 7, 2) := by decide +kernel
theorem dX4_spread_42 : decode cX4_spread 42 = .ok (.iaload, 1) := by decide +kernel
theorem dX4_spread_43 : decode cX4_spread 43 = .ok (.iload_n 3, 1) := by decide +kernel
theorem dX4_spread_44 : decode cX4_spread 44 = .ok (.invokestatic 131, 3) := by decide +kernel
theorem dX4_spread_47 : decode cX4_spread 47 = .ok (.lstore 4, 2) := by decide +kernel
theorem dX4_spread_49 : decode cX4_spread 49 = .ok (.iinc 7 1, 3) := by decide +kernel
theorem dX4_spread_52 : decode cX4_spread 52 = .ok (.goto (-34), 3) := by decide +kernel
theorem dX4_spread_55 : decode cX4_spread 55 = .ok (.iconst 0, 1) := by decide +kernel
theorem dX4_spread_56 : decode cX4_spread 56 = .ok (.istore 7, 2) := by decide +kernel
theorem dX4_spread_58 : decode cX4_spread 58 = .ok (.iload 7, 2) := by decide +kernel
theorem dX4_spread_60 : decode cX4_spread 60 = .ok (.aload_n 0, 1) := by decide +kernel
theorem dX4_spread_61 : decode cX4_spread 61 = .ok (.getfield 57, 3) := by decide +kernel
theorem dX4_spread_64 : decode cX4_spread 64 = .ok (.if_icmp .ge 40, 3) := by decide +kernel
theorem dX4_spread_67 : decode cX4_spread 67 = .ok (.aload_n 0, 1) := by decide +kernel
theorem dX4_spread_68 : decode cX4_spread 68 = .ok (.iload 7, 2) := by decide +kernel
theorem dX4_spread_70 : decode cX4_spread 70 = .ok (.invokevirtual 135, 3) := by decide +kernel
theorem dX4_spread_73 : decode cX4_spread 73 = .ok (.ifCond .eq 25, 3) := by decide +kernel
theorem dX4_spread_76 : decode cX4_spread 76 = .ok (.lload 4, 2) := by decide +kernel
theorem dX4_spread_78 : decode cX4_spread 78 = .ok (.aload_n 0, 1) := by decide +kernel
theorem dX4_spread_79 : decode cX4_spread 79 = .ok (.getfield 9, 3) := by decide +kernel
theorem dX4_spread_82 : decode cX4_spread 82 = .ok (.iload 7, 2) := by decide +kernel
theorem dX4_spread_84 : decode cX4_spread 84 = .ok (.iaload, 1) := by decide +kernel
theorem dX4_spread_85 : decode cX4_spread 85 = .ok (.aload_n 0, 1) := by decide +kernel
theorem dX4_spread_86 : decode cX4_spread 86 = .ok (.getfield 15, 3) := by decide +kernel
theorem dX4_spread_89 : decode cX4_spread 89 = .ok (.iload 7, 2) := by decide +kernel
theorem dX4_spread_91 : decode cX4_spread 91 = .ok (.iaload, 1) := by decide +kernel
theorem dX4_spread_92 : decode cX4_spread 92 = .ok (.iload_n 3, 1) := by decide +kernel
theorem dX4_spread_93 : decode cX4_spread 93 = .ok (.invokestatic 131, 3) := by decide +kernel
theorem dX4_spread_96 : decode cX4_spread 96 = .ok (.lstore 4, 2) := by decide +kernel
theorem dX4_spread_98 : decode cX4_spread 98 = .ok (.iinc 7 1, 3) := by decide +kernel
theorem dX4_spread_101 : decode cX4_spread 101 = .ok (.goto (-43), 3) := by decide +kernel
theorem dX4_spread_104 : decode cX4_spread 104 = .ok (.iinc 6 1, 3) := by decide +kernel
theorem dX4_spread_107 : decode cX4_spread 107 = .ok (.goto (-101), 3) := by decide +kernel
theorem dX4_spread_110 : decode cX4_spread 110 = .ok (.lload 4, 2) := by decide +kernel
theorem dX4_spread_112 : decode cX4_spread 112 = .ok (.lreturn, 1) := by decide +kernel
theorem dX4_carry_0 : decode cX4_carry 0 = .ok (.iload 4, 2) := by decide +kernel
theorem dX4_carry_2 : decode cX4_carry 2 = .ok (.ifCond .eq 7, 3) := by decide +kernel
theorem dX4_carry_5 : decode cX4_carry 5 = .ok (.iload_n 3, 1) := by decide +kernel
theorem dX4_carry_6 : decode cX4_carry 6 = .ok (.goto 4, 3) := by decide +kernel
theorem dX4_carry_9 : decode cX4_carry 9 = .ok (.iload_n 2, 1) := by decide +kernel
theorem dX4_carry_10 : decode cX4_carry 10 = .ok (.istore 5, 2) := by decide +kernel
theorem dX4_carry_12 : decode cX4_carry 12 = .ok (.iload 4, 2) := by decide +kernel
theorem dX4_carry_14 : decode cX4_carry 14 = .ok (.ifCond .eq 7, 3) := by decide +kernel
theorem dX4_carry_17 : decode cX4_carry 17 = .ok (.iload_n 2, 1) := by decide +kernel
theorem dX4_carry_18 : decode cX4_carry 18 = .ok (.goto 4, 3) := by decide +kernel
theorem dX4_carry_21 : decode cX4_carry 21 = .ok (.iload_n 3, 1) := by decide +kernel
theorem dX4_carry_22 : decode cX4_carry 22 = .ok (.istore 6, 2) := by decide +kernel
theorem dX4_carry_24 : decode cX4_carry 24 = .ok (.lload_n 0, 1) := by decide +kernel
theorem dX4_carry_25 : decode cX4_carry 25 = .ok (.iload 5, 2) := by decide +kernel
theorem dX4_carry_27 : decode cX4_carry 27 = .ok (.lushr, 1) := by decide +kernel
theorem dX4_carry_28 : decode cX4_carry 28 = .ok (.lconst 1, 1) := by decide +kernel
theorem dX4_carry_29 : decode cX4_carry 29 = .ok (.land, 1) := by decide +kernel
theorem dX4_carry_30 : decode cX4_carry 30 = .ok (.lconst 1, 1) := by decide +kernel
theorem dX4_carry_31 : decode cX4_carry 31 = .ok (.lcmp, 1) := by decide +kernel
theorem dX4_carry_32 : decode cX4_carry 32 = .ok (.ifCond .ne 12, 3) := by decide +kernel
theorem dX4_carry_35 : decode cX4_carry 35 = .ok (.lload_n 0, 1) := by decide +kernel
theorem dX4_carry_36 : decode cX4_carry 36 = .ok (.lconst 1, 1) := by decide +kernel
theorem dX4_carry_37 : decode cX4_carry 37 = .ok (.iload 6, 2) := by decide +kernel
theorem dX4_carry_39 : decode cX4_carry 39 = .ok (.lshl, 1) := by decide +kernel
theorem dX4_carry_40 : decode cX4_carry 40 = .ok (.lor, 1) := by decide +kernel
theorem dX4_carry_41 : decode cX4_carry 41 = .ok (.goto 4, 3) := by decide +kernel
theorem dX4_carry_44 : decode cX4_carry 44 = .ok (.lload_n 0, 1) := by decide +kernel
theorem dX4_carry_45 : decode cX4_carry 45 = .ok (.lreturn, 1) := by decide +kernel
theorem dX5_group_0 : decode cX5_group 0 = .ok (.aload_n 0, 1) := by decide +kernel
theorem dX5_group_1 : decode cX5_group 1 = .ok (.getfield 9, 3) := by decide +kernel
theorem dX5_group_4 : decode cX5_group 4 = .ok (.iconst 0, 1) := by decide +kernel
theorem dX5_group_5 : decode cX5_group 5 = .ok (.invokestatic 18, 3) := by decide +kernel
theorem dX5_group_8 : decode cX5_group 8 = .ok (.aload_n 0, 1) := by decide +kernel
theorem dX5_group_9 : decode cX5_group 9 = .ok (.iconst 1, 1) := by decide +kernel
theorem dX5_group_10 : decode cX5_group 10 = .ok (.putfield 24, 3) := by decide +kernel
theorem dX5_group_13 : decode cX5_group 13 = .ok (.iconst 0, 1) := by decide +kernel
theorem dX5_group_14 : decode cX5_group 14 = .ok (.istore_n 3, 1) := by decide +kernel
theorem dX5_group_15 : decode cX5_group 15 = .ok (.iload_n 3, 1) := by decide +kernel
theorem dX5_group_16 : decode cX5_group 16 = .ok (.aload_n 1, 1) := by decide +kernel
theorem dX5_group_17 : decode cX5_group 17 = .ok (.getfield 28, 3) := by decide +kernel
theorem dX5_group_20 : decode cX5_group 20 = .ok (.if_icmp .ge 25, 3) := by decide +kernel
theorem dX5_group_23 : decode cX5_group 23 = .ok (.aload_n 1, 1) := by decide +kernel
theorem dX5_group_24 : decode cX5_group 24 = .ok (.getfield 33, 3) := by decide +kernel
theorem dX5_group_27 : decode cX5_group 27 = .ok (.iload_n 3, 1) := by decide +kernel
theorem dX5_group_28 : decode cX5_group 28 = .ok (.iaload, 1) := by decide +kernel
theorem dX5_group_29 : decode cX5_group 29 = .ok (.iload_n 2, 1) := by decide +kernel
theorem dX5_group_30 : decode cX5_group 30 = .ok (.if_icmp .ne 9, 3) := by decide +kernel
theorem dX5_group_33 : decode cX5_group 33 = .ok (.aload_n 0, 1) := by decide +kernel
theorem dX5_group_34 : decode cX5_group 34 = .ok (.aload_n 1, 1) := by decide +kernel
theorem dX5_group_35 : decode cX5_group 35 = .ok (.iload_n 3, 1) := by decide +kernel
theorem dX5_group_36 : decode cX5_group 36 = .ok (.invokevirtual 36, 3) := by decide +kernel
theorem dX5_group_39 : decode cX5_group 39 = .ok (.iinc 3 1, 3) := by decide +kernel
theorem dX5_group_42 : decode cX5_group 42 = .ok (.goto (-27), 3) := by decide +kernel
theorem dX5_group_45 : decode cX5_group 45 = .ok (.return_, 1) := by decide +kernel
theorem dX5_partBy_0 : decode cX5_partBy 0 = .ok (.aload_n 0, 1) := by decide +kernel
theorem dX5_partBy_1 : decode cX5_partBy 1 = .ok (.getfield 15, 3) := by decide +kernel
theorem dX5_partBy_4 : decode cX5_partBy 4 = .ok (.iconst (-1), 1) := by decide +kernel
theorem dX5_partBy_5 : decode cX5_partBy 5 = .ok (.invokestatic 18, 3) := by decide +kernel
theorem dX5_partBy_8 : decode cX5_partBy 8 = .ok (.aload_n 0, 1) := by decide +kernel
theorem dX5_partBy_9 : decode cX5_partBy 9 = .ok (.iconst 0, 1) := by decide +kernel
theorem dX5_partBy_10 : decode cX5_partBy 10 = .ok (.putfield 24, 3) := by decide +kernel
theorem dX5_partBy_13 : decode cX5_partBy 13 = .ok (.iconst 0, 1) := by decide +kernel
theorem dX5_partBy_14 : decode cX5_partBy 14 = .ok (.istore_n 3, 1) := by decide +kernel
theorem dX5_partBy_15 : decode cX5_partBy 15 = .ok (.iload_n 3, 1) := by decide +kernel
theorem dX5_partBy_16 : decode cX5_partBy 16 = .ok (.aload_n 1, 1) := by decide +kernel
theorem dX5_partBy_17 : decode cX5_partBy 17 = .ok (.getfield 40, 3) := by decide +kernel
theorem dX5_partBy_20 : decode cX5_partBy 20 = .ok (.if_icmp .ge 79, 3) := by decide +kernel
theorem dX5_partBy_23 : decode cX5_partBy 23 = .ok (.iconst 2, 1) := by decide +kernel
theorem dX5_partBy_24 : decode cX5_partBy 24 = .ok (.aload_n 0, 1) := by decide +kernel
theorem dX5_partBy_25 : decode cX5_partBy 25 = .ok (.getfield 9, 3) := by decide +kernel
theorem dX5_partBy_28 : decode cX5_partBy 28 = .ok (.iload_n 3, 1) := by decide +kernel
theorem dX5_partBy_29 : decode cX5_partBy 29 = .ok (.iaload, 1) := by decide +kernel
theorem dX5_partBy_30 : decode cX5_partBy 30 = .ok (.imul, 1) := by decide +kernel
theorem dX5_partBy_31 : decode cX5_partBy 31 = .ok (.aload_n 1, 1) := by decide +kernel
theorem dX5_partBy_32 : decode cX5_partBy 32 = .ok (.iload_n 2, 1) := by decide +kernel
theorem dX5_partBy_33 : decode cX5_partBy 33 = .ok (.iload_n 3, 1) := by decide +kernel
theorem dX5_partBy_34 : decode cX5_partBy 34 = .ok (.invokevirtual 43, 3) := by decide +kernel
theorem dX5_partBy_37 : decode cX5_partBy 37 = .ok (.ifCond .eq 7, 3) := by decide +kernel
theorem dX5_partBy_40 : decode cX5_partBy 40 = .ok (.iconst 1, 1) := by decide +kernel
theorem dX5_partBy_41 : decode cX5_partBy 41 = .ok (.goto 4, 3) := by decide +kernel
theorem dX5_partBy_44 : decode cX5_partBy 44 = .ok (.iconst 0, 1) := by decide +kernel
theorem dX5_partBy_45 : decode cX5_partBy 45 = .ok (.iadd, 1) := by decide +kernel
theorem dX5_partBy_46 : decode cX5_partBy 46 = .ok (.istore 4, 2) := by decide +kernel
theorem dX5_partBy_48 : decode cX5_partBy 48 = .ok (.aload_n 0, 1) := by decide +kernel
theorem dX5_partBy_49 : decode cX5_partBy 49 = .ok (.getfield 15, 3) := by decide +kernel
theorem dX5_partBy_52 : decode cX5_partBy 52 = .ok (.iload 4, 2) := by decide +kernel
theorem dX5_partBy_54 : decode cX5_partBy 54 = .ok (.iaload, 1) := by decide +kernel
theorem dX5_partBy_55 : decode cX5_partBy 55 = .ok (.iconst (-1), 1) := by decide +kernel
theorem dX5_partBy_56 : decode cX5_partBy 56 = .ok (.if_icmp .ne 24, 3) := by decide +kernel
theorem dX5_partBy_59 : decode cX5_partBy 59 = .ok (.aload_n 0, 1) := by decide +kernel
theorem dX5_partBy_60 : decode cX5_partBy 60 = .ok (.getfield 15, 3) := by decide +kernel
theorem dX5_partBy_63 : decode cX5_partBy 63 = .ok (.iload 4, 2) := by decide +kernel
theorem dX5_partBy_65 : decode cX5_partBy 65 = .ok (.aload_n 0, 1) := by decide +kernel
theorem dX5_partBy_66 : decode cX5_partBy 66 = .ok (.getfield 24, 3) := by decide +kernel
theorem dX5_partBy_69 : decode cX5_partBy 69 = .ok (.iastore, 1) := by decide +kernel
theorem dX5_partBy_70 : decode cX5_partBy 70 = .ok (.aload_n 0, 1) := by decide +kernel
theorem dX5_partBy_71 : decode cX5_partBy 71 = .ok (.dup, 1) := by decide +kernel
theorem dX5_partBy_72 : decode cX5_partBy 72 = .ok (.getfield 24, 3) := by decide +kernel
theorem dX5_partBy_75 : decode cX5_partBy 75 = .ok (.iconst 1, 1) := by decide +kernel
theorem dX5_partBy_76 : decode cX5_partBy 76 = .ok (.iadd, 1) := by decide +kernel
theorem dX5_partBy_77 : decode cX5_partBy 77 = .ok (.putfield 24, 3) := by decide +kernel
theorem dX5_partBy_80 : decode cX5_partBy 80 = .ok (.aload_n 0, 1) := by decide +kernel
theorem dX5_partBy_81 : decode cX5_partBy 81 = .ok (.getfield 9, 3) := by decide +kernel
theorem dX5_partBy_84 : decode cX5_partBy 84 = .ok (.iload_n 3, 1) := by decide +kernel
theorem dX5_partBy_85 : decode cX5_partBy 85 = .ok (.aload_n 0, 1) := by decide +kernel
theorem dX5_partBy_86 : decode cX5_partBy 86 = .ok (.getfield 15, 3) := by decide +kernel
theorem dX5_partBy_89 : decode cX5_partBy 89 = .ok (.iload 4, 2) := by decide +kernel
theorem dX5_partBy_91 : decode cX5_partBy 91 = .ok (.iaload, 1) := by decide +kernel
theorem dX5_partBy_92 : decode cX5_partBy 92 = .ok (.iastore, 1) := by decide +kernel
theorem dX5_partBy_93 : decode cX5_partBy 93 = .ok (.iinc 3 1, 3) := by decide +kernel
theorem dX5_partBy_96 : decode cX5_partBy 96 = .ok (.goto (-81), 3) := by decide +kernel
theorem dX5_partBy_99 : decode cX5_partBy 99 = .ok (.return_, 1) := by decide +kernel
theorem dX5_leaderOf_0 : decode cX5_leaderOf 0 = .ok (.iconst 0, 1) := by decide +kernel
theorem dX5_leaderOf_1 : decode cX5_leaderOf 1 = .ok (.istore_n 3, 1) := by decide +kernel
theorem dX5_leaderOf_2 : decode cX5_leaderOf 2 = .ok (.iload_n 3, 1) := by decide +kernel
theorem dX5_leaderOf_3 : decode cX5_leaderOf 3 = .ok (.iconst 1, 1) := by decide +kernel
theorem dX5_leaderOf_4 : decode cX5_leaderOf 4 = .ok (.iadd, 1) := by decide +kernel
theorem dX5_leaderOf_5 : decode cX5_leaderOf 5 = .ok (.aload_n 1, 1) := by decide +kernel
theorem dX5_leaderOf_6 : decode cX5_leaderOf 6 = .ok (.getfield 40, 3) := by decide +kernel
theorem dX5_leaderOf_9 : decode cX5_leaderOf 9 = .ok (.if_icmp .ge 19, 3) := by decide +kernel
theorem dX5_leaderOf_12 : decode cX5_leaderOf 12 = .ok (.aload_n 0, 1) := by decide +kernel
theorem dX5_leaderOf_13 : decode cX5_leaderOf 13 = .ok (.getfield 9, 3) := by decide +kernel
theorem dX5_leaderOf_16 : decode cX5_leaderOf 16 = .ok (.iload_n 3, 1) := by decide +kernel
theorem dX5_leaderOf_17 : decode cX5_leaderOf 17 = .ok (.iaload, 1) := by decide +kernel
theorem dX5_leaderOf_18 : decode cX5_leaderOf 18 = .ok (.iload_n 2, 1) := by decide +kernel
theorem dX5_leaderOf_19 : decode cX5_leaderOf 19 = .ok (.if_icmp .eq 9, 3) := by decide +kernel
theorem dX5_leaderOf_22 : decode cX5_leaderOf 22 = .ok (.iinc 3 1, 3) := by decide +kernel
theorem dX5_leaderOf_25 : decode cX5_leaderOf 25 = .ok (.goto (-23), 3) := by decide +kernel
theorem dX5_leaderOf_28 : decode cX5_leaderOf 28 = .ok (.iload_n 3, 1) := by decide +kernel
theorem dX5_leaderOf_29 : decode cX5_leaderOf 29 = .ok (.ireturn, 1) := by decide +kernel
theorem dX5_amountOf_0 : decode cX5_amountOf 0 = .ok (.iconst 0, 1) := by decide +kernel
theorem dX5_amountOf_1 : decode cX5_amountOf 1 = .ok (.istore_n 3, 1) := by decide +kernel
theorem dX5_amountOf_2 : decode cX5_amountOf 2 = .ok (.iconst 0, 1) := by decide +kernel
theorem dX5_amountOf_3 : decode cX5_amountOf 3 = .ok (.istore 4, 2) := by decide +kernel
theorem dX5_amountOf_5 : decode cX5_amountOf 5 = .ok (.iload 4, 2) := by decide +kernel
theorem dX5_amountOf_7 : decode cX5_amountOf 7 = .ok (.aload_n 1, 1) := by decide +kernel
theorem dX5_amountOf_8 : decode cX5_amountOf 8 = .ok (.getfield 40, 3) := by decide +kernel
theorem dX5_amountOf_11 : decode cX5_amountOf 11 = .ok (.if_icmp .ge 29, 3) := by decide +kernel
theorem dX5_amountOf_14 : decode cX5_amountOf 14 = .ok (.aload_n 0, 1) := by decide +kernel
theorem dX5_amountOf_15 : decode cX5_amountOf 15 = .ok (.getfield 9, 3) := by decide +kernel
theorem dX5_amountOf_18 : decode cX5_amountOf 18 = .ok (.iload 4, 2) := by decide +kernel
theorem dX5_amountOf_20 : decode cX5_amountOf 20 = .ok (.iaload, 1) := by decide +kernel
theorem dX5_amountOf_21 : decode cX5_amountOf 21 = .ok (.iload_n 2, 1) := by decide +kernel
theorem dX5_amountOf_22 : decode cX5_amountOf 22 = .ok (.if_icmp .ne 12, 3) := by decide +kernel
theorem dX5_amountOf_25 : decode cX5_amountOf 25 = .ok (.iload_n 3, 1) := by decide +kernel
theorem dX5_amountOf_26 : decode cX5_amountOf 26 = .ok (.aload_n 1, 1) := by decide +kernel
theorem dX5_amountOf_27 : decode cX5_amountOf 27 = .ok (.iload 4, 2) := by decide +kernel
theorem dX5_amountOf_29 : decode cX5_amountOf 29 = .ok (.invokevirtual 47, 3) := by decide +kernel
theorem dX5_amountOf_32 : decode cX5_amountOf 32 = .ok (.iadd, 1) := by decide +kernel
theorem dX5_amountOf_33 : decode cX5_amountOf 33 = .ok (.istore_n 3, 1) := by decide +kernel
theorem dX5_amountOf_34 : decode cX5_amountOf 34 = .ok (.iinc 4 1, 3) := by decide +kernel
theorem dX5_amountOf_37 : decode cX5_amountOf 37 = .ok (.goto (-32), 3) := by decide +kernel
theorem dX5_amountOf_40 : decode cX5_amountOf 40 = .ok (.iload_n 3, 1) := by decide +kernel
theorem dX5_amountOf_41 : decode cX5_amountOf 41 = .ok (.ireturn, 1) := by decide +kernel
theorem dX6_firstOf_0 : decode cX6_firstOf 0 = .ok (.aload_n 0, 1) := by decide +kernel
theorem dX6_firstOf_1 : decode cX6_firstOf 1 = .ok (.aload_n 1, 1) := by decide +kernel
theorem dX6_firstOf_2 : decode cX6_firstOf 2 = .ok (.aload_n 2, 1) := by decide +kernel
theorem dX6_firstOf_3 : decode cX6_firstOf 3 = .ok (.invokevirtual 40, 3) := by decide +kernel
theorem dX6_firstOf_6 : decode cX6_firstOf 6 = .ok (.iconst 0, 1) := by decide +kernel
theorem dX6_firstOf_7 : decode cX6_firstOf 7 = .ok (.istore 4, 2) := by decide +kernel
theorem dX6_firstOf_9 : decode cX6_firstOf 9 = .ok (.iload 4, 2) := by decide +kernel
theorem dX6_firstOf_11 : decode cX6_firstOf 11 = .ok (.sipush 1600, 3) := by decide +kernel
theorem dX6_firstOf_14 : decode cX6_firstOf 14 = .ok (.if_icmp .ge 41, 3) := by decide +kernel
theorem dX6_firstOf_17 : decode cX6_firstOf 17 = .ok (.iload 4, 2) := by decide +kernel
theorem dX6_firstOf_19 : decode cX6_firstOf 19 = .ok (.aload_n 0, 1) := by decide +kernel
theorem dX6_firstOf_20 : decode cX6_firstOf 20 = .ok (.getfield 44, 3) := by decide +kernel
theorem dX6_firstOf_23 : decode cX6_firstOf 23 = .ok (.if_icmp .ge 32, 3) := by decide +kernel
theorem dX6_firstOf_26 : decode cX6_firstOf 26 = .ok (.aload_n 0, 1) := by decide +kernel
theorem dX6_firstOf_27 : decode cX6_firstOf 27 = .ok (.aload_n 1, 1) := by decide +kernel
theorem dX6_firstOf_28 : decode cX6_firstOf 28 = .ok (.aload_n 2, 1) := by decide +kernel
theorem dX6_firstOf_29 : decode cX6_firstOf 29 = .ok (.iload_n 3, 1) := by decide +kernel
theorem dX6_firstOf_30 : decode cX6_firstOf 30 = .ok (.iload 4, 2) := by decide +kernel
theorem dX6_firstOf_32 : decode cX6_firstOf 32 = .ok (.invokevirtual 48, 3) := by decide +kernel
theorem dX6_firstOf_35 : decode cX6_firstOf 35 = .ok (.ifCond .eq 6, 3) := by decide +kernel
theorem dX6_firstOf_38 : decode cX6_firstOf 38 = .ok (.iload 4, 2) := by decide +kernel
theorem dX6_firstOf_40 : decode cX6_firstOf 40 = .ok (.ireturn, 1) := by decide +kernel
theorem dX6_firstOf_41 : decode cX6_firstOf 41 = .ok (.aload_n 0, 1) := by decide +kernel
theorem dX6_firstOf_42 : decode cX6_firstOf 42 = .ok (.aload_n 1, 1) := by decide +kernel
theorem dX6_firstOf_43 : decode cX6_firstOf 43 = .ok (.aload_n 2, 1) := by decide +kernel
theorem dX6_firstOf_44 : decode cX6_firstOf 44 = .ok (.iload 4, 2) := by decide +kernel
theorem dX6_firstOf_46 : decode cX6_firstOf 46 = .ok (.invokevirtual 52, 3) := by decide +kernel
theorem dX6_firstOf_49 : decode cX6_firstOf 49 = .ok (.iinc 4 1, 3) := by decide +kernel
theorem dX6_firstOf_52 : decode cX6_firstOf 52 = .ok (.goto (-43), 3) := by decide +kernel
theorem dX6_firstOf_55 : decode cX6_firstOf 55 = .ok (.iconst (-1), 1) := by decide +kernel
theorem dX6_firstOf_56 : decode cX6_firstOf 56 = .ok (.ireturn, 1) := by decide +kernel
theorem dX6_drawAll_0 : decode cX6_drawAll 0 = .ok (.aload_n 0, 1) := by decide +kernel
theorem dX6_drawAll_1 : decode cX6_drawAll 1 = .ok (.aload_n 1, 1) := by decide +kernel
theorem dX6_drawAll_2 : decode cX6_drawAll 2 = .ok (.aload_n 2, 1) := by decide +kernel
theorem dX6_drawAll_3 : decode cX6_drawAll 3 = .ok (.invokevirtual 40, 3) := by decide +kernel
theorem dX6_drawAll_6 : decode cX6_drawAll 6 = .ok (.iconst 0, 1) := by decide +kernel
theorem dX6_drawAll_7 : decode cX6_drawAll 7 = .ok (.istore 4, 2) := by decide +kernel
theorem dX6_drawAll_9 : decode cX6_drawAll 9 = .ok (.iload 4, 2) := by decide +kernel
theorem dX6_drawAll_11 : decode cX6_drawAll 11 = .ok (.bipush 40, 2) := by decide +kernel
theorem dX6_drawAll_13 : decode cX6_drawAll 13 = .ok (.if_icmp .ge 26, 3) := by decide +kernel
theorem dX6_drawAll_16 : decode cX6_drawAll 16 = .ok (.iload 4, 2) := by decide +kernel
theorem dX6_drawAll_18 : decode cX6_drawAll 18 = .ok (.aload_n 0, 1) := by decide +kernel
theorem dX6_drawAll_19 : decode cX6_drawAll 19 = .ok (.getfield 44, 3) := by decide +kernel
theorem dX6_drawAll_22 : decode cX6_drawAll 22 = .ok (.if_icmp .ge 17, 3) := by decide +kernel
theorem dX6_drawAll_25 : decode cX6_drawAll 25 = .ok (.aload_n 0, 1) := by decide +kernel
theorem dX6_drawAll_26 : decode cX6_drawAll 26 = .ok (.aload_n 1, 1) := by decide +kernel
theorem dX6_drawAll_27 : decode cX6_drawAll 27 = .ok (.aload_n 2, 1) := by decide +kernel
theorem dX6_drawAll_28 : decode cX6_drawAll 28 = .ok (.iload 4, 2) := by decide +kernel
theorem dX6_drawAll_30 : decode cX6_drawAll 30 = .ok (.invokevirtual 52, 3) := by decide +kernel
theorem dX6_drawAll_33 : decode cX6_drawAll 33 = .ok (.iinc 4 1, 3) := by decide +kernel
theorem dX6_drawAll_36 : decode cX6_drawAll 36 = .ok (.goto (-27), 3) := by decide +kernel
theorem dX6_drawAll_39 : decode cX6_drawAll 39 = .ok (.aload_n 0, 1) := by decide +kernel
theorem dX6_drawAll_40 : decode cX6_drawAll 40 = .ok (.getfield 44, 3) := by decide +kernel
theorem dX6_drawAll_43 : decode cX6_drawAll 43 = .ok (.bipush 40, 2) := by decide +kernel
theorem dX6_drawAll_45 : decode cX6_drawAll 45 = .ok (.if_icmp .le 5, 3) := by decide +kernel
theorem dX6_drawAll_48 : decode cX6_drawAll 48 = .ok (.iconst 0, 1) := by decide +kernel
theorem dX6_drawAll_49 : decode cX6_drawAll 49 = .ok (.ireturn, 1) := by decide +kernel
theorem dX6_drawAll_50 : decode cX6_drawAll 50 = .ok (.aload_n 0, 1) := by decide +kernel
theorem dX6_drawAll_51 : decode cX6_drawAll 51 = .ok (.getfield 36, 3) := by decide +kernel
theorem dX6_drawAll_54 : decode cX6_drawAll 54 = .ok (.aload_n 0, 1) := by decide +kernel
theorem dX6_drawAll_55 : decode cX6_drawAll 55 = .ok (.getfield 44, 3) := by decide +kernel
theorem dX6_drawAll_58 : decode cX6_drawAll 58 = .ok (.putfield 56, 3) := by decide +kernel
theorem dX6_drawAll_61 : decode cX6_drawAll 61 = .ok (.iconst 0, 1) := by decide +kernel
theorem dX6_drawAll_62 : decode cX6_drawAll 62 = .ok (.istore 4, 2) := by decide +kernel
theorem dX6_drawAll_64 : decode cX6_drawAll 64 = .ok (.iload 4, 2) := by decide +kernel
theorem dX6_drawAll_66 : decode cX6_drawAll 66 = .ok (.aload_n 0, 1) := by decide +kernel
theorem dX6_drawAll_67 : decode cX6_drawAll 67 = .ok (.getfield 44, 3) := by decide +kernel
theorem dX6_drawAll_70 : decode cX6_drawAll 70 = .ok (.if_icmp .ge 84, 3) := by decide +kernel
theorem dX6_drawAll_73 : decode cX6_drawAll 73 = .ok (.iconst 0, 1) := by decide +kernel
theorem dX6_drawAll_74 : decode cX6_drawAll 74 = .ok (.istore 5, 2) := by decide +kernel
theorem dX6_drawAll_76 : decode cX6_drawAll 76 = .ok (.iload 5, 2) := by decide +kernel
theorem dX6_drawAll_78 : decode cX6_drawAll 78 = .ok (.aload_n 0, 1) := by decide +kernel
theorem dX6_drawAll_79 : decode cX6_drawAll 79 = .ok (.getfield 36, 3) := by decide +kernel
theorem dX6_drawAll_82 : decode cX6_drawAll 82 = .ok (.getfield 61, 3) := by decide +kernel
theorem dX6_drawAll_85 : decode cX6_drawAll 85 = .ok (.if_icmp .ge 35, 3) := by decide +kernel
theorem dX6_drawAll_88 : decode cX6_drawAll 88 = .ok (.aload_n 0, 1) := by decide +kernel
theorem dX6_drawAll_89 : decode cX6_drawAll 89 = .ok (.getfield 36, 3) := by decide +kernel
theorem dX6_drawAll_92 : decode cX6_drawAll 92 = .ok (.iload 4, 2) := by decide +kernel
theorem dX6_drawAll_94 : decode cX6_drawAll 94 = .ok (.aload_n 0, 1) := by decide +kernel
theorem dX6_drawAll_95 : decode cX6_drawAll 95 = .ok (.getfield 9, 3) := by decide +kernel
theorem dX6_drawAll_98 : decode cX6_drawAll 98 = .ok (.aload_n 0, 1) := by decide +kernel
theorem dX6_drawAll_99 : decode cX6_drawAll 99 = .ok (.aload_n 1, 1) := by decide +kernel
theorem dX6_drawAll_100 : decode cX6_drawAll 100 = .ok (.aload_n 2, 1) := by decide +kernel
theorem dX6_drawAll_101 : decode cX6_drawAll 101 = .ok (.iload 4, 2) := by decide +kernel
theorem dX6_drawAll_103 : decode cX6_drawAll 103 = .ok (.iload 5, 2) := by decide +kernel
theorem dX6_drawAll_105 : decode cX6_drawAll 105 = .ok (.invokevirtual 64, 3) := by decide +kernel
theorem dX6_drawAll_108 : decode cX6_drawAll 108 = .ok (.iaload, 1) := by decide +kernel
theorem dX6_drawAll_109 : decode cX6_drawAll 109 = .ok (.iload 5, 2) := by decide +kernel
theorem dX6_drawAll_111 : decode cX6_drawAll 111 = .ok (.invokevirtual 68, 3) := by decide +kernel
theorem dX6_drawAll_114 : decode cX6_drawAll 114 = .ok (.iinc 5 1, 3) := by decide +kernel
theorem dX6_drawAll_117 : decode cX6_drawAll 117 = .ok (.goto (-41), 3) := by decide +kernel
theorem dX6_drawAll_120 : decode cX6_drawAll 120 = .ok (.aload_n 0, 1) := by decide +kernel
theorem dX6_drawAll_121 : decode cX6_drawAll 121 = .ok (.aload_n 1, 1) := by decide +kernel
theorem dX6_drawAll_122 : decode cX6_drawAll 122 = .ok (.aload_n 2, 1) := by decide +kernel
theorem dX6_drawAll_123 : decode cX6_drawAll 123 = .ok (.iload_n 3, 1) := by decide +kernel
theorem dX6_drawAll_124 : decode cX6_drawAll 124 = .ok (.iload 4, 2) := by decide +kernel
theorem dX6_drawAll_126 : decode cX6_drawAll 126 = .ok (.invokevirtual 48, 3) := by decide +kernel
theorem dX6_drawAll_129 : decode cX6_drawAll 129 = .ok (.ifCond .eq 19, 3) := by decide +kernel
theorem dX6_drawAll_132 : decode cX6_drawAll 132 = .ok (.aload_n 0, 1) := by decide +kernel
theorem dX6_drawAll_133 : decode cX6_drawAll 133 = .ok (.getfield 36, 3) := by decide +kernel
theorem dX6_drawAll_136 : decode cX6_drawAll 136 = .ok (.dup, 1) := by decide +kernel
theorem dX6_drawAll_137 : decode cX6_drawAll 137 = .ok (.getfield 72, 3) := by decide +kernel
theorem dX6_drawAll_140 : decode cX6_drawAll 140 = .ok (.lconst 1, 1) := by decide +kernel
theorem dX6_drawAll_141 : decode cX6_drawAll 141 = .ok (.iload 4, 2) := by decide +kernel
theorem dX6_drawAll_143 : decode cX6_drawAll 143 = .ok (.lshl, 1) := by decide +kernel
theorem dX6_drawAll_144 : decode cX6_drawAll 144 = .ok (.lor, 1) := by decide +kernel
theorem dX6_drawAll_145 : decode cX6_drawAll 145 = .ok (.putfield 72, 3) := by decide +kernel
theorem dX6_drawAll_148 : decode cX6_drawAll 148 = .ok (.iinc 4 1, 3) := by decide +kernel
theorem dX6_drawAll_151 : decode cX6_drawAll 151 = .ok (.goto (-87), 3) := by decide +kernel
theorem dX6_drawAll_154 : decode cX6_drawAll 154 = .ok (.iconst 1, 1) := by decide +kernel
theorem dX6_drawAll_155 : decode cX6_drawAll 155 = .ok (.ireturn, 1) := by decide +kernel
theorem dX6_letterOnWay_0 : decode cX6_letterOnWay 0 = .ok (.iload_n 1, 1) := by decide +kernel
theorem dX6_letterOnWay_1 : decode cX6_letterOnWay 1 = .ok (.istore_n 3, 1) := by decide +kernel
theorem dX6_letterOnWay_2 : decode cX6_letterOnWay 2 = .ok (.aload_n 0, 1) := by decide +kernel
theorem dX6_letterOnWay_3 : decode cX6_letterOnWay 3 = .ok (.getfield 27, 3) := by decide +kernel
theorem dX6_letterOnWay_6 : decode cX6_letterOnWay 6 = .ok (.iload_n 1, 1) := by decide +kernel
theorem dX6_letterOnWay_7 : decode cX6_letterOnWay 7 = .ok (.iaload, 1) := by decide +kernel
theorem dX6_letterOnWay_8 : decode cX6_letterOnWay 8 = .ok (.iconst 1, 1) := by decide +kernel
theorem dX6_letterOnWay_9 : decode cX6_letterOnWay 9 = .ok (.isub, 1) := by decide +kernel
theorem dX6_letterOnWay_10 : decode cX6_letterOnWay 10 = .ok (.istore 4, 2) := by decide +kernel
theorem dX6_letterOnWay_12 : decode cX6_letterOnWay 12 = .ok (.iload 4, 2) := by decide +kernel
theorem dX6_letterOnWay_14 : decode cX6_letterOnWay 14 = .ok (.iload_n 2, 1) := by decide +kernel
theorem dX6_letterOnWay_15 : decode cX6_letterOnWay 15 = .ok (.if_icmp .le 25, 3) := by decide +kernel
theorem dX6_letterOnWay_18 : decode cX6_letterOnWay 18 = .ok (.aload_n 0, 1) := by decide +kernel
theorem dX6_letterOnWay_19 : decode cX6_letterOnWay 19 = .ok (.getfield 21, 3) := by decide +kernel
theorem dX6_letterOnWay_22 : decode cX6_letterOnWay 22 = .ok (.iload_n 3, 1) := by decide +kernel
theorem dX6_letterOnWay_23 : decode cX6_letterOnWay 23 = .ok (.iaload, 1) := by decide +kernel
theorem dX6_letterOnWay_24 : decode cX6_letterOnWay 24 = .ok (.ifCond .lt 16, 3) := by decide +kernel
theorem dX6_letterOnWay_27 : decode cX6_letterOnWay 27 = .ok (.aload_n 0, 1) := by decide +kernel
theorem dX6_letterOnWay_28 : decode cX6_letterOnWay 28 = .ok (.getfield 21, 3) := by decide +kernel
theorem dX6_letterOnWay_31 : decode cX6_letterOnWay 31 = .ok (.iload_n 3, 1) := by decide +kernel
theorem dX6_letterOnWay_32 : decode cX6_letterOnWay 32 = .ok (.iaload, 1) := by decide +kernel
theorem dX6_letterOnWay_33 : decode cX6_letterOnWay 33 = .ok (.istore_n 3, 1) := by decide +kernel
theorem dX6_letterOnWay_34 : decode cX6_letterOnWay 34 = .ok (.iinc 4 (-1), 3) := by decide +kernel
theorem dX6_letterOnWay_37 : decode cX6_letterOnWay 37 = .ok (.goto (-25), 3) := by decide +kernel
theorem dX6_letterOnWay_40 : decode cX6_letterOnWay 40 = .ok (.aload_n 0, 1) := by decide +kernel
theorem dX6_letterOnWay_41 : decode cX6_letterOnWay 41 = .ok (.getfield 36, 3) := by decide +kernel
theorem dX6_letterOnWay_44 : decode cX6_letterOnWay 44 = .ok (.getfield 76, 3) := by decide +kernel
theorem dX6_letterOnWay_47 : decode cX6_letterOnWay 47 = .ok (.aload_n 0, 1) := by decide +kernel
theorem dX6_letterOnWay_48 : decode cX6_letterOnWay 48 = .ok (.getfield 24, 3) := by decide +kernel
theorem dX6_letterOnWay_51 : decode cX6_letterOnWay 51 = .ok (.iload_n 3, 1) := by decide +kernel
theorem dX6_letterOnWay_52 : decode cX6_letterOnWay 52 = .ok (.iaload, 1) := by decide +kernel
theorem dX6_letterOnWay_53 : decode cX6_letterOnWay 53 = .ok (.iconst 0, 1) := by decide +kernel
theorem dX6_letterOnWay_54 : decode cX6_letterOnWay 54 = .ok (.invokestatic 79, 3) := by decide +kernel
theorem dX6_letterOnWay_57 : decode cX6_letterOnWay 57 = .ok (.iaload, 1) := by decide +kernel
theorem dX6_letterOnWay_58 : decode cX6_letterOnWay 58 = .ok (.ireturn, 1) := by decide +kernel
theorem dX6_begin_0 : decode cX6_begin 0 = .ok (.aload_n 0, 1) := by decide +kernel
theorem dX6_begin_1 : decode cX6_begin 1 = .ok (.getfield 36, 3) := by decide +kernel
theorem dX6_begin_4 : decode cX6_begin 4 = .ok (.iconst 1, 1) := by decide +kernel
theorem dX6_begin_5 : decode cX6_begin 5 = .ok (.invokevirtual 85, 3) := by decide +kernel
theorem dX6_begin_8 : decode cX6_begin 8 = .ok (.aload_n 0, 1) := by decide +kernel
theorem dX6_begin_9 : decode cX6_begin 9 = .ok (.getfield 36, 3) := by decide +kernel
theorem dX6_begin_12 : decode cX6_begin 12 = .ok (.aload_n 1, 1) := by decide +kernel
theorem dX6_begin_13 : decode cX6_begin 13 = .ok (.iconst 0, 1) := by decide +kernel
theorem dX6_begin_14 : decode cX6_begin 14 = .ok (.invokevirtual 88, 3) := by decide +kernel
theorem dX6_begin_17 : decode cX6_begin 17 = .ok (.aload_n 0, 1) := by decide +kernel
theorem dX6_begin_18 : decode cX6_begin 18 = .ok (.getfield 36, 3) := by decide +kernel
theorem dX6_begin_21 : decode cX6_begin 21 = .ok (.aload_n 2, 1) := by decide +kernel
theorem dX6_begin_22 : decode cX6_begin 22 = .ok (.iconst 0, 1) := by decide +kernel
theorem dX6_begin_23 : decode cX6_begin 23 = .ok (.invokevirtual 88, 3) := by decide +kernel
theorem dX6_begin_26 : decode cX6_begin 26 = .ok (.iconst 0, 1) := by decide +kernel
theorem dX6_begin_27 : decode cX6_begin 27 = .ok (.istore_n 3, 1) := by decide +kernel
theorem dX6_begin_28 : decode cX6_begin 28 = .ok (.iload_n 3, 1) := by decide +kernel
theorem dX6_begin_29 : decode cX6_begin 29 = .ok (.aload_n 0, 1) := by decide +kernel
theorem dX6_begin_30 : decode cX6_begin 30 = .ok (.getfield 36, 3) := by decide +kernel
theorem dX6_begin_33 : decode cX6_begin 33 = .ok (.getfield 61, 3) := by decide +kernel
theorem dX6_begin_36 : decode cX6_begin 36 = .ok (.if_icmp .ge 47, 3) := by decide +kernel
theorem dX6_begin_39 : decode cX6_begin 39 = .ok (.aload_n 0, 1) := by decide +kernel
theorem dX6_begin_40 : decode cX6_begin 40 = .ok (.getfield 30, 3) := by decide +kernel
theorem dX6_begin_43 : decode cX6_begin 43 = .ok (.iload_n 3, 1) := by decide +kernel
theorem dX6_begin_44 : decode cX6_begin 44 = .ok (.aload_n 1, 1) := by decide +kernel
theorem dX6_begin_45 : decode cX6_begin 45 = .ok (.aload_n 0, 1) := by decide +kernel
theorem dX6_begin_46 : decode cX6_begin 46 = .ok (.getfield 36, 3) := by decide +kernel
theorem dX6_begin_49 : decode cX6_begin 49 = .ok (.getfield 76, 3) := by decide +kernel
theorem dX6_begin_52 : decode cX6_begin 52 = .ok (.iload_n 3, 1) := by decide +kernel
theorem dX6_begin_53 : decode cX6_begin 53 = .ok (.iaload, 1) := by decide +kernel
theorem dX6_begin_54 : decode cX6_begin 54 = .ok (.invokevirtual 92, 3) := by decide +kernel
theorem dX6_begin_57 : decode cX6_begin 57 = .ok (.iastore, 1) := by decide +kernel
theorem dX6_begin_58 : decode cX6_begin 58 = .ok (.aload_n 0, 1) := by decide +kernel
theorem dX6_begin_59 : decode cX6_begin 59 = .ok (.getfield 33, 3) := by decide +kernel
theorem dX6_begin_62 : decode cX6_begin 62 = .ok (.iload_n 3, 1) := by decide +kernel
theorem dX6_begin_63 : decode cX6_begin 63 = .ok (.aload_n 2, 1) := by decide +kernel
theorem dX6_begin_64 : decode cX6_begin 64 = .ok (.aload_n 0, 1) := by decide +kernel
theorem dX6_begin_65 : decode cX6_begin 65 = .ok (.getfield 36, 3) := by decide +kernel
theorem dX6_begin_68 : decode cX6_begin 68 = .ok (.getfield 76, 3) := by decide +kernel
theorem dX6_begin_71 : decode cX6_begin 71 = .ok (.iload_n 3, 1) := by decide +kernel
theorem dX6_begin_72 : decode cX6_begin 72 = .ok (.iaload, 1) := by decide +kernel
theorem dX6_begin_73 : decode cX6_begin 73 = .ok (.invokevirtual 92, 3) := by decide +kernel
theorem dX6_begin_76 : decode cX6_begin 76 = .ok (.iastore, 1) := by decide +kernel
theorem dX6_begin_77 : decode cX6_begin 77 = .ok (.iinc 3 1, 3) := by decide +kernel
theorem dX6_begin_80 : decode cX6_begin 80 = .ok (.goto (-52), 3) := by decide +kernel
theorem dX6_begin_83 : decode cX6_begin 83 = .ok (.aload_n 0, 1) := by decide +kernel
theorem dX6_begin_84 : decode cX6_begin 84 = .ok (.getfield 9, 3) := by decide +kernel
theorem dX6_begin_87 : decode cX6_begin 87 = .ok (.iconst (-1), 1) := by decide +kernel
theorem dX6_begin_88 : decode cX6_begin 88 = .ok (.invokestatic 98, 3) := by decide +kernel
theorem dX6_begin_91 : decode cX6_begin 91 = .ok (.aload_n 0, 1) := by decide +kernel
theorem dX6_begin_92 : decode cX6_begin 92 = .ok (.iconst 0, 1) := by decide +kernel
theorem dX6_begin_93 : decode cX6_begin 93 = .ok (.putfield 44, 3) := by decide +kernel
theorem dX6_begin_96 : decode cX6_begin 96 = .ok (.aload_n 0, 1) := by decide +kernel
theorem dX6_begin_97 : decode cX6_begin 97 = .ok (.iconst 0, 1) := by decide +kernel
theorem dX6_begin_98 : decode cX6_begin 98 = .ok (.iconst (-1), 1) := by decide +kernel
theorem dX6_begin_99 : decode cX6_begin 99 = .ok (.iconst (-1), 1) := by decide +kernel
theorem dX6_begin_100 : decode cX6_begin 100 = .ok (.invokevirtual 104, 3) := by decide +kernel
theorem dX6_begin_103 : decode cX6_begin 103 = .ok (.return_, 1) := by decide +kernel
theorem dX6_isTrueOf_0 : decode cX6_isTrueOf 0 = .ok (.iload_n 3, 1) := by decide +kernel
theorem dX6_isTrueOf_1 : decode cX6_isTrueOf 1 = .ok (.aload_n 1, 1) := by decide +kernel
theorem dX6_isTrueOf_2 : decode cX6_isTrueOf 2 = .ok (.getfield 107, 3) := by decide +kernel
theorem dX6_isTrueOf_5 : decode cX6_isTrueOf 5 = .ok (.aload_n 0, 1) := by decide +kernel
theorem dX6_isTrueOf_6 : decode cX6_isTrueOf 6 = .ok (.getfield 15, 3) := by decide +kernel
theorem dX6_isTrueOf_9 : decode cX6_isTrueOf 9 = .ok (.iload 4, 2) := by decide +kernel
theorem dX6_isTrueOf_11 : decode cX6_isTrueOf 11 = .ok (.iaload, 1) := by decide +kernel
theorem dX6_isTrueOf_12 : decode cX6_isTrueOf 12 = .ok (.invokevirtual 111, 3) := by decide +kernel
theorem dX6_isTrueOf_15 : decode cX6_isTrueOf 15 = .ok (.aload_n 2, 1) := by decide +kernel
theorem dX6_isTrueOf_16 : decode cX6_isTrueOf 16 = .ok (.getfield 107, 3) := by decide +kernel
theorem dX6_isTrueOf_19 : decode cX6_isTrueOf 19 = .ok (.aload_n 0, 1) := by decide +kernel
theorem dX6_isTrueOf_20 : decode cX6_isTrueOf 20 = .ok (.getfield 18, 3) := by decide +kernel
theorem dX6_isTrueOf_23 : decode cX6_isTrueOf 23 = .ok (.iload 4, 2) := by decide +kernel
theorem dX6_isTrueOf_25 : decode cX6_isTrueOf 25 = .ok (.iaload, 1) := by decide +kernel
theorem dX6_isTrueOf_26 : decode cX6_isTrueOf 26 = .ok (.invokevirtual 111, 3) := by decide +kernel
theorem dX6_isTrueOf_29 : decode cX6_isTrueOf 29 = .ok (.invokestatic 117, 3) := by decide +kernel
theorem dX6_isTrueOf_32 : decode cX6_isTrueOf 32 = .ok (.ireturn, 1) := by decide +kernel
theorem dX6_keyAfter_0 : decode cX6_keyAfter 0 = .ok (.aload_n 1, 1) := by decide +kernel
theorem dX6_keyAfter_1 : decode cX6_keyAfter 1 = .ok (.getfield 107, 3) := by decide +kernel
theorem dX6_keyAfter_4 : decode cX6_keyAfter 4 = .ok (.aload_n 0, 1) := by decide +kernel
theorem dX6_keyAfter_5 : decode cX6_keyAfter 5 = .ok (.getfield 15, 3) := by decide +kernel
theorem dX6_keyAfter_8 : decode cX6_keyAfter 8 = .ok (.iload_n 3, 1) := by decide +kernel
theorem dX6_keyAfter_9 : decode cX6_keyAfter 9 = .ok (.iaload, 1) := by decide +kernel
theorem dX6_keyAfter_10 : decode cX6_keyAfter 10 = .ok (.aload_n 0, 1) := by decide +kernel
theorem dX6_keyAfter_11 : decode cX6_keyAfter 11 = .ok (.getfield 30, 3) := by decide +kernel
theorem dX6_keyAfter_14 : decode cX6_keyAfter 14 = .ok (.iload 4, 2) := by decide +kernel
theorem dX6_keyAfter_16 : decode cX6_keyAfter 16 = .ok (.iaload, 1) := by decide +kernel
theorem dX6_keyAfter_17 : decode cX6_keyAfter 17 = .ok (.invokevirtual 121, 3) := by decide +kernel
theorem dX6_keyAfter_20 : decode cX6_keyAfter 20 = .ok (.bipush 40, 2) := by decide +kernel
theorem dX6_keyAfter_22 : decode cX6_keyAfter 22 = .ok (.imul, 1) := by decide +kernel
theorem dX6_keyAfter_23 : decode cX6_keyAfter 23 = .ok (.aload_n 2, 1) := by decide +kernel
theorem dX6_keyAfter_24 : decode cX6_keyAfter 24 = .ok (.getfield 107, 3) := by decide +kernel
theorem dX6_keyAfter_27 : decode cX6_keyAfter 27 = .ok (.aload_n 0, 1) := by decide +kernel
theorem dX6_keyAfter_28 : decode cX6_keyAfter 28 = .ok (.getfield 18, 3) := by decide +kernel
theorem dX6_keyAfter_31 : decode cX6_keyAfter 31 = .ok (.iload_n 3, 1) := by decide +kernel
theorem dX6_keyAfter_32 : decode cX6_keyAfter 32 = .ok (.iaload, 1) := by decide +kernel
theorem dX6_keyAfter_33 : decode cX6_keyAfter 33 = .ok (.aload_n 0, 1) := by decide +kernel
theorem dX6_keyAfter_34 : decode cX6_keyAfter 34 = .ok (.getfield 33, 3) := by decide +kernel
theorem dX6_keyAfter_37 : decode cX6_keyAfter 37 = .ok (.iload 4, 2) := by decide +kernel
theorem dX6_keyAfter_39 : decode cX6_keyAfter 39 = .ok (.iaload, 1) := by decide +kernel
theorem dX6_keyAfter_40 : decode cX6_keyAfter 40 = .ok (.invokevirtual 121, 3) := by decide +kernel
theorem dX6_keyAfter_43 : decode cX6_keyAfter 43 = .ok (.iadd, 1) := by decide +kernel
theorem dX6_keyAfter_44 : decode cX6_keyAfter 44 = .ok (.ireturn, 1) := by decide +kernel
theorem dX6_widen_0 : decode cX6_widen 0 = .ok (.iconst 0, 1) := by decide +kernel
theorem dX6_widen_1 : decode cX6_widen 1 = .ok (.istore 4, 2) := by decide +kernel
theorem dX6_widen_3 : decode cX6_widen 3 = .ok (.iload 4, 2) := by decide +kernel
theorem dX6_widen_5 : decode cX6_widen 5 = .ok (.aload_n 0, 1) := by decide +kernel
theorem dX6_widen_6 : decode cX6_widen 6 = .ok (.getfield 36, 3) := by decide +kernel
theorem dX6_widen_9 : decode cX6_widen 9 = .ok (.getfield 61, 3) := by decide +kernel
theorem dX6_widen_12 : decode cX6_widen 12 = .ok (.if_icmp .ge 40, 3) := by decide +kernel
theorem dX6_widen_15 : decode cX6_widen 15 = .ok (.aload_n 0, 1) := by decide +kernel
theorem dX6_widen_16 : decode cX6_widen 16 = .ok (.aload_n 1, 1) := by decide +kernel
theorem dX6_widen_17 : decode cX6_widen 17 = .ok (.aload_n 2, 1) := by decide +kernel
theorem dX6_widen_18 : decode cX6_widen 18 = .ok (.iload_n 3, 1) := by decide +kernel
theorem dX6_widen_19 : decode cX6_widen 19 = .ok (.iload 4, 2) := by decide +kernel
theorem dX6_widen_21 : decode cX6_widen 21 = .ok (.invokevirtual 64, 3) := by decide +kernel
theorem dX6_widen_24 : decode cX6_widen 24 = .ok (.istore 5, 2) := by decide +kernel
theorem dX6_widen_26 : decode cX6_widen 26 = .ok (.aload_n 0, 1) := by decide +kernel
theorem dX6_widen_27 : decode cX6_widen 27 = .ok (.getfield 9, 3) := by decide +kernel
theorem dX6_widen_30 : decode cX6_widen 30 = .ok (.iload 5, 2) := by decide +kernel
theorem dX6_widen_32 : decode cX6_widen 32 = .ok (.iaload, 1) := by decide +kernel
theorem dX6_widen_33 : decode cX6_widen 33 = .ok (.iconst (-1), 1) := by decide +kernel
theorem dX6_widen_34 : decode cX6_widen 34 = .ok (.if_icmp .ne 12, 3) := by decide +kernel
theorem dX6_widen_37 : decode cX6_widen 37 = .ok (.aload_n 0, 1) := by decide +kernel
theorem dX6_widen_38 : decode cX6_widen 38 = .ok (.iload 5, 2) := by decide +kernel
theorem dX6_widen_40 : decode cX6_widen 40 = .ok (.iload_n 3, 1) := by decide +kernel
theorem dX6_widen_41 : decode cX6_widen 41 = .ok (.iload 4, 2) := by decide +kernel
theorem dX6_widen_43 : decode cX6_widen 43 = .ok (.invokevirtual 104, 3) := by decide +kernel
theorem dX6_widen_46 : decode cX6_widen 46 = .ok (.iinc 4 1, 3) := by decide +kernel
theorem dX6_widen_49 : decode cX6_widen 49 = .ok (.goto (-46), 3) := by decide +kernel
theorem dX6_widen_52 : decode cX6_widen 52 = .ok (.return_, 1) := by decide +kernel
theorem dX6_add_0 : decode cX6_add 0 = .ok (.aload_n 0, 1) := by decide +kernel
theorem dX6_add_1 : decode cX6_add 1 = .ok (.getfield 44, 3) := by decide +kernel
theorem dX6_add_4 : decode cX6_add 4 = .ok (.sipush 1600, 3) := by decide +kernel
theorem dX6_add_7 : decode cX6_add 7 = .ok (.if_icmp .lt 4, 3) := by decide +kernel
theorem dX6_add_10 : decode cX6_add 10 = .ok (.return_, 1) := by decide +kernel
theorem dX6_add_11 : decode cX6_add 11 = .ok (.aload_n 0, 1) := by decide +kernel
theorem dX6_add_12 : decode cX6_add 12 = .ok (.getfield 9, 3) := by decide +kernel
theorem dX6_add_15 : decode cX6_add 15 = .ok (.iload_n 1, 1) := by decide +kernel
theorem dX6_add_16 : decode cX6_add 16 = .ok (.aload_n 0, 1) := by decide +kernel
theorem dX6_add_17 : decode cX6_add 17 = .ok (.getfield 44, 3) := by decide +kernel
theorem dX6_add_20 : decode cX6_add 20 = .ok (.iastore, 1) := by decide +kernel
theorem dX6_add_21 : decode cX6_add 21 = .ok (.aload_n 0, 1) := by decide +kernel
theorem dX6_add_22 : decode cX6_add 22 = .ok (.getfield 15, 3) := by decide +kernel
theorem dX6_add_25 : decode cX6_add 25 = .ok (.aload_n 0, 1) := by decide +kernel
theorem dX6_add_26 : decode cX6_add 26 = .ok (.getfield 44, 3) := by decide +kernel
theorem dX6_add_29 : decode cX6_add 29 = .ok (.iload_n 1, 1) := by decide +kernel
theorem dX6_add_30 : decode cX6_add 30 = .ok (.bipush 40, 2) := by decide +kernel
theorem dX6_add_32 : decode cX6_add 32 = .ok (.idiv, 1) := by decide +kernel
theorem dX6_add_33 : decode cX6_add 33 = .ok (.iastore, 1) := by decide +kernel
theorem dX6_add_34 : decode cX6_add 34 = .ok (.aload_n 0, 1) := by decide +kernel
theorem dX6_add_35 : decode cX6_add 35 = .ok (.getfield 18, 3) := by decide +kernel
theorem dX6_add_38 : decode cX6_add 38 = .ok (.aload_n 0, 1) := by decide +kernel
theorem dX6_add_39 : decode cX6_add 39 = .ok (.getfield 44, 3) := by decide +kernel
theorem dX6_add_42 : decode cX6_add 42 = .ok (.iload_n 1, 1) := by decide +kernel
theorem dX6_add_43 : decode cX6_add 43 = .ok (.bipush 40, 2) := by decide +kernel
theorem dX6_add_45 : decode cX6_add 45 = .ok (.irem, 1) := by decide +kernel
theorem dX6_add_46 : decode cX6_add 46 = .ok (.iastore, 1) := by decide +kernel
theorem dX6_add_47 : decode cX6_add 47 = .ok (.aload_n 0, 1) := by decide +kernel
theorem dX6_add_48 : decode cX6_add 48 = .ok (.getfield 21, 3) := by decide +kernel
theorem dX6_add_51 : decode cX6_add 51 = .ok (.aload_n 0, 1) := by decide +kernel
theorem dX6_add_52 : decode cX6_add 52 = .ok (.getfield 44, 3) := by decide +kernel
theorem dX6_add_55 : decode cX6_add 55 = .ok (.iload_n 2, 1) := by decide +kernel
theorem dX6_add_56 : decode cX6_add 56 = .ok (.iastore, 1) := by decide +kernel
theorem dX6_add_57 : decode cX6_add 57 = .ok (.aload_n 0, 1) := by decide +kernel
theorem dX6_add_58 : decode cX6_add 58 = .ok (.getfield 24, 3) := by decide +kernel
theorem dX6_add_61 : decode cX6_add 61 = .ok (.aload_n 0, 1) := by decide +kernel
theorem dX6_add_62 : decode cX6_add 62 = .ok (.getfield 44, 3) := by decide +kernel
theorem dX6_add_65 : decode cX6_add 65 = .ok (.iload_n 3, 1) := by decide +kernel
theorem dX6_add_66 : decode cX6_add 66 = .ok (.iastore, 1) := by decide +kernel
theorem dX6_add_67 : decode cX6_add 67 = .ok (.aload_n 0, 1) := by decide +kernel
theorem dX6_add_68 : decode cX6_add 68 = .ok (.getfield 27, 3) := by decide +kernel
theorem dX6_add_71 : decode cX6_add 71 = .ok (.aload_n 0, 1) := by decide +kernel
theorem dX6_add_72 : decode cX6_add 72 = .ok (.getfield 44, 3) := by decide +kernel
theorem dX6_add_75 : decode cX6_add 75 = .ok (.iload_n 2, 1) := by decide +kernel
theorem dX6_add_76 : decode cX6_add 76 = .ok (.ifCond .ge 7, 3) := by decide +kernel
theorem dX6_add_79 : decode cX6_add 79 = .ok (.iconst 0, 1) := by decide +kernel
theorem dX6_add_80 : decode cX6_add 80 = .ok (.goto 11, 3) := by decide +kernel
theorem dX6_add_83 : decode cX6_add 83 = .ok (.aload_n 0, 1) := by decide +kernel
theorem dX6_add_84 : decode cX6_add 84 = .ok (.getfield 27, 3) := by decide +kernel
theorem dX6_add_87 : decode cX6_add 87 = .ok (.iload_n 2, 1) := by decide +kernel
theorem dX6_add_88 : decode cX6_add 88 = .ok (.iaload, 1) := by decide +kernel
theorem dX6_add_89 : decode cX6_add 89 = .ok (.iconst 1, 1) := by decide +kernel
theorem dX6_add_90 : decode cX6_add 90 = .ok (.iadd, 1) := by decide +kernel
theorem dX6_add_91 : decode cX6_add 91 = .ok (.iastore, 1) := by decide +kernel
theorem dX6_add_92 : decode cX6_add 92 = .ok (.aload_n 0, 1) := by decide +kernel
theorem dX6_add_93 : decode cX6_add 93 = .ok (.dup, 1) := by decide +kernel
theorem dX6_add_94 : decode cX6_add 94 = .ok (.getfield 44, 3) := by decide +kernel
theorem dX6_add_97 : decode cX6_add 97 = .ok (.iconst 1, 1) := by decide +kernel
theorem dX6_add_98 : decode cX6_add 98 = .ok (.iadd, 1) := by decide +kernel
theorem dX6_add_99 : decode cX6_add 99 = .ok (.putfield 44, 3) := by decide +kernel
theorem dX6_add_102 : decode cX6_add 102 = .ok (.return_, 1) := by decide +kernel
